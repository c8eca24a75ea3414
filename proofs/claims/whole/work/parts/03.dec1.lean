theorem dX0_init_0 : decode cX0_init 0 = .ok (.aload_n 0, 1) := by decide +kernel
theorem dX0_init_1 : decode cX0_init 1 = .ok (.invokespecial 1, 3) := by decide +kernel
theorem dX0_init_4 : decode cX0_init 4 = .ok (.aload_n 0, 1) := by decide +kernel
theorem dX0_init_5 : decode cX0_init 5 = .ok (.lconst 0, 1) := by decide +kernel
theorem dX0_init_6 : decode cX0_init 6 = .ok (.putfield 7, 3) := by decide +kernel
theorem dX0_init_9 : decode cX0_init 9 = .ok (.aload_n 0, 1) := by decide +kernel
theorem dX0_init_10 : decode cX0_init 10 = .ok (.lconst 1, 1) := by decide +kernel
theorem dX0_init_11 : decode cX0_init 11 = .ok (.putfield 13, 3) := by decide +kernel
theorem dX0_init_14 : decode cX0_init 14 = .ok (.return_, 1) := by decide +kernel
set_option maxRecDepth 20000 in
theorem ggX0_put_X0_commonDivisor : GoodIn wsX0_put wsX0_commonDivisor := goodIn_r _ [6] (by decide +kernel) (by decide +kernel)
set_option maxRecDepth 20000 in
theorem gX0_put_X0_commonDivisor : GoodIn wsX0_put (va_wsS RX0 16 yX0_commonDivisor wsX0_commonDivisor) := goodIn_app (goodIn_of _ (by decide +kernel)) ggX0_put_X0_commonDivisor
theorem dX0_put_0 : decode cX0_put 0 = .ok (.lload_n 1, 1) := by decide +kernel
theorem dX0_put_1 : decode cX0_put 1 = .ok (.lload_n 3, 1) := by decide +kernel
theorem dX0_put_2 : decode cX0_put 2 = .ok (.invokestatic 16, 3) := by decide +kernel
theorem dX0_put_5 : decode cX0_put 5 = .ok (.lstore 5, 2) := by decide +kernel
theorem dX0_put_7 : decode cX0_put 7 = .ok (.lload 5, 2) := by decide +kernel
theorem dX0_put_9 : decode cX0_put 9 = .ok (.lconst 0, 1) := by decide +kernel
theorem dX0_put_10 : decode cX0_put 10 = .ok (.lcmp, 1) := by decide +kernel
theorem dX0_put_11 : decode cX0_put 11 = .ok (.ifCond .le 19, 3) := by decide +kernel
theorem dX0_put_14 : decode cX0_put 14 = .ok (.aload_n 0, 1) := by decide +kernel
theorem dX0_put_15 : decode cX0_put 15 = .ok (.lload_n 1, 1) := by decide +kernel
theorem dX0_put_16 : decode cX0_put 16 = .ok (.lload 5, 2) := by decide +kernel
theorem dX0_put_18 : decode cX0_put 18 = .ok (.ldiv, 1) := by decide +kernel
theorem dX0_put_19 : decode cX0_put 19 = .ok (.putfield 7, 3) := by decide +kernel
theorem dX0_put_22 : decode cX0_put 22 = .ok (.aload_n 0, 1) := by decide +kernel
theorem dX0_put_23 : decode cX0_put 23 = .ok (.lload_n 3, 1) := by decide +kernel
theorem dX0_put_24 : decode cX0_put 24 = .ok (.lload 5, 2) := by decide +kernel
theorem dX0_put_26 : decode cX0_put 26 = .ok (.ldiv, 1) := by decide +kernel
theorem dX0_put_27 : decode cX0_put 27 = .ok (.putfield 13, 3) := by decide +kernel
theorem dX0_put_30 : decode cX0_put 30 = .ok (.return_, 1) := by decide +kernel
set_option maxRecDepth 20000 in
theorem ggX0_addOneBy_X0_put : GoodIn wsX0_addOneBy wsX0_put := goodIn_r _ [7, 1, 2, 8, 9, 6, 10, 11, 12] (by decide +kernel) (by decide +kernel)
set_option maxRecDepth 20000 in
theorem gX0_addOneBy_X0_put : GoodIn wsX0_addOneBy (wsV RX0 20 RX0 yX0_put wsX0_put) := goodIn_app (goodIn_of _ (by decide +kernel)) ggX0_addOneBy_X0_put
theorem dX0_addOneBy_0 : decode cX0_addOneBy 0 = .ok (.aload_n 0, 1) := by decide +kernel
theorem dX0_addOneBy_1 : decode cX0_addOneBy 1 = .ok (.aload_n 0, 1) := by decide +kernel
theorem dX0_addOneBy_2 : decode cX0_addOneBy 2 = .ok (.getfield 7, 3) := by decide +kernel
theorem dX0_addOneBy_5 : decode cX0_addOneBy 5 = .ok (.lload_n 1, 1) := by decide +kernel
theorem dX0_addOneBy_6 : decode cX0_addOneBy 6 = .ok (.lmul, 1) := by decide +kernel
theorem dX0_addOneBy_7 : decode cX0_addOneBy 7 = .ok (.aload_n 0, 1) := by decide +kernel
theorem dX0_addOneBy_8 : decode cX0_addOneBy 8 = .ok (.getfield 13, 3) := by decide +kernel
theorem dX0_addOneBy_11 : decode cX0_addOneBy 11 = .ok (.ladd, 1) := by decide +kernel
theorem dX0_addOneBy_12 : decode cX0_addOneBy 12 = .ok (.aload_n 0, 1) := by decide +kernel
theorem dX0_addOneBy_13 : decode cX0_addOneBy 13 = .ok (.getfield 13, 3) := by decide +kernel
theorem dX0_addOneBy_16 : decode cX0_addOneBy 16 = .ok (.lload_n 1, 1) := by decide +kernel
theorem dX0_addOneBy_17 : decode cX0_addOneBy 17 = .ok (.lmul, 1) := by decide +kernel
theorem dX0_addOneBy_18 : decode cX0_addOneBy 18 = .ok (.invokevirtual 20, 3) := by decide +kernel
theorem dX0_addOneBy_21 : decode cX0_addOneBy 21 = .ok (.return_, 1) := by decide +kernel
theorem dX0_commonDivisor_0 : decode cX0_commonDivisor 0 = .ok (.lload_n 0, 1) := by decide +kernel
theorem dX0_commonDivisor_1 : decode cX0_commonDivisor 1 = .ok (.lstore 4, 2) := by decide +kernel
theorem dX0_commonDivisor_3 : decode cX0_commonDivisor 3 = .ok (.lload_n 2, 1) := by decide +kernel
theorem dX0_commonDivisor_4 : decode cX0_commonDivisor 4 = .ok (.lstore 6, 2) := by decide +kernel
theorem dX0_commonDivisor_6 : decode cX0_commonDivisor 6 = .ok (.iconst 0, 1) := by decide +kernel
theorem dX0_commonDivisor_7 : decode cX0_commonDivisor 7 = .ok (.istore 8, 2) := by decide +kernel
theorem dX0_commonDivisor_9 : decode cX0_commonDivisor 9 = .ok (.iload 8, 2) := by decide +kernel
theorem dX0_commonDivisor_11 : decode cX0_commonDivisor 11 = .ok (.bipush 100, 2) := by decide +kernel
theorem dX0_commonDivisor_13 : decode cX0_commonDivisor 13 = .ok (.if_icmp .ge 31, 3) := by decide +kernel
theorem dX0_commonDivisor_16 : decode cX0_commonDivisor 16 = .ok (.lload 6, 2) := by decide +kernel
theorem dX0_commonDivisor_18 : decode cX0_commonDivisor 18 = .ok (.lconst 0, 1) := by decide +kernel
theorem dX0_commonDivisor_19 : decode cX0_commonDivisor 19 = .ok (.lcmp, 1) := by decide +kernel
theorem dX0_commonDivisor_20 : decode cX0_commonDivisor 20 = .ok (.ifCond .eq 24, 3) := by decide +kernel
theorem dX0_commonDivisor_23 : decode cX0_commonDivisor 23 = .ok (.lload 4, 2) := by decide +kernel
theorem dX0_commonDivisor_25 : decode cX0_commonDivisor 25 = .ok (.lload 6, 2) := by decide +kernel
theorem dX0_commonDivisor_27 : decode cX0_commonDivisor 27 = .ok (.lrem, 1) := by decide +kernel
theorem dX0_commonDivisor_28 : decode cX0_commonDivisor 28 = .ok (.lstore 9, 2) := by decide +kernel
theorem dX0_commonDivisor_30 : decode cX0_commonDivisor 30 = .ok (.lload 6, 2) := by decide +kernel
theorem dX0_commonDivisor_32 : decode cX0_commonDivisor 32 = .ok (.lstore 4, 2) := by decide +kernel
theorem dX0_commonDivisor_34 : decode cX0_commonDivisor 34 = .ok (.lload 9, 2) := by decide +kernel
theorem dX0_commonDivisor_36 : decode cX0_commonDivisor 36 = .ok (.lstore 6, 2) := by decide +kernel
theorem dX0_commonDivisor_38 : decode cX0_commonDivisor 38 = .ok (.iinc 8 1, 3) := by decide +kernel
theorem dX0_commonDivisor_41 : decode cX0_commonDivisor 41 = .ok (.goto (-32), 3) := by decide +kernel
theorem dX0_commonDivisor_44 : decode cX0_commonDivisor 44 = .ok (.lload 4, 2) := by decide +kernel
theorem dX0_commonDivisor_46 : decode cX0_commonDivisor 46 = .ok (.lreturn, 1) := by decide +kernel
set_option maxRecDepth 20000 in
theorem ggX1_init_X6_init : GoodIn wsX1_init wsX6_init := goodIn_r _ [13, 14, 2, 3, 15, 16, 17, 18, 9, 19, 20, 24, 25, 26, 27, 28, 29] (by decide +kernel) (by decide +kernel)
set_option maxRecDepth 20000 in
theorem gX1_init_X6_init : GoodIn wsX1_init (wsX6_init) := ggX1_init_X6_init
theorem dX1_init_0 : decode cX1_init 0 = .ok (.aload_n 0, 1) := by decide +kernel
theorem dX1_init_1 : decode cX1_init 1 = .ok (.invokespecial 3, 3) := by decide +kernel
theorem dX1_init_4 : decode cX1_init 4 = .ok (.aload_n 0, 1) := by decide +kernel
theorem dX1_init_5 : decode cX1_init 5 = .ok (.iconst 0, 1) := by decide +kernel
theorem dX1_init_6 : decode cX1_init 6 = .ok (.putfield 9, 3) := by decide +kernel
theorem dX1_init_9 : decode cX1_init 9 = .ok (.aload_n 0, 1) := by decide +kernel
theorem dX1_init_10 : decode cX1_init 10 = .ok (.new 15, 3) := by decide +kernel
theorem dX1_init_13 : decode cX1_init 13 = .ok (.dup, 1) := by decide +kernel
theorem dX1_init_14 : decode cX1_init 14 = .ok (.invokespecial 17, 3) := by decide +kernel
theorem dX1_init_17 : decode cX1_init 17 = .ok (.putfield 18, 3) := by decide +kernel
theorem dX1_init_20 : decode cX1_init 20 = .ok (.aload_n 0, 1) := by decide +kernel
theorem dX1_init_21 : decode cX1_init 21 = .ok (.bipush 8, 2) := by decide +kernel
theorem dX1_init_23 : decode cX1_init 23 = .ok (.newarray .int, 2) := by decide +kernel
theorem dX1_init_25 : decode cX1_init 25 = .ok (.putfield 22, 3) := by decide +kernel
theorem dX1_init_28 : decode cX1_init 28 = .ok (.return_, 1) := by decide +kernel
theorem dX2_init_0 : decode cX2_init 0 = .ok (.aload_n 0, 1) := by decide +kernel
theorem dX2_init_1 : decode cX2_init 1 = .ok (.invokespecial 3, 3) := by decide +kernel
theorem dX2_init_4 : decode cX2_init 4 = .ok (.aload_n 0, 1) := by decide +kernel
theorem dX2_init_5 : decode cX2_init 5 = .ok (.bipush 16, 2) := by decide +kernel
theorem dX2_init_7 : decode cX2_init 7 = .ok (.newarray .int, 2) := by decide +kernel
theorem dX2_init_9 : decode cX2_init 9 = .ok (.putfield 9, 3) := by decide +kernel
theorem dX2_init_12 : decode cX2_init 12 = .ok (.aload_n 0, 1) := by decide +kernel
theorem dX2_init_13 : decode cX2_init 13 = .ok (.iconst 0, 1) := by decide +kernel
theorem dX2_init_14 : decode cX2_init 14 = .ok (.putfield 15, 3) := by decide +kernel
theorem dX2_init_17 : decode cX2_init 17 = .ok (.aload_n 0, 1) := by decide +kernel
theorem dX2_init_18 : decode cX2_init 18 = .ok (.iconst 0, 1) := by decide +kernel
theorem dX2_init_19 : decode cX2_init 19 = .ok (.putfield 19, 3) := by decide +kernel
theorem dX2_init_22 : decode cX2_init 22 = .ok (.aload_n 0, 1) := by decide +kernel
theorem dX2_init_23 : decode cX2_init 23 = .ok (.aload_n 1, 1) := by decide +kernel
theorem dX2_init_24 : decode cX2_init 24 = .ok (.putfield 22, 3) := by decide +kernel
theorem dX2_init_27 : decode cX2_init 27 = .ok (.return_, 1) := by decide +kernel
set_option maxRecDepth 20000 in
theorem ggX2_value_X8_between : GoodIn wsX2_value wsX8_between := goodIn_r _ [4] (by decide +kernel) (by decide +kernel)
set_option maxRecDepth 20000 in
theorem gX2_value_X8_between_n26 : GoodIn wsX2_value (wsX8_between) := ggX2_value_X8_between
theorem dX2_value_0 : decode cX2_value 0 = .ok (.iload_n 1, 1) := by decide +kernel
theorem dX2_value_1 : decode cX2_value 1 = .ok (.iconst 0, 1) := by decide +kernel
theorem dX2_value_2 : decode cX2_value 2 = .ok (.bipush 15, 2) := by decide +kernel
theorem dX2_value_4 : decode cX2_value 4 = .ok (.invokestatic 26, 3) := by decide +kernel
theorem dX2_value_7 : decode cX2_value 7 = .ok (.ifCond .eq 17, 3) := by decide +kernel
theorem dX2_value_10 : decode cX2_value 10 = .ok (.aload_n 0, 1) := by decide +kernel
theorem dX2_value_11 : decode cX2_value 11 = .ok (.getfield 9, 3) := by decide +kernel
theorem dX2_value_14 : decode cX2_value 14 = .ok (.iload_n 1, 1) := by decide +kernel
theorem dX2_value_15 : decode cX2_value 15 = .ok (.iload_n 2, 1) := by decide +kernel
theorem dX2_value_16 : decode cX2_value 16 = .ok (.bipush 16, 2) := by decide +kernel
theorem dX2_value_18 : decode cX2_value 18 = .ok (.ishl, 1) := by decide +kernel
theorem dX2_value_19 : decode cX2_value 19 = .ok (.iconst 1, 1) := by decide +kernel
theorem dX2_value_20 : decode cX2_value 20 = .ok (.iload_n 1, 1) := by decide +kernel
theorem dX2_value_21 : decode cX2_value 21 = .ok (.ishl, 1) := by decide +kernel
theorem dX2_value_22 : decode cX2_value 22 = .ok (.isub, 1) := by decide +kernel
theorem dX2_value_23 : decode cX2_value 23 = .ok (.iastore, 1) := by decide +kernel
theorem dX2_value_24 : decode cX2_value 24 = .ok (.return_, 1) := by decide +kernel
set_option maxRecDepth 20000 in
theorem ggX2_keep_X3_barredByAll : GoodIn wsX2_keep wsX3_barredByAll := goodIn_r _ [9, 10, 11, 12, 13, 14, 8, 15, 16, 17, 18, 19, 20, 21, 22, 23, 24, 54, 55, 56, 57, 58, 59, 60, 61] (by decide +kernel) (by decide +kernel)
set_option maxRecDepth 20000 in
theorem gX2_keep_X3_barredByAll : GoodIn wsX2_keep (wsV RX2 30 RX3 yX3_barredByAll wsX3_barredByAll) := goodIn_app (goodIn_of _ (by decide +kernel)) ggX2_keep_X3_barredByAll
set_option maxRecDepth 20000 in
theorem ggX2_keep_X3_all : GoodIn wsX2_keep wsX3_all := goodIn_r _ [15, 11, 54, 55, 56, 57, 58, 59, 60, 61] (by decide +kernel) (by decide +kernel)
set_option maxRecDepth 20000 in
theorem gX2_keep_X3_all : GoodIn wsX2_keep (wsV RX2 37 RX3 yX3_all wsX3_all) := goodIn_app (goodIn_of _ (by decide +kernel)) ggX2_keep_X3_all
set_option maxRecDepth 20000 in
theorem ggX2_keep_X2_worthwhile : GoodIn wsX2_keep wsX2_worthwhile := goodIn_r _ [30, 1, 31, 32, 16, 17, 18, 50, 51, 52, 53, 54, 55, 56, 57, 58, 59, 60, 61] (by decide +kernel) (by decide +kernel)
set_option maxRecDepth 20000 in
theorem gX2_keep_X2_worthwhile : GoodIn wsX2_keep (wsV RX2 41 RX2 yX2_worthwhile wsX2_worthwhile) := goodIn_app (goodIn_of _ (by decide +kernel)) ggX2_keep_X2_worthwhile
set_option maxRecDepth 20000 in
theorem ggX2_keep_X2_weigh : GoodIn wsX2_keep wsX2_weigh := goodIn_r _ [36, 1, 31, 32, 16, 17, 18, 50, 51, 52, 53, 54, 55, 56, 57, 58, 59, 60, 61] (by decide +kernel) (by decide +kernel)
set_option maxRecDepth 20000 in
theorem gX2_keep_X2_weigh : GoodIn wsX2_keep (wsV RX2 44 RX2 yX2_weigh wsX2_weigh) := goodIn_app (goodIn_of _ (by decide +kernel)) ggX2_keep_X2_weigh
set_option maxRecDepth 20000 in
theorem ggX2_keep_X2_search : GoodIn wsX2_keep wsX2_search := goodIn_r _ [40, 3, 1, 31, 4, 32, 16, 17, 18, 41, 42, 43, 8, 44, 23, 24, 45, 46, 47, 48, 11, 49, 20, 21, 22, 33, 34, 35, 29, 36, 37, 38, 39, 50, 51, 52, 53, 54, 55, 56, 57, 58, 59, 60, 61] (by decide +kernel) (by decide +kernel)
set_option maxRecDepth 20000 in
theorem gX2_keep_X2_search : GoodIn wsX2_keep (wsV RX2 47 RX2 yX2_search wsX2_search) := goodIn_app (goodIn_of _ (by decide +kernel)) ggX2_keep_X2_search
theorem dX2_keep_0 : decode cX2_keep 0 = .ok (.aload_n 0, 1) := by decide +kernel
theorem dX2_keep_1 : decode cX2_keep 1 = .ok (.getfield 22, 3) := by decide +kernel
theorem dX2_keep_4 : decode cX2_keep 4 = .ok (.iload_n 1, 1) := by decide +kernel
theorem dX2_keep_5 : decode cX2_keep 5 = .ok (.invokevirtual 30, 3) := by decide +kernel
theorem dX2_keep_8 : decode cX2_keep 8 = .ok (.istore_n 2, 1) := by decide +kernel
theorem dX2_keep_9 : decode cX2_keep 9 = .ok (.iload_n 2, 1) := by decide +kernel
theorem dX2_keep_10 : decode cX2_keep 10 = .ok (.iconst (-1), 1) := by decide +kernel
theorem dX2_keep_11 : decode cX2_keep 11 = .ok (.if_icmp .ne 5, 3) := by decide +kernel
theorem dX2_keep_14 : decode cX2_keep 14 = .ok (.iconst 0, 1) := by decide +kernel
theorem dX2_keep_15 : decode cX2_keep 15 = .ok (.ireturn, 1) := by decide +kernel
theorem dX2_keep_16 : decode cX2_keep 16 = .ok (.aload_n 0, 1) := by decide +kernel
theorem dX2_keep_17 : decode cX2_keep 17 = .ok (.ldc 36, 2) := by decide +kernel
theorem dX2_keep_19 : decode cX2_keep 19 = .ok (.putfield 15, 3) := by decide +kernel
theorem dX2_keep_22 : decode cX2_keep 22 = .ok (.aload_n 0, 1) := by decide +kernel
theorem dX2_keep_23 : decode cX2_keep 23 = .ok (.iconst 0, 1) := by decide +kernel
theorem dX2_keep_24 : decode cX2_keep 24 = .ok (.putfield 19, 3) := by decide +kernel
theorem dX2_keep_27 : decode cX2_keep 27 = .ok (.aload_n 0, 1) := by decide +kernel
theorem dX2_keep_28 : decode cX2_keep 28 = .ok (.aload_n 0, 1) := by decide +kernel
theorem dX2_keep_29 : decode cX2_keep 29 = .ok (.getfield 22, 3) := by decide +kernel
theorem dX2_keep_32 : decode cX2_keep 32 = .ok (.invokevirtual 37, 3) := by decide +kernel
theorem dX2_keep_35 : decode cX2_keep 35 = .ok (.iload_n 2, 1) := by decide +kernel
theorem dX2_keep_36 : decode cX2_keep 36 = .ok (.iconst (-1), 1) := by decide +kernel
theorem dX2_keep_37 : decode cX2_keep 37 = .ok (.ixor, 1) := by decide +kernel
theorem dX2_keep_38 : decode cX2_keep 38 = .ok (.iand, 1) := by decide +kernel
theorem dX2_keep_39 : decode cX2_keep 39 = .ok (.iload_n 1, 1) := by decide +kernel
theorem dX2_keep_40 : decode cX2_keep 40 = .ok (.iconst (-1), 1) := by decide +kernel
theorem dX2_keep_41 : decode cX2_keep 41 = .ok (.ixor, 1) := by decide +kernel
theorem dX2_keep_42 : decode cX2_keep 42 = .ok (.iand, 1) := by decide +kernel
theorem dX2_keep_43 : decode cX2_keep 43 = .ok (.invokevirtual 41, 3) := by decide +kernel
theorem dX2_keep_46 : decode cX2_keep 46 = .ok (.istore_n 3, 1) := by decide +kernel
theorem dX2_keep_47 : decode cX2_keep 47 = .ok (.aload_n 0, 1) := by decide +kernel
theorem dX2_keep_48 : decode cX2_keep 48 = .ok (.iconst 0, 1) := by decide +kernel
theorem dX2_keep_49 : decode cX2_keep 49 = .ok (.iload_n 1, 1) := by decide +kernel
theorem dX2_keep_50 : decode cX2_keep 50 = .ok (.iload_n 3, 1) := by decide +kernel
theorem dX2_keep_51 : decode cX2_keep 51 = .ok (.aload_n 0, 1) := by decide +kernel
theorem dX2_keep_52 : decode cX2_keep 52 = .ok (.iload_n 1, 1) := by decide +kernel
theorem dX2_keep_53 : decode cX2_keep 53 = .ok (.iload_n 3, 1) := by decide +kernel
theorem dX2_keep_54 : decode cX2_keep 54 = .ok (.ior, 1) := by decide +kernel
theorem dX2_keep_55 : decode cX2_keep 55 = .ok (.invokevirtual 44, 3) := by decide +kernel
theorem dX2_keep_58 : decode cX2_keep 58 = .ok (.invokevirtual 47, 3) := by decide +kernel
theorem dX2_keep_61 : decode cX2_keep 61 = .ok (.iconst 1, 1) := by decide +kernel
theorem dX2_keep_62 : decode cX2_keep 62 = .ok (.ireturn, 1) := by decide +kernel
theorem dX2_bestBits_0 : decode cX2_bestBits 0 = .ok (.aload_n 0, 1) := by decide +kernel
theorem dX2_bestBits_1 : decode cX2_bestBits 1 = .ok (.getfield 19, 3) := by decide +kernel
theorem dX2_bestBits_4 : decode cX2_bestBits 4 = .ok (.ireturn, 1) := by decide +kernel
theorem dX2_bestSum_0 : decode cX2_bestSum 0 = .ok (.aload_n 0, 1) := by decide +kernel
theorem dX2_bestSum_1 : decode cX2_bestSum 1 = .ok (.getfield 15, 3) := by decide +kernel
theorem dX2_bestSum_4 : decode cX2_bestSum 4 = .ok (.aload_n 0, 1) := by decide +kernel
theorem dX2_bestSum_5 : decode cX2_bestSum 5 = .ok (.getfield 19, 3) := by decide +kernel
theorem dX2_bestSum_8 : decode cX2_bestSum 8 = .ok (.iadd, 1) := by decide +kernel
theorem dX2_bestSum_9 : decode cX2_bestSum 9 = .ok (.bipush 16, 2) := by decide +kernel
theorem dX2_bestSum_11 : decode cX2_bestSum 11 = .ok (.ishr, 1) := by decide +kernel
theorem dX2_bestSum_12 : decode cX2_bestSum 12 = .ok (.ireturn, 1) := by decide +kernel
set_option maxRecDepth 20000 in
theorem ggX2_worthwhile_X8_has : GoodIn wsX2_worthwhile wsX8_has := goodIn_r _ [6] (by decide +kernel) (by decide +kernel)
set_option maxRecDepth 20000 in
theorem gX2_worthwhile_X8_has_n54 : GoodIn wsX2_worthwhile (wsX8_has) := ggX2_worthwhile_X8_has
theorem dX2_worthwhile_0 : decode cX2_worthwhile 0 = .ok (.iconst 0, 1) := by decide +kernel
theorem dX2_worthwhile_1 : decode cX2_worthwhile 1 = .ok (.istore_n 2, 1) := by decide +kernel
theorem dX2_worthwhile_2 : decode cX2_worthwhile 2 = .ok (.iconst 0, 1) := by decide +kernel
theorem dX2_worthwhile_3 : decode cX2_worthwhile 3 = .ok (.istore_n 3, 1) := by decide +kernel
theorem dX2_worthwhile_4 : decode cX2_worthwhile 4 = .ok (.iload_n 3, 1) := by decide +kernel
theorem dX2_worthwhile_5 : decode cX2_worthwhile 5 = .ok (.aload_n 0, 1) := by decide +kernel
theorem dX2_worthwhile_6 : decode cX2_worthwhile 6 = .ok (.getfield 22, 3) := by decide +kernel
theorem dX2_worthwhile_9 : decode cX2_worthwhile 9 = .ok (.getfield 51, 3) := by decide +kernel
theorem dX2_worthwhile_12 : decode cX2_worthwhile 12 = .ok (.if_icmp .ge 32, 3) := by decide +kernel
theorem dX2_worthwhile_15 : decode cX2_worthwhile 15 = .ok (.iload_n 1, 1) := by decide +kernel
theorem dX2_worthwhile_16 : decode cX2_worthwhile 16 = .ok (.iload_n 3, 1) := by decide +kernel
theorem dX2_worthwhile_17 : decode cX2_worthwhile 17 = .ok (.invokestatic 54, 3) := by decide +kernel
theorem dX2_worthwhile_20 : decode cX2_worthwhile 20 = .ok (.ifCond .eq 18, 3) := by decide +kernel
theorem dX2_worthwhile_23 : decode cX2_worthwhile 23 = .ok (.aload_n 0, 1) := by decide +kernel
theorem dX2_worthwhile_24 : decode cX2_worthwhile 24 = .ok (.getfield 9, 3) := by decide +kernel
theorem dX2_worthwhile_27 : decode cX2_worthwhile 27 = .ok (.iload_n 3, 1) := by decide +kernel
theorem dX2_worthwhile_28 : decode cX2_worthwhile 28 = .ok (.iaload, 1) := by decide +kernel
theorem dX2_worthwhile_29 : decode cX2_worthwhile 29 = .ok (.ifCond .le 9, 3) := by decide +kernel
theorem dX2_worthwhile_32 : decode cX2_worthwhile 32 = .ok (.iload_n 2, 1) := by decide +kernel
theorem dX2_worthwhile_33 : decode cX2_worthwhile 33 = .ok (.iconst 1, 1) := by decide +kernel
theorem dX2_worthwhile_34 : decode cX2_worthwhile 34 = .ok (.iload_n 3, 1) := by decide +kernel
theorem dX2_worthwhile_35 : decode cX2_worthwhile 35 = .ok (.ishl, 1) := by decide +kernel
theorem dX2_worthwhile_36 : decode cX2_worthwhile 36 = .ok (.ior, 1) := by decide +kernel
theorem dX2_worthwhile_37 : decode cX2_worthwhile 37 = .ok (.istore_n 2, 1) := by decide +kernel
theorem dX2_worthwhile_38 : decode cX2_worthwhile 38 = .ok (.iinc 3 1, 3) := by decide +kernel
theorem dX2_worthwhile_41 : decode cX2_worthwhile 41 = .ok (.goto (-37), 3) := by decide +kernel
theorem dX2_worthwhile_44 : decode cX2_worthwhile 44 = .ok (.iload_n 2, 1) := by decide +kernel
theorem dX2_worthwhile_45 : decode cX2_worthwhile 45 = .ok (.ireturn, 1) := by decide +kernel
set_option maxRecDepth 20000 in
theorem ggX2_weigh_X8_has : GoodIn wsX2_weigh wsX8_has := goodIn_r _ [6] (by decide +kernel) (by decide +kernel)
set_option maxRecDepth 20000 in
theorem gX2_weigh_X8_has_n54 : GoodIn wsX2_weigh (wsX8_has) := ggX2_weigh_X8_has
theorem dX2_weigh_0 : decode cX2_weigh 0 = .ok (.iconst 0, 1) := by decide +kernel
theorem dX2_weigh_1 : decode cX2_weigh 1 = .ok (.istore_n 2, 1) := by decide +kernel
theorem dX2_weigh_2 : decode cX2_weigh 2 = .ok (.iconst 0, 1) := by decide +kernel
theorem dX2_weigh_3 : decode cX2_weigh 3 = .ok (.istore_n 3, 1) := by decide +kernel
theorem dX2_weigh_4 : decode cX2_weigh 4 = .ok (.iload_n 3, 1) := by decide +kernel
theorem dX2_weigh_5 : decode cX2_weigh 5 = .ok (.aload_n 0, 1) := by decide +kernel
theorem dX2_weigh_6 : decode cX2_weigh 6 = .ok (.getfield 22, 3) := by decide +kernel
theorem dX2_weigh_9 : decode cX2_weigh 9 = .ok (.getfield 51, 3) := by decide +kernel
theorem dX2_weigh_12 : decode cX2_weigh 12 = .ok (.if_icmp .ge 26, 3) := by decide +kernel
theorem dX2_weigh_15 : decode cX2_weigh 15 = .ok (.iload_n 1, 1) := by decide +kernel
theorem dX2_weigh_16 : decode cX2_weigh 16 = .ok (.iload_n 3, 1) := by decide +kernel
theorem dX2_weigh_17 : decode cX2_weigh 17 = .ok (.invokestatic 54, 3) := by decide +kernel
theorem dX2_weigh_20 : decode cX2_weigh 20 = .ok (.ifCond .eq 12, 3) := by decide +kernel
theorem dX2_weigh_23 : decode cX2_weigh 23 = .ok (.iload_n 2, 1) := by decide +kernel
theorem dX2_weigh_24 : decode cX2_weigh 24 = .ok (.aload_n 0, 1) := by decide +kernel
theorem dX2_weigh_25 : decode cX2_weigh 25 = .ok (.getfield 9, 3) := by decide +kernel
theorem dX2_weigh_28 : decode cX2_weigh 28 = .ok (.iload_n 3, 1) := by decide +kernel
theorem dX2_weigh_29 : decode cX2_weigh 29 = .ok (.iaload, 1) := by decide +kernel
theorem dX2_weigh_30 : decode cX2_weigh 30 = .ok (.iadd, 1) := by decide +kernel
theorem dX2_weigh_31 : decode cX2_weigh 31 = .ok (.istore_n 2, 1) := by decide +kernel
theorem dX2_weigh_32 : decode cX2_weigh 32 = .ok (.iinc 3 1, 3) := by decide +kernel
theorem dX2_weigh_35 : decode cX2_weigh 35 = .ok (.goto (-31), 3) := by decide +kernel
theorem dX2_weigh_38 : decode cX2_weigh 38 = .ok (.iload_n 2, 1) := by decide +kernel
theorem dX2_weigh_39 : decode cX2_weigh 39 = .ok (.ireturn, 1) := by decide +kernel
set_option maxRecDepth 20000 in
theorem ggX2_search_X8_has : GoodIn wsX2_search wsX8_has := goodIn_r _ [8] (by decide +kernel) (by decide +kernel)
set_option maxRecDepth 20000 in
theorem gX2_search_X8_has_n54 : GoodIn wsX2_search (wsX8_has) := ggX2_search_X8_has
set_option maxRecDepth 20000 in
theorem ggX2_search_X3_tangled : GoodIn wsX2_search wsX3_tangled := goodIn_r _ [13, 14, 15, 16, 17, 18, 12, 19, 20, 6, 7, 8, 37, 38, 39, 40, 41, 42, 43, 44] (by decide +kernel) (by decide +kernel)
set_option maxRecDepth 20000 in
theorem gX2_search_X3_tangled : GoodIn wsX2_search (wsV RX2 58 RX3 yX3_tangled wsX3_tangled) := goodIn_app (goodIn_of _ (by decide +kernel)) ggX2_search_X3_tangled
set_option maxRecDepth 20000 in
theorem ggX2_search_X3_barredBy : GoodIn wsX2_search wsX3_barredBy := goodIn_r _ [24, 14, 15, 20, 6, 7, 8, 37, 38, 39, 40, 41, 42, 43, 44] (by decide +kernel) (by decide +kernel)
set_option maxRecDepth 20000 in
theorem gX2_search_X3_barredBy : GoodIn wsX2_search (wsV RX2 61 RX3 yX3_barredBy wsX3_barredBy) := goodIn_app (goodIn_of _ (by decide +kernel)) ggX2_search_X3_barredBy
set_option maxRecDepth 20000 in
theorem ggX2_search_X2_weigh : GoodIn wsX2_search wsX2_weigh := goodIn_r _ [29, 2, 3, 5, 6, 7, 8, 33, 34, 35, 36, 37, 38, 39, 40, 41, 42, 43, 44] (by decide +kernel) (by decide +kernel)
set_option maxRecDepth 20000 in
theorem gX2_search_X2_weigh : GoodIn wsX2_search (wsV RX2 44 RX2 yX2_weigh wsX2_weigh) := goodIn_app (goodIn_of _ (by decide +kernel)) ggX2_search_X2_weigh
set_option maxRecDepth 20000 in
theorem ggX2_search_X2_search : GoodIn wsX2_search wsX2_search := goodIn_r _ [0, 1, 2, 3, 4, 5, 6, 7, 8, 9, 10, 11, 12, 13, 14, 15, 16, 17, 18, 19, 20, 21, 22, 23, 24, 25, 26, 27, 28, 29, 30, 31, 32, 33, 34, 35, 36, 37, 38, 39, 40, 41, 42, 43, 44] (by decide +kernel) (by decide +kernel)
set_option maxRecDepth 20000 in
theorem gX2_search_X2_search : GoodIn wsX2_search (wsV RX2 47 RX2 yX2_search wsX2_search) := goodIn_app (goodIn_of _ (by decide +kernel)) ggX2_search_X2_search
theorem dX2_search_0 : decode cX2_search 0 = .ok (.iload 4, 2) := by decide +kernel
theorem dX2_search_2 : decode cX2_search 2 = .ok (.aload_n 0, 1) := by decide +kernel
theorem dX2_search_3 : decode cX2_search 3 = .ok (.getfield 15, 3) := by decide +kernel
theorem dX2_search_6 : decode cX2_search 6 = .ok (.if_icmp .gt 4, 3) := by decide +kernel
theorem dX2_search_9 : decode cX2_search 9 = .ok (.return_, 1) := by decide +kernel
theorem dX2_search_10 : decode cX2_search 10 = .ok (.iload_n 1, 1) := by decide +kernel
theorem dX2_search_11 : decode cX2_search 11 = .ok (.istore 5, 2) := by decide +kernel
theorem dX2_search_13 : decode cX2_search 13 = .ok (.iload_n 2, 1) := by decide +kernel
theorem dX2_search_14 : decode cX2_search 14 = .ok (.istore 6, 2) := by decide +kernel
theorem dX2_search_16 : decode cX2_search 16 = .ok (.iload 5, 2) := by decide +kernel
theorem dX2_search_18 : decode cX2_search 18 = .ok (.aload_n 0, 1) := by decide +kernel
theorem dX2_search_19 : decode cX2_search 19 = .ok (.getfield 22, 3) := by decide +kernel
theorem dX2_search_22 : decode cX2_search 22 = .ok (.getfield 51, 3) := by decide +kernel
theorem dX2_search_25 : decode cX2_search 25 = .ok (.if_icmp .ge 44, 3) := by decide +kernel
theorem dX2_search_28 : decode cX2_search 28 = .ok (.iload_n 3, 1) := by decide +kernel
theorem dX2_search_29 : decode cX2_search 29 = .ok (.iload 5, 2) := by decide +kernel
theorem dX2_search_31 : decode cX2_search 31 = .ok (.invokestatic 54, 3) := by decide +kernel
theorem dX2_search_34 : decode cX2_search 34 = .ok (.ifCond .eq 18, 3) := by decide +kernel
theorem dX2_search_37 : decode cX2_search 37 = .ok (.aload_n 0, 1) := by decide +kernel
theorem dX2_search_38 : decode cX2_search 38 = .ok (.getfield 22, 3) := by decide +kernel
theorem dX2_search_41 : decode cX2_search 41 = .ok (.iload 5, 2) := by decide +kernel
theorem dX2_search_43 : decode cX2_search 43 = .ok (.iload_n 2, 1) := by decide +kernel
theorem dX2_search_44 : decode cX2_search 44 = .ok (.iload_n 3, 1) := by decide +kernel
theorem dX2_search_45 : decode cX2_search 45 = .ok (.ior, 1) := by decide +kernel
theorem dX2_search_46 : decode cX2_search 46 = .ok (.invokevirtual 58, 3) := by decide +kernel
theorem dX2_search_49 : decode cX2_search 49 = .ok (.ifCond .ne 20, 3) := by decide +kernel
theorem dX2_search_52 : decode cX2_search 52 = .ok (.iload 6, 2) := by decide +kernel
theorem dX2_search_54 : decode cX2_search 54 = .ok (.iload_n 3, 1) := by decide +kernel
theorem dX2_search_55 : decode cX2_search 55 = .ok (.iconst 1, 1) := by decide +kernel
theorem dX2_search_56 : decode cX2_search 56 = .ok (.iload 5, 2) := by decide +kernel
theorem dX2_search_58 : decode cX2_search 58 = .ok (.ishl, 1) := by decide +kernel
theorem dX2_search_59 : decode cX2_search 59 = .ok (.iand, 1) := by decide +kernel
theorem dX2_search_60 : decode cX2_search 60 = .ok (.ior, 1) := by decide +kernel
theorem dX2_search_61 : decode cX2_search 61 = .ok (.istore 6, 2) := by decide +kernel
theorem dX2_search_63 : decode cX2_search 63 = .ok (.iinc 5 1, 3) := by decide +kernel
theorem dX2_search_66 : decode cX2_search 66 = .ok (.goto (-50), 3) := by decide +kernel
theorem dX2_search_69 : decode cX2_search 69 = .ok (.iload 5, 2) := by decide +kernel
theorem dX2_search_71 : decode cX2_search 71 = .ok (.aload_n 0, 1) := by decide +kernel
theorem dX2_search_72 : decode cX2_search 72 = .ok (.getfield 22, 3) := by decide +kernel
theorem dX2_search_75 : decode cX2_search 75 = .ok (.getfield 51, 3) := by decide +kernel
theorem dX2_search_78 : decode cX2_search 78 = .ok (.if_icmp .lt 16, 3) := by decide +kernel
theorem dX2_search_81 : decode cX2_search 81 = .ok (.aload_n 0, 1) := by decide +kernel
theorem dX2_search_82 : decode cX2_search 82 = .ok (.iload 4, 2) := by decide +kernel
theorem dX2_search_84 : decode cX2_search 84 = .ok (.putfield 15, 3) := by decide +kernel
theorem dX2_search_87 : decode cX2_search 87 = .ok (.aload_n 0, 1) := by decide +kernel
theorem dX2_search_88 : decode cX2_search 88 = .ok (.iload 6, 2) := by decide +kernel
theorem dX2_search_90 : decode cX2_search 90 = .ok (.putfield 19, 3) := by decide +kernel
theorem dX2_search_93 : decode cX2_search 93 = .ok (.return_, 1) := by decide +kernel
theorem dX2_search_94 : decode cX2_search 94 = .ok (.iload_n 3, 1) := by decide +kernel
theorem dX2_search_95 : decode cX2_search 95 = .ok (.iload 6, 2) := by decide +kernel
theorem dX2_search_97 : decode cX2_search 97 = .ok (.iconst (-1), 1) := by decide +kernel
theorem dX2_search_98 : decode cX2_search 98 = .ok (.ixor, 1) := by decide +kernel
theorem dX2_search_99 : decode cX2_search 99 = .ok (.iand, 1) := by decide +kernel
theorem dX2_search_100 : decode cX2_search 100 = .ok (.iconst 1, 1) := by decide +kernel
theorem dX2_search_101 : decode cX2_search 101 = .ok (.iload 5, 2) := by decide +kernel
theorem dX2_search_103 : decode cX2_search 103 = .ok (.ishl, 1) := by decide +kernel
theorem dX2_search_104 : decode cX2_search 104 = .ok (.iconst (-1), 1) := by decide +kernel
theorem dX2_search_105 : decode cX2_search 105 = .ok (.ixor, 1) := by decide +kernel
theorem dX2_search_106 : decode cX2_search 106 = .ok (.iand, 1) := by decide +kernel
theorem dX2_search_107 : decode cX2_search 107 = .ok (.istore 7, 2) := by decide +kernel
theorem dX2_search_109 : decode cX2_search 109 = .ok (.iload 7, 2) := by decide +kernel
theorem dX2_search_111 : decode cX2_search 111 = .ok (.aload_n 0, 1) := by decide +kernel
theorem dX2_search_112 : decode cX2_search 112 = .ok (.getfield 22, 3) := by decide +kernel
theorem dX2_search_115 : decode cX2_search 115 = .ok (.iload 5, 2) := by decide +kernel
theorem dX2_search_117 : decode cX2_search 117 = .ok (.iload 6, 2) := by decide +kernel
theorem dX2_search_119 : decode cX2_search 119 = .ok (.invokevirtual 61, 3) := by decide +kernel
theorem dX2_search_122 : decode cX2_search 122 = .ok (.iand, 1) := by decide +kernel
theorem dX2_search_123 : decode cX2_search 123 = .ok (.istore 8, 2) := by decide +kernel
theorem dX2_search_125 : decode cX2_search 125 = .ok (.aload_n 0, 1) := by decide +kernel
theorem dX2_search_126 : decode cX2_search 126 = .ok (.iload 5, 2) := by decide +kernel
theorem dX2_search_128 : decode cX2_search 128 = .ok (.iconst 1, 1) := by decide +kernel
theorem dX2_search_129 : decode cX2_search 129 = .ok (.iadd, 1) := by decide +kernel
theorem dX2_search_130 : decode cX2_search 130 = .ok (.iload 6, 2) := by decide +kernel
theorem dX2_search_132 : decode cX2_search 132 = .ok (.iconst 1, 1) := by decide +kernel
theorem dX2_search_133 : decode cX2_search 133 = .ok (.iload 5, 2) := by decide +kernel
theorem dX2_search_135 : decode cX2_search 135 = .ok (.ishl, 1) := by decide +kernel
theorem dX2_search_136 : decode cX2_search 136 = .ok (.ior, 1) := by decide +kernel
theorem dX2_search_137 : decode cX2_search 137 = .ok (.iload 7, 2) := by decide +kernel
theorem dX2_search_139 : decode cX2_search 139 = .ok (.iload 8, 2) := by decide +kernel
theorem dX2_search_141 : decode cX2_search 141 = .ok (.iconst (-1), 1) := by decide +kernel
theorem dX2_search_142 : decode cX2_search 142 = .ok (.ixor, 1) := by decide +kernel
theorem dX2_search_143 : decode cX2_search 143 = .ok (.iand, 1) := by decide +kernel
theorem dX2_search_144 : decode cX2_search 144 = .ok (.iload 4, 2) := by decide +kernel
theorem dX2_search_146 : decode cX2_search 146 = .ok (.aload_n 0, 1) := by decide +kernel
theorem dX2_search_147 : decode cX2_search 147 = .ok (.iload 8, 2) := by decide +kernel
theorem dX2_search_149 : decode cX2_search 149 = .ok (.invokevirtual 44, 3) := by decide +kernel
theorem dX2_search_152 : decode cX2_search 152 = .ok (.isub, 1) := by decide +kernel
theorem dX2_search_153 : decode cX2_search 153 = .ok (.invokevirtual 47, 3) := by decide +kernel
theorem dX2_search_156 : decode cX2_search 156 = .ok (.aload_n 0, 1) := by decide +kernel
theorem dX2_search_157 : decode cX2_search 157 = .ok (.iload 5, 2) := by decide +kernel
theorem dX2_search_159 : decode cX2_search 159 = .ok (.iconst 1, 1) := by decide +kernel
theorem dX2_search_160 : decode cX2_search 160 = .ok (.iadd, 1) := by decide +kernel
theorem dX2_search_161 : decode cX2_search 161 = .ok (.iload 6, 2) := by decide +kernel
theorem dX2_search_163 : decode cX2_search 163 = .ok (.iload 7, 2) := by decide +kernel
theorem dX2_search_165 : decode cX2_search 165 = .ok (.iload 4, 2) := by decide +kernel
theorem dX2_search_167 : decode cX2_search 167 = .ok (.aload_n 0, 1) := by decide +kernel
theorem dX2_search_168 : decode cX2_search 168 = .ok (.getfield 9, 3) := by decide +kernel
theorem dX2_search_171 : decode cX2_search 171 = .ok (.iload 5, 2) := by decide +kernel
theorem dX2_search_173 : decode cX2_search 173 = .ok (.iaload, 1) := by decide +kernel
theorem dX2_search_174 : decode cX2_search 174 = .ok (.isub, 1) := by decide +kernel
theorem dX2_search_175 : decode cX2_search 175 = .ok (.invokevirtual 47, 3) := by decide +kernel
theorem dX2_search_178 : decode cX2_search 178 = .ok (.return_, 1) := by decide +kernel
theorem dX3_init_0 : decode cX3_init 0 = .ok (.aload_n 0, 1) := by decide +kernel
theorem dX3_init_1 : decode cX3_init 1 = .ok (.invokespecial 3, 3) := by decide +kernel
theorem dX3_init_4 : decode cX3_init 4 = .ok (.aload_n 0, 1) := by decide +kernel
theorem dX3_init_5 : decode cX3_init 5 = .ok (.iconst 0, 1) := by decide +kernel
theorem dX3_init_6 : decode cX3_init 6 = .ok (.putfield 9, 3) := by decide +kernel
theorem dX3_init_9 : decode cX3_init 9 = .ok (.aload_n 0, 1) := by decide +kernel
theorem dX3_init_10 : decode cX3_init 10 = .ok (.iconst 0, 1) := by decide +kernel
theorem dX3_init_11 : decode cX3_init 11 = .ok (.putfield 15, 3) := by decide +kernel
theorem dX3_init_14 : decode cX3_init 14 = .ok (.aload_n 0, 1) := by decide +kernel
theorem dX3_init_15 : decode cX3_init 15 = .ok (.iconst 0, 1) := by decide +kernel
theorem dX3_init_16 : decode cX3_init 16 = .ok (.putfield 18, 3) := by decide +kernel
theorem dX3_init_19 : decode cX3_init 19 = .ok (.aload_n 0, 1) := by decide +kernel
theorem dX3_init_20 : decode cX3_init 20 = .ok (.iconst 0, 1) := by decide +kernel
theorem dX3_init_21 : decode cX3_init 21 = .ok (.putfield 21, 3) := by decide +kernel
theorem dX3_init_24 : decode cX3_init 24 = .ok (.aload_n 0, 1) := by decide +kernel
theorem dX3_init_25 : decode cX3_init 25 = .ok (.iconst 0, 1) := by decide +kernel
theorem dX3_init_26 : decode cX3_init 26 = .ok (.putfield 24, 3) := by decide +kernel
theorem dX3_init_29 : decode cX3_init 29 = .ok (.aload_n 0, 1) := by decide +kernel
theorem dX3_init_30 : decode cX3_init 30 = .ok (.bipush 16, 2) := by decide +kernel
theorem dX3_init_32 : decode cX3_init 32 = .ok (.newarray .int, 2) := by decide +kernel
theorem dX3_init_34 : decode cX3_init 34 = .ok (.putfield 27, 3) := by decide +kernel
theorem dX3_init_37 : decode cX3_init 37 = .ok (.aload_n 0, 1) := by decide +kernel
theorem dX3_init_38 : decode cX3_init 38 = .ok (.bipush 16, 2) := by decide +kernel
theorem dX3_init_40 : decode cX3_init 40 = .ok (.newarray .int, 2) := by decide +kernel
theorem dX3_init_42 : decode cX3_init 42 = .ok (.putfield 31, 3) := by decide +kernel
theorem dX3_init_45 : decode cX3_init 45 = .ok (.aload_n 0, 1) := by decide +kernel
theorem dX3_init_46 : decode cX3_init 46 = .ok (.bipush 16, 2) := by decide +kernel
theorem dX3_init_48 : decode cX3_init 48 = .ok (.newarray .int, 2) := by decide +kernel
theorem dX3_init_50 : decode cX3_init 50 = .ok (.putfield 34, 3) := by decide +kernel
theorem dX3_init_53 : decode cX3_init 53 = .ok (.return_, 1) := by decide +kernel
set_option maxRecDepth 20000 in
theorem ggX3_lay_X3_fitsAlone : GoodIn wsX3_lay wsX3_fitsAlone := goodIn_r _ [21, 2, 3, 1, 22, 23, 24, 25, 26, 27, 28, 29, 30, 31, 46, 47, 48, 49, 50, 51, 52, 53] (by decide +kernel) (by decide +kernel)
set_option maxRecDepth 20000 in
theorem gX3_lay_X3_fitsAlone : GoodIn wsX3_lay (wsV RX3 49 RX3 yX3_fitsAlone wsX3_fitsAlone) := goodIn_app (goodIn_of _ (by decide +kernel)) ggX3_lay_X3_fitsAlone
set_option maxRecDepth 20000 in
theorem ggX3_lay_X3_clashing : GoodIn wsX3_lay wsX3_clashing := goodIn_r _ [35, 8, 9, 36, 37, 38, 20, 39, 1, 40, 30, 41, 46, 47, 48, 49, 50, 51, 52, 53] (by decide +kernel) (by decide +kernel)
set_option maxRecDepth 20000 in
theorem gX3_lay_X3_clashing : GoodIn wsX3_lay (wsV RX3 53 RX3 yX3_clashing wsX3_clashing) := goodIn_app (goodIn_of _ (by decide +kernel)) ggX3_lay_X3_clashing
set_option maxRecDepth 20000 in
theorem ggX3_lay_X3_nearTo : GoodIn wsX3_lay wsX3_nearTo := goodIn_r _ [45, 1, 8, 9, 40, 30, 41, 46, 47, 48, 49, 50, 51, 52, 53] (by decide +kernel) (by decide +kernel)
set_option maxRecDepth 20000 in
theorem gX3_lay_X3_nearTo : GoodIn wsX3_lay (wsV RX3 57 RX3 yX3_nearTo wsX3_nearTo) := goodIn_app (goodIn_of _ (by decide +kernel)) ggX3_lay_X3_nearTo
theorem dX3_lay_0 : decode cX3_lay 0 = .ok (.aload_n 0, 1) := by decide +kernel
theorem dX3_lay_1 : decode cX3_lay 1 = .ok (.iload_n 1, 1) := by decide +kernel
theorem dX3_lay_2 : decode cX3_lay 2 = .ok (.putfield 9, 3) := by decide +kernel
theorem dX3_lay_5 : decode cX3_lay 5 = .ok (.aload_n 0, 1) := by decide +kernel
theorem dX3_lay_6 : decode cX3_lay 6 = .ok (.iload_n 2, 1) := by decide +kernel
theorem dX3_lay_7 : decode cX3_lay 7 = .ok (.putfield 21, 3) := by decide +kernel
theorem dX3_lay_10 : decode cX3_lay 10 = .ok (.aload_n 0, 1) := by decide +kernel
theorem dX3_lay_11 : decode cX3_lay 11 = .ok (.iload_n 3, 1) := by decide +kernel
theorem dX3_lay_12 : decode cX3_lay 12 = .ok (.putfield 24, 3) := by decide +kernel
theorem dX3_lay_15 : decode cX3_lay 15 = .ok (.aload_n 0, 1) := by decide +kernel
theorem dX3_lay_16 : decode cX3_lay 16 = .ok (.iload 5, 2) := by decide +kernel
theorem dX3_lay_18 : decode cX3_lay 18 = .ok (.aload 4, 2) := by decide +kernel
theorem dX3_lay_20 : decode cX3_lay 20 = .ok (.arraylength, 1) := by decide +kernel
theorem dX3_lay_21 : decode cX3_lay 21 = .ok (.bipush 16, 2) := by decide +kernel
theorem dX3_lay_23 : decode cX3_lay 23 = .ok (.invokestatic 37, 3) := by decide +kernel
theorem dX3_lay_26 : decode cX3_lay 26 = .ok (.invokestatic 37, 3) := by decide +kernel
theorem dX3_lay_29 : decode cX3_lay 29 = .ok (.putfield 15, 3) := by decide +kernel
theorem dX3_lay_32 : decode cX3_lay 32 = .ok (.aload 4, 2) := by decide +kernel
theorem dX3_lay_34 : decode cX3_lay 34 = .ok (.iconst 0, 1) := by decide +kernel
theorem dX3_lay_35 : decode cX3_lay 35 = .ok (.aload_n 0, 1) := by decide +kernel
theorem dX3_lay_36 : decode cX3_lay 36 = .ok (.getfield 27, 3) := by decide +kernel
theorem dX3_lay_39 : decode cX3_lay 39 = .ok (.iconst 0, 1) := by decide +kernel
theorem dX3_lay_40 : decode cX3_lay 40 = .ok (.aload_n 0, 1) := by decide +kernel
theorem dX3_lay_41 : decode cX3_lay 41 = .ok (.getfield 15, 3) := by decide +kernel
theorem dX3_lay_44 : decode cX3_lay 44 = .ok (.invokestatic 43, 3) := by decide +kernel
theorem dX3_lay_47 : decode cX3_lay 47 = .ok (.aload_n 0, 1) := by decide +kernel
theorem dX3_lay_48 : decode cX3_lay 48 = .ok (.iconst 0, 1) := by decide +kernel
theorem dX3_lay_49 : decode cX3_lay 49 = .ok (.putfield 18, 3) := by decide +kernel
theorem dX3_lay_52 : decode cX3_lay 52 = .ok (.iconst 0, 1) := by decide +kernel
theorem dX3_lay_53 : decode cX3_lay 53 = .ok (.istore 6, 2) := by decide +kernel
theorem dX3_lay_55 : decode cX3_lay 55 = .ok (.iload 6, 2) := by decide +kernel
theorem dX3_lay_57 : decode cX3_lay 57 = .ok (.aload_n 0, 1) := by decide +kernel
theorem dX3_lay_58 : decode cX3_lay 58 = .ok (.getfield 15, 3) := by decide +kernel
theorem dX3_lay_61 : decode cX3_lay 61 = .ok (.if_icmp .ge 72, 3) := by decide +kernel
theorem dX3_lay_64 : decode cX3_lay 64 = .ok (.aload_n 0, 1) := by decide +kernel
theorem dX3_lay_65 : decode cX3_lay 65 = .ok (.aload_n 0, 1) := by decide +kernel
theorem dX3_lay_66 : decode cX3_lay 66 = .ok (.getfield 27, 3) := by decide +kernel
theorem dX3_lay_69 : decode cX3_lay 69 = .ok (.iload 6, 2) := by decide +kernel
theorem dX3_lay_71 : decode cX3_lay 71 = .ok (.iaload, 1) := by decide +kernel
theorem dX3_lay_72 : decode cX3_lay 72 = .ok (.invokevirtual 49, 3) := by decide +kernel
theorem dX3_lay_75 : decode cX3_lay 75 = .ok (.ifCond .eq 16, 3) := by decide +kernel
theorem dX3_lay_78 : decode cX3_lay 78 = .ok (.aload_n 0, 1) := by decide +kernel
theorem dX3_lay_79 : decode cX3_lay 79 = .ok (.dup, 1) := by decide +kernel
theorem dX3_lay_80 : decode cX3_lay 80 = .ok (.getfield 18, 3) := by decide +kernel
theorem dX3_lay_83 : decode cX3_lay 83 = .ok (.iconst 1, 1) := by decide +kernel
theorem dX3_lay_84 : decode cX3_lay 84 = .ok (.iload 6, 2) := by decide +kernel
theorem dX3_lay_86 : decode cX3_lay 86 = .ok (.ishl, 1) := by decide +kernel
theorem dX3_lay_87 : decode cX3_lay 87 = .ok (.ior, 1) := by decide +kernel
theorem dX3_lay_88 : decode cX3_lay 88 = .ok (.putfield 18, 3) := by decide +kernel
theorem dX3_lay_91 : decode cX3_lay 91 = .ok (.aload_n 0, 1) := by decide +kernel
theorem dX3_lay_92 : decode cX3_lay 92 = .ok (.getfield 31, 3) := by decide +kernel
theorem dX3_lay_95 : decode cX3_lay 95 = .ok (.iload 6, 2) := by decide +kernel
theorem dX3_lay_97 : decode cX3_lay 97 = .ok (.aload_n 0, 1) := by decide +kernel
theorem dX3_lay_98 : decode cX3_lay 98 = .ok (.aload_n 0, 1) := by decide +kernel
theorem dX3_lay_99 : decode cX3_lay 99 = .ok (.getfield 27, 3) := by decide +kernel
theorem dX3_lay_102 : decode cX3_lay 102 = .ok (.iload 6, 2) := by decide +kernel
theorem dX3_lay_104 : decode cX3_lay 104 = .ok (.iaload, 1) := by decide +kernel
theorem dX3_lay_105 : decode cX3_lay 105 = .ok (.invokevirtual 53, 3) := by decide +kernel
theorem dX3_lay_108 : decode cX3_lay 108 = .ok (.iastore, 1) := by decide +kernel
theorem dX3_lay_109 : decode cX3_lay 109 = .ok (.aload_n 0, 1) := by decide +kernel
theorem dX3_lay_110 : decode cX3_lay 110 = .ok (.getfield 34, 3) := by decide +kernel
theorem dX3_lay_113 : decode cX3_lay 113 = .ok (.iload 6, 2) := by decide +kernel
theorem dX3_lay_115 : decode cX3_lay 115 = .ok (.aload_n 0, 1) := by decide +kernel
theorem dX3_lay_116 : decode cX3_lay 116 = .ok (.aload_n 0, 1) := by decide +kernel
theorem dX3_lay_117 : decode cX3_lay 117 = .ok (.getfield 27, 3) := by decide +kernel
theorem dX3_lay_120 : decode cX3_lay 120 = .ok (.iload 6, 2) := by decide +kernel
theorem dX3_lay_122 : decode cX3_lay 122 = .ok (.iaload, 1) := by decide +kernel
theorem dX3_lay_123 : decode cX3_lay 123 = .ok (.invokevirtual 57, 3) := by decide +kernel
theorem dX3_lay_126 : decode cX3_lay 126 = .ok (.iastore, 1) := by decide +kernel
theorem dX3_lay_127 : decode cX3_lay 127 = .ok (.iinc 6 1, 3) := by decide +kernel
theorem dX3_lay_130 : decode cX3_lay 130 = .ok (.goto (-75), 3) := by decide +kernel
theorem dX3_lay_133 : decode cX3_lay 133 = .ok (.return_, 1) := by decide +kernel
theorem dX3_all_0 : decode cX3_all 0 = .ok (.iconst 1, 1) := by decide +kernel
theorem dX3_all_1 : decode cX3_all 1 = .ok (.aload_n 0, 1) := by decide +kernel
theorem dX3_all_2 : decode cX3_all 2 = .ok (.getfield 15, 3) := by decide +kernel
theorem dX3_all_5 : decode cX3_all 5 = .ok (.ishl, 1) := by decide +kernel
theorem dX3_all_6 : decode cX3_all 6 = .ok (.iconst 1, 1) := by decide +kernel
theorem dX3_all_7 : decode cX3_all 7 = .ok (.isub, 1) := by decide +kernel
theorem dX3_all_8 : decode cX3_all 8 = .ok (.ireturn, 1) := by decide +kernel
set_option maxRecDepth 20000 in
theorem ggX3_firstBreak_X8_has : GoodIn wsX3_firstBreak wsX8_has := goodIn_r _ [10] (by decide +kernel) (by decide +kernel)
set_option maxRecDepth 20000 in
theorem gX3_firstBreak_X8_has_n60 : GoodIn wsX3_firstBreak (wsX8_has) := ggX3_firstBreak_X8_has
set_option maxRecDepth 20000 in
theorem ggX3_firstBreak_J6_numberOfTrailingZeros_0f7a4 : GoodIn wsX3_firstBreak wsJ6_numberOfTrailingZeros_0f7a4 := goodIn_r _ [14, 15] (by decide +kernel) (by decide +kernel)
set_option maxRecDepth 20000 in
theorem gX3_firstBreak_J6_numberOfTrailingZeros_0f7a4 : GoodIn wsX3_firstBreak (va_wsS RX3 66 yJ6_numberOfTrailingZeros_0f7a4 wsJ6_numberOfTrailingZeros_0f7a4) := goodIn_app (goodIn_of _ (by decide +kernel)) ggX3_firstBreak_J6_numberOfTrailingZeros_0f7a4
theorem dX3_firstBreak_0 : decode cX3_firstBreak 0 = .ok (.iconst 0, 1) := by decide +kernel
theorem dX3_firstBreak_1 : decode cX3_firstBreak 1 = .ok (.istore_n 1, 1) := by decide +kernel
theorem dX3_firstBreak_2 : decode cX3_firstBreak 2 = .ok (.iload_n 1, 1) := by decide +kernel
theorem dX3_firstBreak_3 : decode cX3_firstBreak 3 = .ok (.aload_n 0, 1) := by decide +kernel
theorem dX3_firstBreak_4 : decode cX3_firstBreak 4 = .ok (.getfield 15, 3) := by decide +kernel
theorem dX3_firstBreak_7 : decode cX3_firstBreak 7 = .ok (.if_icmp .ge 25, 3) := by decide +kernel
theorem dX3_firstBreak_10 : decode cX3_firstBreak 10 = .ok (.aload_n 0, 1) := by decide +kernel
theorem dX3_firstBreak_11 : decode cX3_firstBreak 11 = .ok (.getfield 18, 3) := by decide +kernel
theorem dX3_firstBreak_14 : decode cX3_firstBreak 14 = .ok (.iload_n 1, 1) := by decide +kernel
theorem dX3_firstBreak_15 : decode cX3_firstBreak 15 = .ok (.invokestatic 60, 3) := by decide +kernel
theorem dX3_firstBreak_18 : decode cX3_firstBreak 18 = .ok (.ifCond .ne 8, 3) := by decide +kernel
theorem dX3_firstBreak_21 : decode cX3_firstBreak 21 = .ok (.ldc 64, 2) := by decide +kernel
theorem dX3_firstBreak_23 : decode cX3_firstBreak 23 = .ok (.iload_n 1, 1) := by decide +kernel
theorem dX3_firstBreak_24 : decode cX3_firstBreak 24 = .ok (.iadd, 1) := by decide +kernel
theorem dX3_firstBreak_25 : decode cX3_firstBreak 25 = .ok (.ireturn, 1) := by decide +kernel
theorem dX3_firstBreak_26 : decode cX3_firstBreak 26 = .ok (.iinc 1 1, 3) := by decide +kernel
theorem dX3_firstBreak_29 : decode cX3_firstBreak 29 = .ok (.goto (-27), 3) := by decide +kernel
theorem dX3_firstBreak_32 : decode cX3_firstBreak 32 = .ok (.iconst 0, 1) := by decide +kernel
theorem dX3_firstBreak_33 : decode cX3_firstBreak 33 = .ok (.istore_n 1, 1) := by decide +kernel
theorem dX3_firstBreak_34 : decode cX3_firstBreak 34 = .ok (.iload_n 1, 1) := by decide +kernel
theorem dX3_firstBreak_35 : decode cX3_firstBreak 35 = .ok (.aload_n 0, 1) := by decide +kernel
theorem dX3_firstBreak_36 : decode cX3_firstBreak 36 = .ok (.getfield 15, 3) := by decide +kernel
theorem dX3_firstBreak_39 : decode cX3_firstBreak 39 = .ok (.if_icmp .ge 41, 3) := by decide +kernel
theorem dX3_firstBreak_42 : decode cX3_firstBreak 42 = .ok (.aload_n 0, 1) := by decide +kernel
theorem dX3_firstBreak_43 : decode cX3_firstBreak 43 = .ok (.getfield 31, 3) := by decide +kernel
theorem dX3_firstBreak_46 : decode cX3_firstBreak 46 = .ok (.iload_n 1, 1) := by decide +kernel
theorem dX3_firstBreak_47 : decode cX3_firstBreak 47 = .ok (.iaload, 1) := by decide +kernel
theorem dX3_firstBreak_48 : decode cX3_firstBreak 48 = .ok (.iload_n 1, 1) := by decide +kernel
theorem dX3_firstBreak_49 : decode cX3_firstBreak 49 = .ok (.iconst 1, 1) := by decide +kernel
theorem dX3_firstBreak_50 : decode cX3_firstBreak 50 = .ok (.iadd, 1) := by decide +kernel
theorem dX3_firstBreak_51 : decode cX3_firstBreak 51 = .ok (.iushr, 1) := by decide +kernel
theorem dX3_firstBreak_52 : decode cX3_firstBreak 52 = .ok (.istore_n 2, 1) := by decide +kernel
theorem dX3_firstBreak_53 : decode cX3_firstBreak 53 = .ok (.iload_n 2, 1) := by decide +kernel
theorem dX3_firstBreak_54 : decode cX3_firstBreak 54 = .ok (.ifCond .eq 20, 3) := by decide +kernel
theorem dX3_firstBreak_57 : decode cX3_firstBreak 57 = .ok (.ldc 65, 2) := by decide +kernel
theorem dX3_firstBreak_59 : decode cX3_firstBreak 59 = .ok (.bipush 100, 2) := by decide +kernel
theorem dX3_firstBreak_61 : decode cX3_firstBreak 61 = .ok (.iload_n 1, 1) := by decide +kernel
theorem dX3_firstBreak_62 : decode cX3_firstBreak 62 = .ok (.imul, 1) := by decide +kernel
theorem dX3_firstBreak_63 : decode cX3_firstBreak 63 = .ok (.iadd, 1) := by decide +kernel
theorem dX3_firstBreak_64 : decode cX3_firstBreak 64 = .ok (.iload_n 1, 1) := by decide +kernel
theorem dX3_firstBreak_65 : decode cX3_firstBreak 65 = .ok (.iadd, 1) := by decide +kernel
theorem dX3_firstBreak_66 : decode cX3_firstBreak 66 = .ok (.iconst 1, 1) := by decide +kernel
theorem dX3_firstBreak_67 : decode cX3_firstBreak 67 = .ok (.iadd, 1) := by decide +kernel
theorem dX3_firstBreak_68 : decode cX3_firstBreak 68 = .ok (.iload_n 2, 1) := by decide +kernel
theorem dX3_firstBreak_69 : decode cX3_firstBreak 69 = .ok (.invokestatic 66, 3) := by decide +kernel
theorem dX3_firstBreak_72 : decode cX3_firstBreak 72 = .ok (.iadd, 1) := by decide +kernel
theorem dX3_firstBreak_73 : decode cX3_firstBreak 73 = .ok (.ireturn, 1) := by decide +kernel
theorem dX3_firstBreak_74 : decode cX3_firstBreak 74 = .ok (.iinc 1 1, 3) := by decide +kernel
theorem dX3_firstBreak_77 : decode cX3_firstBreak 77 = .ok (.goto (-43), 3) := by decide +kernel
theorem dX3_firstBreak_80 : decode cX3_firstBreak 80 = .ok (.iconst 0, 1) := by decide +kernel
theorem dX3_firstBreak_81 : decode cX3_firstBreak 81 = .ok (.istore_n 1, 1) := by decide +kernel
theorem dX3_firstBreak_82 : decode cX3_firstBreak 82 = .ok (.iload_n 1, 1) := by decide +kernel
theorem dX3_firstBreak_83 : decode cX3_firstBreak 83 = .ok (.aload_n 0, 1) := by decide +kernel
theorem dX3_firstBreak_84 : decode cX3_firstBreak 84 = .ok (.getfield 15, 3) := by decide +kernel
theorem dX3_firstBreak_87 : decode cX3_firstBreak 87 = .ok (.if_icmp .ge 89, 3) := by decide +kernel
theorem dX3_firstBreak_90 : decode cX3_firstBreak 90 = .ok (.iload_n 1, 1) := by decide +kernel
theorem dX3_firstBreak_91 : decode cX3_firstBreak 91 = .ok (.iconst 1, 1) := by decide +kernel
theorem dX3_firstBreak_92 : decode cX3_firstBreak 92 = .ok (.iadd, 1) := by decide +kernel
theorem dX3_firstBreak_93 : decode cX3_firstBreak 93 = .ok (.istore_n 2, 1) := by decide +kernel
theorem dX3_firstBreak_94 : decode cX3_firstBreak 94 = .ok (.iload_n 2, 1) := by decide +kernel
theorem dX3_firstBreak_95 : decode cX3_firstBreak 95 = .ok (.aload_n 0, 1) := by decide +kernel
theorem dX3_firstBreak_96 : decode cX3_firstBreak 96 = .ok (.getfield 15, 3) := by decide +kernel
theorem dX3_firstBreak_99 : decode cX3_firstBreak 99 = .ok (.if_icmp .ge 71, 3) := by decide +kernel
theorem dX3_firstBreak_102 : decode cX3_firstBreak 102 = .ok (.aload_n 0, 1) := by decide +kernel
theorem dX3_firstBreak_103 : decode cX3_firstBreak 103 = .ok (.getfield 34, 3) := by decide +kernel
theorem dX3_firstBreak_106 : decode cX3_firstBreak 106 = .ok (.iload_n 1, 1) := by decide +kernel
theorem dX3_firstBreak_107 : decode cX3_firstBreak 107 = .ok (.iaload, 1) := by decide +kernel
theorem dX3_firstBreak_108 : decode cX3_firstBreak 108 = .ok (.iload_n 2, 1) := by decide +kernel
theorem dX3_firstBreak_109 : decode cX3_firstBreak 109 = .ok (.invokestatic 60, 3) := by decide +kernel
theorem dX3_firstBreak_112 : decode cX3_firstBreak 112 = .ok (.ifCond .eq 23, 3) := by decide +kernel
theorem dX3_firstBreak_115 : decode cX3_firstBreak 115 = .ok (.aload_n 0, 1) := by decide +kernel
theorem dX3_firstBreak_116 : decode cX3_firstBreak 116 = .ok (.getfield 34, 3) := by decide +kernel
theorem dX3_firstBreak_119 : decode cX3_firstBreak 119 = .ok (.iload_n 1, 1) := by decide +kernel
theorem dX3_firstBreak_120 : decode cX3_firstBreak 120 = .ok (.iaload, 1) := by decide +kernel
theorem dX3_firstBreak_121 : decode cX3_firstBreak 121 = .ok (.aload_n 0, 1) := by decide +kernel
theorem dX3_firstBreak_122 : decode cX3_firstBreak 122 = .ok (.getfield 34, 3) := by decide +kernel
theorem dX3_firstBreak_125 : decode cX3_firstBreak 125 = .ok (.iload_n 2, 1) := by decide +kernel
theorem dX3_firstBreak_126 : decode cX3_firstBreak 126 = .ok (.iaload, 1) := by decide +kernel
theorem dX3_firstBreak_127 : decode cX3_firstBreak 127 = .ok (.iand, 1) := by decide +kernel
theorem dX3_firstBreak_128 : decode cX3_firstBreak 128 = .ok (.iload_n 2, 1) := by decide +kernel
theorem dX3_firstBreak_129 : decode cX3_firstBreak 129 = .ok (.iconst 1, 1) := by decide +kernel
theorem dX3_firstBreak_130 : decode cX3_firstBreak 130 = .ok (.iadd, 1) := by decide +kernel
theorem dX3_firstBreak_131 : decode cX3_firstBreak 131 = .ok (.iushr, 1) := by decide +kernel
theorem dX3_firstBreak_132 : decode cX3_firstBreak 132 = .ok (.goto 4, 3) := by decide +kernel
theorem dX3_firstBreak_135 : decode cX3_firstBreak 135 = .ok (.iconst 0, 1) := by decide +kernel
theorem dX3_firstBreak_136 : decode cX3_firstBreak 136 = .ok (.istore_n 3, 1) := by decide +kernel
theorem dX3_firstBreak_137 : decode cX3_firstBreak 137 = .ok (.iload_n 3, 1) := by decide +kernel
theorem dX3_firstBreak_138 : decode cX3_firstBreak 138 = .ok (.ifCond .eq 26, 3) := by decide +kernel
theorem dX3_firstBreak_141 : decode cX3_firstBreak 141 = .ok (.ldc 71, 2) := by decide +kernel
theorem dX3_firstBreak_143 : decode cX3_firstBreak 143 = .ok (.sipush 10000, 3) := by decide +kernel
theorem dX3_firstBreak_146 : decode cX3_firstBreak 146 = .ok (.iload_n 1, 1) := by decide +kernel
theorem dX3_firstBreak_147 : decode cX3_firstBreak 147 = .ok (.imul, 1) := by decide +kernel
theorem dX3_firstBreak_148 : decode cX3_firstBreak 148 = .ok (.iadd, 1) := by decide +kernel
theorem dX3_firstBreak_149 : decode cX3_firstBreak 149 = .ok (.bipush 100, 2) := by decide +kernel
theorem dX3_firstBreak_151 : decode cX3_firstBreak 151 = .ok (.iload_n 2, 1) := by decide +kernel
theorem dX3_firstBreak_152 : decode cX3_firstBreak 152 = .ok (.imul, 1) := by decide +kernel
theorem dX3_firstBreak_153 : decode cX3_firstBreak 153 = .ok (.iadd, 1) := by decide +kernel
theorem dX3_firstBreak_154 : decode cX3_firstBreak 154 = .ok (.iload_n 2, 1) := by decide +kernel
theorem dX3_firstBreak_155 : decode cX3_firstBreak 155 = .ok (.iadd, 1) := by decide +kernel
theorem dX3_firstBreak_156 : decode cX3_firstBreak 156 = .ok (.iconst 1, 1) := by decide +kernel
theorem dX3_firstBreak_157 : decode cX3_firstBreak 157 = .ok (.iadd, 1) := by decide +kernel
theorem dX3_firstBreak_158 : decode cX3_firstBreak 158 = .ok (.iload_n 3, 1) := by decide +kernel
theorem dX3_firstBreak_159 : decode cX3_firstBreak 159 = .ok (.invokestatic 66, 3) := by decide +kernel
theorem dX3_firstBreak_162 : decode cX3_firstBreak 162 = .ok (.iadd, 1) := by decide +kernel
theorem dX3_firstBreak_163 : decode cX3_firstBreak 163 = .ok (.ireturn, 1) := by decide +kernel
theorem dX3_firstBreak_164 : decode cX3_firstBreak 164 = .ok (.iinc 2 1, 3) := by decide +kernel
theorem dX3_firstBreak_167 : decode cX3_firstBreak 167 = .ok (.goto (-73), 3) := by decide +kernel
theorem dX3_firstBreak_170 : decode cX3_firstBreak 170 = .ok (.iinc 1 1, 3) := by decide +kernel
theorem dX3_firstBreak_173 : decode cX3_firstBreak 173 = .ok (.goto (-91), 3) := by decide +kernel
theorem dX3_firstBreak_176 : decode cX3_firstBreak 176 = .ok (.iconst (-1), 1) := by decide +kernel
theorem dX3_firstBreak_177 : decode cX3_firstBreak 177 = .ok (.ireturn, 1) := by decide +kernel
set_option maxRecDepth 20000 in
theorem ggX3_admits_X3_fitsAlone : GoodIn wsX3_admits wsX3_fitsAlone := goodIn_r _ [5, 6, 7, 8, 9, 10, 11, 12, 13, 14, 15, 16, 17, 18, 42, 43, 44, 45, 46, 47, 48, 49] (by decide +kernel) (by decide +kernel)
set_option maxRecDepth 20000 in
theorem gX3_admits_X3_fitsAlone : GoodIn wsX3_admits (wsV RX3 49 RX3 yX3_fitsAlone wsX3_fitsAlone) := goodIn_app (goodIn_of _ (by decide +kernel)) ggX3_admits_X3_fitsAlone
set_option maxRecDepth 20000 in
theorem ggX3_admits_X3_clashing : GoodIn wsX3_admits wsX3_clashing := goodIn_r _ [22, 23, 24, 25, 26, 27, 4, 28, 8, 29, 17, 30, 42, 43, 44, 45, 46, 47, 48, 49] (by decide +kernel) (by decide +kernel)
set_option maxRecDepth 20000 in
theorem gX3_admits_X3_clashing : GoodIn wsX3_admits (wsV RX3 53 RX3 yX3_clashing wsX3_clashing) := goodIn_app (goodIn_of _ (by decide +kernel)) ggX3_admits_X3_clashing
set_option maxRecDepth 20000 in
theorem ggX3_admits_X3_nearTo : GoodIn wsX3_admits wsX3_nearTo := goodIn_r _ [34, 8, 23, 24, 29, 17, 30, 42, 43, 44, 45, 46, 47, 48, 49] (by decide +kernel) (by decide +kernel)
set_option maxRecDepth 20000 in
theorem gX3_admits_X3_nearTo : GoodIn wsX3_admits (wsV RX3 57 RX3 yX3_nearTo wsX3_nearTo) := goodIn_app (goodIn_of _ (by decide +kernel)) ggX3_admits_X3_nearTo
set_option maxRecDepth 20000 in
theorem ggX3_admits_X3_anyTwoNear : GoodIn wsX3_admits wsX3_anyTwoNear := goodIn_r _ [38, 23, 39, 40, 17, 41, 42, 43, 44, 45, 46, 47, 48, 49] (by decide +kernel) (by decide +kernel)
set_option maxRecDepth 20000 in
theorem gX3_admits_X3_anyTwoNear : GoodIn wsX3_admits (wsV RX3 72 RX3 yX3_anyTwoNear wsX3_anyTwoNear) := goodIn_app (goodIn_of _ (by decide +kernel)) ggX3_admits_X3_anyTwoNear
theorem dX3_admits_0 : decode cX3_admits 0 = .ok (.aload_n 0, 1) := by decide +kernel
theorem dX3_admits_1 : decode cX3_admits 1 = .ok (.iload_n 1, 1) := by decide +kernel
theorem dX3_admits_2 : decode cX3_admits 2 = .ok (.invokevirtual 49, 3) := by decide +kernel
theorem dX3_admits_5 : decode cX3_admits 5 = .ok (.ifCond .eq 11, 3) := by decide +kernel
theorem dX3_admits_8 : decode cX3_admits 8 = .ok (.aload_n 0, 1) := by decide +kernel
theorem dX3_admits_9 : decode cX3_admits 9 = .ok (.iload_n 1, 1) := by decide +kernel
theorem dX3_admits_10 : decode cX3_admits 10 = .ok (.invokevirtual 53, 3) := by decide +kernel
theorem dX3_admits_13 : decode cX3_admits 13 = .ok (.ifCond .eq 5, 3) := by decide +kernel
theorem dX3_admits_16 : decode cX3_admits 16 = .ok (.iconst 0, 1) := by decide +kernel
theorem dX3_admits_17 : decode cX3_admits 17 = .ok (.ireturn, 1) := by decide +kernel
theorem dX3_admits_18 : decode cX3_admits 18 = .ok (.aload_n 0, 1) := by decide +kernel
theorem dX3_admits_19 : decode cX3_admits 19 = .ok (.aload_n 0, 1) := by decide +kernel
theorem dX3_admits_20 : decode cX3_admits 20 = .ok (.iload_n 1, 1) := by decide +kernel
theorem dX3_admits_21 : decode cX3_admits 21 = .ok (.invokevirtual 57, 3) := by decide +kernel
theorem dX3_admits_24 : decode cX3_admits 24 = .ok (.invokevirtual 72, 3) := by decide +kernel
theorem dX3_admits_27 : decode cX3_admits 27 = .ok (.ifCond .ne 7, 3) := by decide +kernel
theorem dX3_admits_30 : decode cX3_admits 30 = .ok (.iconst 1, 1) := by decide +kernel
theorem dX3_admits_31 : decode cX3_admits 31 = .ok (.goto 4, 3) := by decide +kernel
theorem dX3_admits_34 : decode cX3_admits 34 = .ok (.iconst 0, 1) := by decide +kernel
theorem dX3_admits_35 : decode cX3_admits 35 = .ok (.ireturn, 1) := by decide +kernel
set_option maxRecDepth 20000 in
theorem ggX3_barredBy_X8_has : GoodIn wsX3_barredBy wsX8_has := goodIn_r _ [6] (by decide +kernel) (by decide +kernel)
set_option maxRecDepth 20000 in
theorem gX3_barredBy_X8_has_n60 : GoodIn wsX3_barredBy (wsX8_has) := ggX3_barredBy_X8_has
theorem dX3_barredBy_0 : decode cX3_barredBy 0 = .ok (.aload_n 0, 1) := by decide +kernel
theorem dX3_barredBy_1 : decode cX3_barredBy 1 = .ok (.getfield 31, 3) := by decide +kernel
theorem dX3_barredBy_4 : decode cX3_barredBy 4 = .ok (.iload_n 1, 1) := by decide +kernel
theorem dX3_barredBy_5 : decode cX3_barredBy 5 = .ok (.iaload, 1) := by decide +kernel
theorem dX3_barredBy_6 : decode cX3_barredBy 6 = .ok (.istore_n 3, 1) := by decide +kernel
theorem dX3_barredBy_7 : decode cX3_barredBy 7 = .ok (.aload_n 0, 1) := by decide +kernel
theorem dX3_barredBy_8 : decode cX3_barredBy 8 = .ok (.getfield 34, 3) := by decide +kernel
theorem dX3_barredBy_11 : decode cX3_barredBy 11 = .ok (.iload_n 1, 1) := by decide +kernel
theorem dX3_barredBy_12 : decode cX3_barredBy 12 = .ok (.iaload, 1) := by decide +kernel
theorem dX3_barredBy_13 : decode cX3_barredBy 13 = .ok (.iload_n 2, 1) := by decide +kernel
theorem dX3_barredBy_14 : decode cX3_barredBy 14 = .ok (.iand, 1) := by decide +kernel
theorem dX3_barredBy_15 : decode cX3_barredBy 15 = .ok (.istore 4, 2) := by decide +kernel
theorem dX3_barredBy_17 : decode cX3_barredBy 17 = .ok (.iconst 0, 1) := by decide +kernel
theorem dX3_barredBy_18 : decode cX3_barredBy 18 = .ok (.istore 5, 2) := by decide +kernel
theorem dX3_barredBy_20 : decode cX3_barredBy 20 = .ok (.iload 5, 2) := by decide +kernel
theorem dX3_barredBy_22 : decode cX3_barredBy 22 = .ok (.aload_n 0, 1) := by decide +kernel
theorem dX3_barredBy_23 : decode cX3_barredBy 23 = .ok (.getfield 15, 3) := by decide +kernel
theorem dX3_barredBy_26 : decode cX3_barredBy 26 = .ok (.if_icmp .ge 36, 3) := by decide +kernel
theorem dX3_barredBy_29 : decode cX3_barredBy 29 = .ok (.iload 4, 2) := by decide +kernel
theorem dX3_barredBy_31 : decode cX3_barredBy 31 = .ok (.iload 5, 2) := by decide +kernel
theorem dX3_barredBy_33 : decode cX3_barredBy 33 = .ok (.invokestatic 60, 3) := by decide +kernel
theorem dX3_barredBy_36 : decode cX3_barredBy 36 = .ok (.ifCond .eq 20, 3) := by decide +kernel
theorem dX3_barredBy_39 : decode cX3_barredBy 39 = .ok (.iload_n 3, 1) := by decide +kernel
theorem dX3_barredBy_40 : decode cX3_barredBy 40 = .ok (.aload_n 0, 1) := by decide +kernel
theorem dX3_barredBy_41 : decode cX3_barredBy 41 = .ok (.getfield 34, 3) := by decide +kernel
theorem dX3_barredBy_44 : decode cX3_barredBy 44 = .ok (.iload_n 1, 1) := by decide +kernel
theorem dX3_barredBy_45 : decode cX3_barredBy 45 = .ok (.iaload, 1) := by decide +kernel
theorem dX3_barredBy_46 : decode cX3_barredBy 46 = .ok (.aload_n 0, 1) := by decide +kernel
theorem dX3_barredBy_47 : decode cX3_barredBy 47 = .ok (.getfield 34, 3) := by decide +kernel
theorem dX3_barredBy_50 : decode cX3_barredBy 50 = .ok (.iload 5, 2) := by decide +kernel
theorem dX3_barredBy_52 : decode cX3_barredBy 52 = .ok (.iaload, 1) := by decide +kernel
theorem dX3_barredBy_53 : decode cX3_barredBy 53 = .ok (.iand, 1) := by decide +kernel
theorem dX3_barredBy_54 : decode cX3_barredBy 54 = .ok (.ior, 1) := by decide +kernel
theorem dX3_barredBy_55 : decode cX3_barredBy 55 = .ok (.istore_n 3, 1) := by decide +kernel
theorem dX3_barredBy_56 : decode cX3_barredBy 56 = .ok (.iinc 5 1, 3) := by decide +kernel
theorem dX3_barredBy_59 : decode cX3_barredBy 59 = .ok (.goto (-39), 3) := by decide +kernel
theorem dX3_barredBy_62 : decode cX3_barredBy 62 = .ok (.iload_n 3, 1) := by decide +kernel
theorem dX3_barredBy_63 : decode cX3_barredBy 63 = .ok (.ireturn, 1) := by decide +kernel
set_option maxRecDepth 20000 in
theorem ggX3_barredByAll_X3_all : GoodIn wsX3_barredByAll wsX3_all := goodIn_r _ [7, 2, 17, 18, 19, 20, 21, 22, 23, 24] (by decide +kernel) (by decide +kernel)
set_option maxRecDepth 20000 in
theorem gX3_barredByAll_X3_all : GoodIn wsX3_barredByAll (wsV RX3 75 RX3 yX3_all wsX3_all) := goodIn_app (goodIn_of _ (by decide +kernel)) ggX3_barredByAll_X3_all
set_option maxRecDepth 20000 in
theorem ggX3_barredByAll_X8_has : GoodIn wsX3_barredByAll wsX8_has := goodIn_r _ [10] (by decide +kernel) (by decide +kernel)
set_option maxRecDepth 20000 in
theorem gX3_barredByAll_X8_has_n60 : GoodIn wsX3_barredByAll (wsX8_has) := ggX3_barredByAll_X8_has
set_option maxRecDepth 20000 in
theorem ggX3_barredByAll_X3_barredBy : GoodIn wsX3_barredByAll wsX3_barredBy := goodIn_r _ [14, 15, 16, 2, 8, 9, 10, 17, 18, 19, 20, 21, 22, 23, 24] (by decide +kernel) (by decide +kernel)
set_option maxRecDepth 20000 in
theorem gX3_barredByAll_X3_barredBy : GoodIn wsX3_barredByAll (wsV RX3 79 RX3 yX3_barredBy wsX3_barredBy) := goodIn_app (goodIn_of _ (by decide +kernel)) ggX3_barredByAll_X3_barredBy
theorem dX3_barredByAll_0 : decode cX3_barredByAll 0 = .ok (.aload_n 0, 1) := by decide +kernel
theorem dX3_barredByAll_1 : decode cX3_barredByAll 1 = .ok (.invokevirtual 75, 3) := by decide +kernel
theorem dX3_barredByAll_4 : decode cX3_barredByAll 4 = .ok (.aload_n 0, 1) := by decide +kernel
theorem dX3_barredByAll_5 : decode cX3_barredByAll 5 = .ok (.getfield 18, 3) := by decide +kernel
theorem dX3_barredByAll_8 : decode cX3_barredByAll 8 = .ok (.iconst (-1), 1) := by decide +kernel
theorem dX3_barredByAll_9 : decode cX3_barredByAll 9 = .ok (.ixor, 1) := by decide +kernel
theorem dX3_barredByAll_10 : decode cX3_barredByAll 10 = .ok (.iand, 1) := by decide +kernel
theorem dX3_barredByAll_11 : decode cX3_barredByAll 11 = .ok (.istore_n 2, 1) := by decide +kernel
theorem dX3_barredByAll_12 : decode cX3_barredByAll 12 = .ok (.iconst 0, 1) := by decide +kernel
theorem dX3_barredByAll_13 : decode cX3_barredByAll 13 = .ok (.istore_n 3, 1) := by decide +kernel
theorem dX3_barredByAll_14 : decode cX3_barredByAll 14 = .ok (.iconst 0, 1) := by decide +kernel
theorem dX3_barredByAll_15 : decode cX3_barredByAll 15 = .ok (.istore 4, 2) := by decide +kernel
theorem dX3_barredByAll_17 : decode cX3_barredByAll 17 = .ok (.iload 4, 2) := by decide +kernel
theorem dX3_barredByAll_19 : decode cX3_barredByAll 19 = .ok (.aload_n 0, 1) := by decide +kernel
theorem dX3_barredByAll_20 : decode cX3_barredByAll 20 = .ok (.getfield 15, 3) := by decide +kernel
theorem dX3_barredByAll_23 : decode cX3_barredByAll 23 = .ok (.if_icmp .ge 46, 3) := by decide +kernel
theorem dX3_barredByAll_26 : decode cX3_barredByAll 26 = .ok (.iload_n 1, 1) := by decide +kernel
theorem dX3_barredByAll_27 : decode cX3_barredByAll 27 = .ok (.iload 4, 2) := by decide +kernel
theorem dX3_barredByAll_29 : decode cX3_barredByAll 29 = .ok (.invokestatic 60, 3) := by decide +kernel
theorem dX3_barredByAll_32 : decode cX3_barredByAll 32 = .ok (.ifCond .eq 31, 3) := by decide +kernel
theorem dX3_barredByAll_35 : decode cX3_barredByAll 35 = .ok (.iload_n 2, 1) := by decide +kernel
theorem dX3_barredByAll_36 : decode cX3_barredByAll 36 = .ok (.iload 4, 2) := by decide +kernel
theorem dX3_barredByAll_38 : decode cX3_barredByAll 38 = .ok (.invokestatic 60, 3) := by decide +kernel
theorem dX3_barredByAll_41 : decode cX3_barredByAll 41 = .ok (.ifCond .eq 5, 3) := by decide +kernel
theorem dX3_barredByAll_44 : decode cX3_barredByAll 44 = .ok (.iconst (-1), 1) := by decide +kernel
theorem dX3_barredByAll_45 : decode cX3_barredByAll 45 = .ok (.ireturn, 1) := by decide +kernel
theorem dX3_barredByAll_46 : decode cX3_barredByAll 46 = .ok (.iload_n 2, 1) := by decide +kernel
theorem dX3_barredByAll_47 : decode cX3_barredByAll 47 = .ok (.aload_n 0, 1) := by decide +kernel
theorem dX3_barredByAll_48 : decode cX3_barredByAll 48 = .ok (.iload 4, 2) := by decide +kernel
theorem dX3_barredByAll_50 : decode cX3_barredByAll 50 = .ok (.iload_n 3, 1) := by decide +kernel
theorem dX3_barredByAll_51 : decode cX3_barredByAll 51 = .ok (.invokevirtual 79, 3) := by decide +kernel
theorem dX3_barredByAll_54 : decode cX3_barredByAll 54 = .ok (.ior, 1) := by decide +kernel
theorem dX3_barredByAll_55 : decode cX3_barredByAll 55 = .ok (.istore_n 2, 1) := by decide +kernel
theorem dX3_barredByAll_56 : decode cX3_barredByAll 56 = .ok (.iload_n 3, 1) := by decide +kernel
theorem dX3_barredByAll_57 : decode cX3_barredByAll 57 = .ok (.iconst 1, 1) := by decide +kernel
theorem dX3_barredByAll_58 : decode cX3_barredByAll 58 = .ok (.iload 4, 2) := by decide +kernel
theorem dX3_barredByAll_60 : decode cX3_barredByAll 60 = .ok (.ishl, 1) := by decide +kernel
theorem dX3_barredByAll_61 : decode cX3_barredByAll 61 = .ok (.ior, 1) := by decide +kernel
theorem dX3_barredByAll_62 : decode cX3_barredByAll 62 = .ok (.istore_n 3, 1) := by decide +kernel
theorem dX3_barredByAll_63 : decode cX3_barredByAll 63 = .ok (.iinc 4 1, 3) := by decide +kernel
theorem dX3_barredByAll_66 : decode cX3_barredByAll 66 = .ok (.goto (-49), 3) := by decide +kernel
theorem dX3_barredByAll_69 : decode cX3_barredByAll 69 = .ok (.iload_n 2, 1) := by decide +kernel
theorem dX3_barredByAll_70 : decode cX3_barredByAll 70 = .ok (.ireturn, 1) := by decide +kernel
set_option maxRecDepth 20000 in
theorem ggX3_tangled_X3_anyTwoNear : GoodIn wsX3_tangled wsX3_anyTwoNear := goodIn_r _ [7, 8, 2, 9, 10, 11, 12, 13, 14, 15, 16, 17, 18, 19] (by decide +kernel) (by decide +kernel)
set_option maxRecDepth 20000 in
theorem gX3_tangled_X3_anyTwoNear : GoodIn wsX3_tangled (wsV RX3 72 RX3 yX3_anyTwoNear wsX3_anyTwoNear) := goodIn_app (goodIn_of _ (by decide +kernel)) ggX3_tangled_X3_anyTwoNear
theorem dX3_tangled_0 : decode cX3_tangled 0 = .ok (.aload_n 0, 1) := by decide +kernel
theorem dX3_tangled_1 : decode cX3_tangled 1 = .ok (.getfield 31, 3) := by decide +kernel
theorem dX3_tangled_4 : decode cX3_tangled 4 = .ok (.iload_n 1, 1) := by decide +kernel
theorem dX3_tangled_5 : decode cX3_tangled 5 = .ok (.iaload, 1) := by decide +kernel
theorem dX3_tangled_6 : decode cX3_tangled 6 = .ok (.iload_n 2, 1) := by decide +kernel
theorem dX3_tangled_7 : decode cX3_tangled 7 = .ok (.iand, 1) := by decide +kernel
theorem dX3_tangled_8 : decode cX3_tangled 8 = .ok (.ifCond .ne 18, 3) := by decide +kernel
theorem dX3_tangled_11 : decode cX3_tangled 11 = .ok (.aload_n 0, 1) := by decide +kernel
theorem dX3_tangled_12 : decode cX3_tangled 12 = .ok (.aload_n 0, 1) := by decide +kernel
theorem dX3_tangled_13 : decode cX3_tangled 13 = .ok (.getfield 34, 3) := by decide +kernel
theorem dX3_tangled_16 : decode cX3_tangled 16 = .ok (.iload_n 1, 1) := by decide +kernel
theorem dX3_tangled_17 : decode cX3_tangled 17 = .ok (.iaload, 1) := by decide +kernel
theorem dX3_tangled_18 : decode cX3_tangled 18 = .ok (.iload_n 2, 1) := by decide +kernel
theorem dX3_tangled_19 : decode cX3_tangled 19 = .ok (.iand, 1) := by decide +kernel
theorem dX3_tangled_20 : decode cX3_tangled 20 = .ok (.invokevirtual 72, 3) := by decide +kernel
theorem dX3_tangled_23 : decode cX3_tangled 23 = .ok (.ifCond .eq 7, 3) := by decide +kernel
theorem dX3_tangled_26 : decode cX3_tangled 26 = .ok (.iconst 1, 1) := by decide +kernel
theorem dX3_tangled_27 : decode cX3_tangled 27 = .ok (.goto 4, 3) := by decide +kernel
theorem dX3_tangled_30 : decode cX3_tangled 30 = .ok (.iconst 0, 1) := by decide +kernel
theorem dX3_tangled_31 : decode cX3_tangled 31 = .ok (.ireturn, 1) := by decide +kernel
set_option maxRecDepth 20000 in
theorem ggX3_anyTwoNear_X8_has : GoodIn wsX3_anyTwoNear wsX8_has := goodIn_r _ [5] (by decide +kernel) (by decide +kernel)
set_option maxRecDepth 20000 in
theorem gX3_anyTwoNear_X8_has_n60 : GoodIn wsX3_anyTwoNear (wsX8_has) := ggX3_anyTwoNear_X8_has
theorem dX3_anyTwoNear_0 : decode cX3_anyTwoNear 0 = .ok (.iconst 0, 1) := by decide +kernel
theorem dX3_anyTwoNear_1 : decode cX3_anyTwoNear 1 = .ok (.istore_n 2, 1) := by decide +kernel
theorem dX3_anyTwoNear_2 : decode cX3_anyTwoNear 2 = .ok (.iload_n 2, 1) := by decide +kernel
theorem dX3_anyTwoNear_3 : decode cX3_anyTwoNear 3 = .ok (.aload_n 0, 1) := by decide +kernel
theorem dX3_anyTwoNear_4 : decode cX3_anyTwoNear 4 = .ok (.getfield 15, 3) := by decide +kernel
theorem dX3_anyTwoNear_7 : decode cX3_anyTwoNear 7 = .ok (.if_icmp .ge 30, 3) := by decide +kernel
theorem dX3_anyTwoNear_10 : decode cX3_anyTwoNear 10 = .ok (.iload_n 1, 1) := by decide +kernel
theorem dX3_anyTwoNear_11 : decode cX3_anyTwoNear 11 = .ok (.iload_n 2, 1) := by decide +kernel
theorem dX3_anyTwoNear_12 : decode cX3_anyTwoNear 12 = .ok (.invokestatic 60, 3) := by decide +kernel
theorem dX3_anyTwoNear_15 : decode cX3_anyTwoNear 15 = .ok (.ifCond .eq 16, 3) := by decide +kernel
theorem dX3_anyTwoNear_18 : decode cX3_anyTwoNear 18 = .ok (.aload_n 0, 1) := by decide +kernel
theorem dX3_anyTwoNear_19 : decode cX3_anyTwoNear 19 = .ok (.getfield 34, 3) := by decide +kernel
theorem dX3_anyTwoNear_22 : decode cX3_anyTwoNear 22 = .ok (.iload_n 2, 1) := by decide +kernel
theorem dX3_anyTwoNear_23 : decode cX3_anyTwoNear 23 = .ok (.iaload, 1) := by decide +kernel
theorem dX3_anyTwoNear_24 : decode cX3_anyTwoNear 24 = .ok (.iload_n 1, 1) := by decide +kernel
theorem dX3_anyTwoNear_25 : decode cX3_anyTwoNear 25 = .ok (.iand, 1) := by decide +kernel
theorem dX3_anyTwoNear_26 : decode cX3_anyTwoNear 26 = .ok (.ifCond .eq 5, 3) := by decide +kernel
theorem dX3_anyTwoNear_29 : decode cX3_anyTwoNear 29 = .ok (.iconst 1, 1) := by decide +kernel
theorem dX3_anyTwoNear_30 : decode cX3_anyTwoNear 30 = .ok (.ireturn, 1) := by decide +kernel
theorem dX3_anyTwoNear_31 : decode cX3_anyTwoNear 31 = .ok (.iinc 2 1, 3) := by decide +kernel
theorem dX3_anyTwoNear_34 : decode cX3_anyTwoNear 34 = .ok (.goto (-32), 3) := by decide +kernel
theorem dX3_anyTwoNear_37 : decode cX3_anyTwoNear 37 = .ok (.iconst 0, 1) := by decide +kernel
theorem dX3_anyTwoNear_38 : decode cX3_anyTwoNear 38 = .ok (.ireturn, 1) := by decide +kernel
set_option maxRecDepth 20000 in
theorem ggX3_fitsAlone_J6_bitCount_0f7a4 : GoodIn wsX3_fitsAlone wsJ6_bitCount_0f7a4 := goodIn_r _ [7, 8, 9, 10] (by decide +kernel) (by decide +kernel)
set_option maxRecDepth 20000 in
theorem gX3_fitsAlone_J6_bitCount_0f7a4 : GoodIn wsX3_fitsAlone (va_wsS RX3 82 yJ6_bitCount_0f7a4 wsJ6_bitCount_0f7a4) := goodIn_app (goodIn_of _ (by decide +kernel)) ggX3_fitsAlone_J6_bitCount_0f7a4
set_option maxRecDepth 20000 in
theorem ggX3_fitsAlone_X8_between : GoodIn wsX3_fitsAlone wsX8_between := goodIn_r _ [13] (by decide +kernel) (by decide +kernel)
set_option maxRecDepth 20000 in
theorem gX3_fitsAlone_X8_between_n85 : GoodIn wsX3_fitsAlone (wsX8_between) := ggX3_fitsAlone_X8_between
theorem dX3_fitsAlone_0 : decode cX3_fitsAlone 0 = .ok (.iload_n 1, 1) := by decide +kernel
theorem dX3_fitsAlone_1 : decode cX3_fitsAlone 1 = .ok (.invokestatic 82, 3) := by decide +kernel
theorem dX3_fitsAlone_4 : decode cX3_fitsAlone 4 = .ok (.aload_n 0, 1) := by decide +kernel
theorem dX3_fitsAlone_5 : decode cX3_fitsAlone 5 = .ok (.getfield 21, 3) := by decide +kernel
theorem dX3_fitsAlone_8 : decode cX3_fitsAlone 8 = .ok (.aload_n 0, 1) := by decide +kernel
theorem dX3_fitsAlone_9 : decode cX3_fitsAlone 9 = .ok (.getfield 24, 3) := by decide +kernel
theorem dX3_fitsAlone_12 : decode cX3_fitsAlone 12 = .ok (.invokestatic 85, 3) := by decide +kernel
theorem dX3_fitsAlone_15 : decode cX3_fitsAlone 15 = .ok (.ifCond .eq 19, 3) := by decide +kernel
theorem dX3_fitsAlone_18 : decode cX3_fitsAlone 18 = .ok (.iload_n 1, 1) := by decide +kernel
theorem dX3_fitsAlone_19 : decode cX3_fitsAlone 19 = .ok (.ifCond .ne 11, 3) := by decide +kernel
theorem dX3_fitsAlone_22 : decode cX3_fitsAlone 22 = .ok (.aload_n 0, 1) := by decide +kernel
theorem dX3_fitsAlone_23 : decode cX3_fitsAlone 23 = .ok (.getfield 9, 3) := by decide +kernel
theorem dX3_fitsAlone_26 : decode cX3_fitsAlone 26 = .ok (.iconst 3, 1) := by decide +kernel
theorem dX3_fitsAlone_27 : decode cX3_fitsAlone 27 = .ok (.if_icmp .ge 7, 3) := by decide +kernel
theorem dX3_fitsAlone_30 : decode cX3_fitsAlone 30 = .ok (.iconst 1, 1) := by decide +kernel
theorem dX3_fitsAlone_31 : decode cX3_fitsAlone 31 = .ok (.goto 4, 3) := by decide +kernel
theorem dX3_fitsAlone_34 : decode cX3_fitsAlone 34 = .ok (.iconst 0, 1) := by decide +kernel
theorem dX3_fitsAlone_35 : decode cX3_fitsAlone 35 = .ok (.ireturn, 1) := by decide +kernel
set_option maxRecDepth 20000 in
theorem ggX3_clashing_X3_clashes : GoodIn wsX3_clashing wsX3_clashes := goodIn_r _ [7, 8, 9, 10, 11, 12, 13, 14, 15, 16, 17, 18, 19] (by decide +kernel) (by decide +kernel)
set_option maxRecDepth 20000 in
theorem gX3_clashing_X3_clashes : GoodIn wsX3_clashing (wsV RX3 89 RX3 yX3_clashes wsX3_clashes) := goodIn_app (goodIn_of _ (by decide +kernel)) ggX3_clashing_X3_clashes
theorem dX3_clashing_0 : decode cX3_clashing 0 = .ok (.iconst 0, 1) := by decide +kernel
theorem dX3_clashing_1 : decode cX3_clashing 1 = .ok (.istore_n 2, 1) := by decide +kernel
theorem dX3_clashing_2 : decode cX3_clashing 2 = .ok (.iconst 0, 1) := by decide +kernel
theorem dX3_clashing_3 : decode cX3_clashing 3 = .ok (.istore_n 3, 1) := by decide +kernel
theorem dX3_clashing_4 : decode cX3_clashing 4 = .ok (.iload_n 3, 1) := by decide +kernel
theorem dX3_clashing_5 : decode cX3_clashing 5 = .ok (.aload_n 0, 1) := by decide +kernel
theorem dX3_clashing_6 : decode cX3_clashing 6 = .ok (.getfield 15, 3) := by decide +kernel
theorem dX3_clashing_9 : decode cX3_clashing 9 = .ok (.if_icmp .ge 39, 3) := by decide +kernel
theorem dX3_clashing_12 : decode cX3_clashing 12 = .ok (.aload_n 0, 1) := by decide +kernel
theorem dX3_clashing_13 : decode cX3_clashing 13 = .ok (.getfield 27, 3) := by decide +kernel
theorem dX3_clashing_16 : decode cX3_clashing 16 = .ok (.iload_n 3, 1) := by decide +kernel
theorem dX3_clashing_17 : decode cX3_clashing 17 = .ok (.iaload, 1) := by decide +kernel
theorem dX3_clashing_18 : decode cX3_clashing 18 = .ok (.iload_n 1, 1) := by decide +kernel
theorem dX3_clashing_19 : decode cX3_clashing 19 = .ok (.if_icmp .eq 23, 3) := by decide +kernel
theorem dX3_clashing_22 : decode cX3_clashing 22 = .ok (.aload_n 0, 1) := by decide +kernel
theorem dX3_clashing_23 : decode cX3_clashing 23 = .ok (.iload_n 1, 1) := by decide +kernel
theorem dX3_clashing_24 : decode cX3_clashing 24 = .ok (.aload_n 0, 1) := by decide +kernel
theorem dX3_clashing_25 : decode cX3_clashing 25 = .ok (.getfield 27, 3) := by decide +kernel
theorem dX3_clashing_28 : decode cX3_clashing 28 = .ok (.iload_n 3, 1) := by decide +kernel
theorem dX3_clashing_29 : decode cX3_clashing 29 = .ok (.iaload, 1) := by decide +kernel
theorem dX3_clashing_30 : decode cX3_clashing 30 = .ok (.invokevirtual 89, 3) := by decide +kernel
theorem dX3_clashing_33 : decode cX3_clashing 33 = .ok (.ifCond .eq 9, 3) := by decide +kernel
theorem dX3_clashing_36 : decode cX3_clashing 36 = .ok (.iload_n 2, 1) := by decide +kernel
theorem dX3_clashing_37 : decode cX3_clashing 37 = .ok (.iconst 1, 1) := by decide +kernel
theorem dX3_clashing_38 : decode cX3_clashing 38 = .ok (.iload_n 3, 1) := by decide +kernel
theorem dX3_clashing_39 : decode cX3_clashing 39 = .ok (.ishl, 1) := by decide +kernel
theorem dX3_clashing_40 : decode cX3_clashing 40 = .ok (.ior, 1) := by decide +kernel
theorem dX3_clashing_41 : decode cX3_clashing 41 = .ok (.istore_n 2, 1) := by decide +kernel
theorem dX3_clashing_42 : decode cX3_clashing 42 = .ok (.iinc 3 1, 3) := by decide +kernel
theorem dX3_clashing_45 : decode cX3_clashing 45 = .ok (.goto (-41), 3) := by decide +kernel
theorem dX3_clashing_48 : decode cX3_clashing 48 = .ok (.iload_n 2, 1) := by decide +kernel
theorem dX3_clashing_49 : decode cX3_clashing 49 = .ok (.ireturn, 1) := by decide +kernel
set_option maxRecDepth 20000 in
theorem ggX3_clashes_X8_within : GoodIn wsX3_clashes wsX8_within := goodIn_r _ [4] (by decide +kernel) (by decide +kernel)
set_option maxRecDepth 20000 in
theorem gX3_clashes_X8_within_n92 : GoodIn wsX3_clashes (wsX8_within) := ggX3_clashes_X8_within
theorem dX3_clashes_0 : decode cX3_clashes 0 = .ok (.iload_n 1, 1) := by decide +kernel
theorem dX3_clashes_1 : decode cX3_clashes 1 = .ok (.iload_n 2, 1) := by decide +kernel
theorem dX3_clashes_2 : decode cX3_clashes 2 = .ok (.invokestatic 92, 3) := by decide +kernel
theorem dX3_clashes_5 : decode cX3_clashes 5 = .ok (.ifCond .ne 11, 3) := by decide +kernel
theorem dX3_clashes_8 : decode cX3_clashes 8 = .ok (.iload_n 2, 1) := by decide +kernel
theorem dX3_clashes_9 : decode cX3_clashes 9 = .ok (.iload_n 1, 1) := by decide +kernel
theorem dX3_clashes_10 : decode cX3_clashes 10 = .ok (.invokestatic 92, 3) := by decide +kernel
theorem dX3_clashes_13 : decode cX3_clashes 13 = .ok (.ifCond .eq 7, 3) := by decide +kernel
theorem dX3_clashes_16 : decode cX3_clashes 16 = .ok (.iconst 1, 1) := by decide +kernel
theorem dX3_clashes_17 : decode cX3_clashes 17 = .ok (.goto 4, 3) := by decide +kernel
theorem dX3_clashes_20 : decode cX3_clashes 20 = .ok (.iconst 0, 1) := by decide +kernel
theorem dX3_clashes_21 : decode cX3_clashes 21 = .ok (.istore_n 3, 1) := by decide +kernel
theorem dX3_clashes_22 : decode cX3_clashes 22 = .ok (.iload_n 1, 1) := by decide +kernel
theorem dX3_clashes_23 : decode cX3_clashes 23 = .ok (.iload_n 2, 1) := by decide +kernel
theorem dX3_clashes_24 : decode cX3_clashes 24 = .ok (.iand, 1) := by decide +kernel
theorem dX3_clashes_25 : decode cX3_clashes 25 = .ok (.ifCond .ne 7, 3) := by decide +kernel
theorem dX3_clashes_28 : decode cX3_clashes 28 = .ok (.iconst 1, 1) := by decide +kernel
theorem dX3_clashes_29 : decode cX3_clashes 29 = .ok (.goto 4, 3) := by decide +kernel
theorem dX3_clashes_32 : decode cX3_clashes 32 = .ok (.iconst 0, 1) := by decide +kernel
theorem dX3_clashes_33 : decode cX3_clashes 33 = .ok (.istore 4, 2) := by decide +kernel
theorem dX3_clashes_35 : decode cX3_clashes 35 = .ok (.aload_n 0, 1) := by decide +kernel
theorem dX3_clashes_36 : decode cX3_clashes 36 = .ok (.getfield 9, 3) := by decide +kernel
theorem dX3_clashes_39 : decode cX3_clashes 39 = .ok (.tableswitch 49 1 4 #[29, 49, 31, 34], 29) := by decide +kernel
theorem dX3_clashes_68 : decode cX3_clashes 68 = .ok (.iload_n 3, 1) := by decide +kernel
theorem dX3_clashes_69 : decode cX3_clashes 69 = .ok (.ireturn, 1) := by decide +kernel
theorem dX3_clashes_70 : decode cX3_clashes 70 = .ok (.iload 4, 2) := by decide +kernel
theorem dX3_clashes_72 : decode cX3_clashes 72 = .ok (.ireturn, 1) := by decide +kernel
theorem dX3_clashes_73 : decode cX3_clashes 73 = .ok (.iload_n 3, 1) := by decide +kernel
theorem dX3_clashes_74 : decode cX3_clashes 74 = .ok (.ifCond .ne 8, 3) := by decide +kernel
theorem dX3_clashes_77 : decode cX3_clashes 77 = .ok (.iload 4, 2) := by decide +kernel
theorem dX3_clashes_79 : decode cX3_clashes 79 = .ok (.ifCond .eq 7, 3) := by decide +kernel
theorem dX3_clashes_82 : decode cX3_clashes 82 = .ok (.iconst 1, 1) := by decide +kernel
theorem dX3_clashes_83 : decode cX3_clashes 83 = .ok (.goto 4, 3) := by decide +kernel
theorem dX3_clashes_86 : decode cX3_clashes 86 = .ok (.iconst 0, 1) := by decide +kernel
theorem dX3_clashes_87 : decode cX3_clashes 87 = .ok (.ireturn, 1) := by decide +kernel
theorem dX3_clashes_88 : decode cX3_clashes 88 = .ok (.iconst 0, 1) := by decide +kernel
theorem dX3_clashes_89 : decode cX3_clashes 89 = .ok (.ireturn, 1) := by decide +kernel
set_option maxRecDepth 20000 in
theorem ggX3_nearTo_X8_within : GoodIn wsX3_nearTo wsX8_within := goodIn_r _ [6] (by decide +kernel) (by decide +kernel)
set_option maxRecDepth 20000 in
theorem gX3_nearTo_X8_within_n92 : GoodIn wsX3_nearTo (wsX8_within) := ggX3_nearTo_X8_within
theorem dX3_nearTo_0 : decode cX3_nearTo 0 = .ok (.iconst 0, 1) := by decide +kernel
theorem dX3_nearTo_1 : decode cX3_nearTo 1 = .ok (.istore_n 2, 1) := by decide +kernel
theorem dX3_nearTo_2 : decode cX3_nearTo 2 = .ok (.iconst 0, 1) := by decide +kernel
theorem dX3_nearTo_3 : decode cX3_nearTo 3 = .ok (.istore_n 3, 1) := by decide +kernel
theorem dX3_nearTo_4 : decode cX3_nearTo 4 = .ok (.aload_n 0, 1) := by decide +kernel
theorem dX3_nearTo_5 : decode cX3_nearTo 5 = .ok (.getfield 9, 3) := by decide +kernel
theorem dX3_nearTo_8 : decode cX3_nearTo 8 = .ok (.iconst 2, 1) := by decide +kernel
theorem dX3_nearTo_9 : decode cX3_nearTo 9 = .ok (.if_icmp .ne 49, 3) := by decide +kernel
theorem dX3_nearTo_12 : decode cX3_nearTo 12 = .ok (.iload_n 3, 1) := by decide +kernel
theorem dX3_nearTo_13 : decode cX3_nearTo 13 = .ok (.aload_n 0, 1) := by decide +kernel
theorem dX3_nearTo_14 : decode cX3_nearTo 14 = .ok (.getfield 15, 3) := by decide +kernel
theorem dX3_nearTo_17 : decode cX3_nearTo 17 = .ok (.if_icmp .ge 41, 3) := by decide +kernel
theorem dX3_nearTo_20 : decode cX3_nearTo 20 = .ok (.iload_n 1, 1) := by decide +kernel
theorem dX3_nearTo_21 : decode cX3_nearTo 21 = .ok (.aload_n 0, 1) := by decide +kernel
theorem dX3_nearTo_22 : decode cX3_nearTo 22 = .ok (.getfield 27, 3) := by decide +kernel
theorem dX3_nearTo_25 : decode cX3_nearTo 25 = .ok (.iload_n 3, 1) := by decide +kernel
theorem dX3_nearTo_26 : decode cX3_nearTo 26 = .ok (.iaload, 1) := by decide +kernel
theorem dX3_nearTo_27 : decode cX3_nearTo 27 = .ok (.invokestatic 92, 3) := by decide +kernel
theorem dX3_nearTo_30 : decode cX3_nearTo 30 = .ok (.ifCond .ne 16, 3) := by decide +kernel
theorem dX3_nearTo_33 : decode cX3_nearTo 33 = .ok (.aload_n 0, 1) := by decide +kernel
theorem dX3_nearTo_34 : decode cX3_nearTo 34 = .ok (.getfield 27, 3) := by decide +kernel
theorem dX3_nearTo_37 : decode cX3_nearTo 37 = .ok (.iload_n 3, 1) := by decide +kernel
theorem dX3_nearTo_38 : decode cX3_nearTo 38 = .ok (.iaload, 1) := by decide +kernel
theorem dX3_nearTo_39 : decode cX3_nearTo 39 = .ok (.iload_n 1, 1) := by decide +kernel
theorem dX3_nearTo_40 : decode cX3_nearTo 40 = .ok (.invokestatic 92, 3) := by decide +kernel
theorem dX3_nearTo_43 : decode cX3_nearTo 43 = .ok (.ifCond .eq 9, 3) := by decide +kernel
theorem dX3_nearTo_46 : decode cX3_nearTo 46 = .ok (.iload_n 2, 1) := by decide +kernel
theorem dX3_nearTo_47 : decode cX3_nearTo 47 = .ok (.iconst 1, 1) := by decide +kernel
theorem dX3_nearTo_48 : decode cX3_nearTo 48 = .ok (.iload_n 3, 1) := by decide +kernel
theorem dX3_nearTo_49 : decode cX3_nearTo 49 = .ok (.ishl, 1) := by decide +kernel
theorem dX3_nearTo_50 : decode cX3_nearTo 50 = .ok (.ior, 1) := by decide +kernel
theorem dX3_nearTo_51 : decode cX3_nearTo 51 = .ok (.istore_n 2, 1) := by decide +kernel
theorem dX3_nearTo_52 : decode cX3_nearTo 52 = .ok (.iinc 3 1, 3) := by decide +kernel
theorem dX3_nearTo_55 : decode cX3_nearTo 55 = .ok (.goto (-51), 3) := by decide +kernel
theorem dX3_nearTo_58 : decode cX3_nearTo 58 = .ok (.iload_n 2, 1) := by decide +kernel
theorem dX3_nearTo_59 : decode cX3_nearTo 59 = .ok (.ireturn, 1) := by decide +kernel
theorem dX4_init_0 : decode cX4_init 0 = .ok (.aload_n 0, 1) := by decide +kernel
theorem dX4_init_1 : decode cX4_init 1 = .ok (.invokespecial 3, 3) := by decide +kernel
theorem dX4_init_4 : decode cX4_init 4 = .ok (.aload_n 0, 1) := by decide +kernel
theorem dX4_init_5 : decode cX4_init 5 = .ok (.iconst 0, 1) := by decide +kernel
theorem dX4_init_6 : decode cX4_init 6 = .ok (.putfield 9, 3) := by decide +kernel
theorem dX4_init_9 : decode cX4_init 9 = .ok (.aload_n 0, 1) := by decide +kernel
theorem dX4_init_10 : decode cX4_init 10 = .ok (.iconst 0, 1) := by decide +kernel
theorem dX4_init_11 : decode cX4_init 11 = .ok (.putfield 15, 3) := by decide +kernel
theorem dX4_init_14 : decode cX4_init 14 = .ok (.aload_n 0, 1) := by decide +kernel
theorem dX4_init_15 : decode cX4_init 15 = .ok (.iconst 0, 1) := by decide +kernel
theorem dX4_init_16 : decode cX4_init 16 = .ok (.putfield 18, 3) := by decide +kernel
theorem dX4_init_19 : decode cX4_init 19 = .ok (.aload_n 0, 1) := by decide +kernel
theorem dX4_init_20 : decode cX4_init 20 = .ok (.iconst 0, 1) := by decide +kernel
theorem dX4_init_21 : decode cX4_init 21 = .ok (.putfield 21, 3) := by decide +kernel
theorem dX4_init_24 : decode cX4_init 24 = .ok (.aload_n 0, 1) := by decide +kernel
theorem dX4_init_25 : decode cX4_init 25 = .ok (.aload_n 1, 1) := by decide +kernel
theorem dX4_init_26 : decode cX4_init 26 = .ok (.putfield 24, 3) := by decide +kernel
theorem dX4_init_29 : decode cX4_init 29 = .ok (.return_, 1) := by decide +kernel
set_option maxRecDepth 20000 in
theorem ggX4_tell_J6_bitCount_0f7a4 : GoodIn wsX4_tell wsJ6_bitCount_0f7a4 := goodIn_r _ [11, 12, 13, 14] (by decide +kernel) (by decide +kernel)
set_option maxRecDepth 20000 in
theorem gX4_tell_J6_bitCount_0f7a4 : GoodIn wsX4_tell (va_wsS RX4 36 yJ6_bitCount_0f7a4 wsJ6_bitCount_0f7a4) := goodIn_app (goodIn_of _ (by decide +kernel)) ggX4_tell_J6_bitCount_0f7a4
set_option maxRecDepth 20000 in
theorem ggX4_tell_X4_noteWhole : GoodIn wsX4_tell wsX4_noteWhole := goodIn_r _ [19, 2, 3, 20, 21, 22, 23, 4, 24, 25, 26, 8, 9, 10, 11, 12, 13, 14, 47, 48, 49, 50, 51] (by decide +kernel) (by decide +kernel)
set_option maxRecDepth 20000 in
theorem gX4_tell_X4_noteWhole : GoodIn wsX4_tell (wsV RX4 42 RX4 yX4_noteWhole wsX4_noteWhole) := goodIn_app (goodIn_of _ (by decide +kernel)) ggX4_tell_X4_noteWhole
set_option maxRecDepth 20000 in
theorem ggX4_tell_X3_all : GoodIn wsX4_tell wsX3_all := goodIn_r _ [31, 32, 52, 53, 54, 55, 56, 57, 58, 59] (by decide +kernel) (by decide +kernel)
set_option maxRecDepth 20000 in
theorem gX4_tell_X3_all : GoodIn wsX4_tell (wsV RX4 46 RX3 yX3_all wsX3_all) := goodIn_app (goodIn_of _ (by decide +kernel)) ggX4_tell_X3_all
set_option maxRecDepth 20000 in
theorem ggX4_tell_X4_walk : GoodIn wsX4_tell wsX4_walk := goodIn_r _ [36, 1, 5, 37, 27, 28, 29, 30, 31, 32, 15, 16, 17, 18, 19, 2, 3, 20, 21, 22, 23, 4, 24, 25, 26, 8, 9, 10, 11, 12, 13, 14, 38, 39, 40, 41, 42, 43, 44, 45, 46, 33, 34, 35, 47, 48, 49, 50, 51, 52, 53, 54, 55, 56, 57, 58, 59] (by decide +kernel) (by decide +kernel)
set_option maxRecDepth 20000 in
theorem gX4_tell_X4_walk : GoodIn wsX4_tell (wsV RX4 50 RX4 yX4_walk wsX4_walk) := goodIn_app (goodIn_of _ (by decide +kernel)) ggX4_tell_X4_walk
theorem dX4_tell_0 : decode cX4_tell 0 = .ok (.aload_n 0, 1) := by decide +kernel
theorem dX4_tell_1 : decode cX4_tell 1 = .ok (.iconst 0, 1) := by decide +kernel
theorem dX4_tell_2 : decode cX4_tell 2 = .ok (.putfield 9, 3) := by decide +kernel
theorem dX4_tell_5 : decode cX4_tell 5 = .ok (.aload_n 0, 1) := by decide +kernel
theorem dX4_tell_6 : decode cX4_tell 6 = .ok (.iconst 0, 1) := by decide +kernel
theorem dX4_tell_7 : decode cX4_tell 7 = .ok (.putfield 15, 3) := by decide +kernel
theorem dX4_tell_10 : decode cX4_tell 10 = .ok (.aload_n 0, 1) := by decide +kernel
theorem dX4_tell_11 : decode cX4_tell 11 = .ok (.bipush 16, 2) := by decide +kernel
theorem dX4_tell_13 : decode cX4_tell 13 = .ok (.putfield 18, 3) := by decide +kernel
theorem dX4_tell_16 : decode cX4_tell 16 = .ok (.aload_n 0, 1) := by decide +kernel
theorem dX4_tell_17 : decode cX4_tell 17 = .ok (.iconst 0, 1) := by decide +kernel
theorem dX4_tell_18 : decode cX4_tell 18 = .ok (.putfield 21, 3) := by decide +kernel
theorem dX4_tell_21 : decode cX4_tell 21 = .ok (.aload_n 0, 1) := by decide +kernel
theorem dX4_tell_22 : decode cX4_tell 22 = .ok (.getfield 24, 3) := by decide +kernel
theorem dX4_tell_25 : decode cX4_tell 25 = .ok (.getfield 28, 3) := by decide +kernel
theorem dX4_tell_28 : decode cX4_tell 28 = .ok (.ifCond .ne 33, 3) := by decide +kernel
theorem dX4_tell_31 : decode cX4_tell 31 = .ok (.aload_n 0, 1) := by decide +kernel
theorem dX4_tell_32 : decode cX4_tell 32 = .ok (.iconst 1, 1) := by decide +kernel
theorem dX4_tell_33 : decode cX4_tell 33 = .ok (.aload_n 0, 1) := by decide +kernel
theorem dX4_tell_34 : decode cX4_tell 34 = .ok (.getfield 24, 3) := by decide +kernel
theorem dX4_tell_37 : decode cX4_tell 37 = .ok (.getfield 33, 3) := by decide +kernel
theorem dX4_tell_40 : decode cX4_tell 40 = .ok (.invokestatic 36, 3) := by decide +kernel
theorem dX4_tell_43 : decode cX4_tell 43 = .ok (.ishl, 1) := by decide +kernel
theorem dX4_tell_44 : decode cX4_tell 44 = .ok (.putfield 9, 3) := by decide +kernel
theorem dX4_tell_47 : decode cX4_tell 47 = .ok (.aload_n 0, 1) := by decide +kernel
theorem dX4_tell_48 : decode cX4_tell 48 = .ok (.aload_n 0, 1) := by decide +kernel
theorem dX4_tell_49 : decode cX4_tell 49 = .ok (.getfield 24, 3) := by decide +kernel
theorem dX4_tell_52 : decode cX4_tell 52 = .ok (.getfield 33, 3) := by decide +kernel
theorem dX4_tell_55 : decode cX4_tell 55 = .ok (.invokevirtual 42, 3) := by decide +kernel
theorem dX4_tell_58 : decode cX4_tell 58 = .ok (.goto 26, 3) := by decide +kernel
theorem dX4_tell_61 : decode cX4_tell 61 = .ok (.aload_n 0, 1) := by decide +kernel
theorem dX4_tell_62 : decode cX4_tell 62 = .ok (.iconst 0, 1) := by decide +kernel
theorem dX4_tell_63 : decode cX4_tell 63 = .ok (.iconst 0, 1) := by decide +kernel
theorem dX4_tell_64 : decode cX4_tell 64 = .ok (.aload_n 0, 1) := by decide +kernel
theorem dX4_tell_65 : decode cX4_tell 65 = .ok (.getfield 24, 3) := by decide +kernel
theorem dX4_tell_68 : decode cX4_tell 68 = .ok (.invokevirtual 46, 3) := by decide +kernel
theorem dX4_tell_71 : decode cX4_tell 71 = .ok (.aload_n 0, 1) := by decide +kernel
theorem dX4_tell_72 : decode cX4_tell 72 = .ok (.getfield 24, 3) := by decide +kernel
theorem dX4_tell_75 : decode cX4_tell 75 = .ok (.getfield 33, 3) := by decide +kernel
theorem dX4_tell_78 : decode cX4_tell 78 = .ok (.iconst (-1), 1) := by decide +kernel
theorem dX4_tell_79 : decode cX4_tell 79 = .ok (.ixor, 1) := by decide +kernel
theorem dX4_tell_80 : decode cX4_tell 80 = .ok (.iand, 1) := by decide +kernel
theorem dX4_tell_81 : decode cX4_tell 81 = .ok (.invokevirtual 50, 3) := by decide +kernel
theorem dX4_tell_84 : decode cX4_tell 84 = .ok (.return_, 1) := by decide +kernel
set_option maxRecDepth 20000 in
theorem ggX4_noteWhole_J6_bitCount_0f7a4 : GoodIn wsX4_noteWhole wsJ6_bitCount_0f7a4 := goodIn_r _ [14, 15, 16, 17] (by decide +kernel) (by decide +kernel)
set_option maxRecDepth 20000 in
theorem gX4_noteWhole_J6_bitCount_0f7a4 : GoodIn wsX4_noteWhole (va_wsS RX4 36 yJ6_bitCount_0f7a4 wsJ6_bitCount_0f7a4) := goodIn_app (goodIn_of _ (by decide +kernel)) ggX4_noteWhole_J6_bitCount_0f7a4
theorem dX4_noteWhole_0 : decode cX4_noteWhole 0 = .ok (.iload_n 1, 1) := by decide +kernel
theorem dX4_noteWhole_1 : decode cX4_noteWhole 1 = .ok (.invokestatic 36, 3) := by decide +kernel
theorem dX4_noteWhole_4 : decode cX4_noteWhole 4 = .ok (.istore_n 2, 1) := by decide +kernel
theorem dX4_noteWhole_5 : decode cX4_noteWhole 5 = .ok (.aload_n 0, 1) := by decide +kernel
theorem dX4_noteWhole_6 : decode cX4_noteWhole 6 = .ok (.dup, 1) := by decide +kernel
theorem dX4_noteWhole_7 : decode cX4_noteWhole 7 = .ok (.getfield 15, 3) := by decide +kernel
theorem dX4_noteWhole_10 : decode cX4_noteWhole 10 = .ok (.iconst 1, 1) := by decide +kernel
theorem dX4_noteWhole_11 : decode cX4_noteWhole 11 = .ok (.iadd, 1) := by decide +kernel
theorem dX4_noteWhole_12 : decode cX4_noteWhole 12 = .ok (.putfield 15, 3) := by decide +kernel
theorem dX4_noteWhole_15 : decode cX4_noteWhole 15 = .ok (.aload_n 0, 1) := by decide +kernel
theorem dX4_noteWhole_16 : decode cX4_noteWhole 16 = .ok (.aload_n 0, 1) := by decide +kernel
theorem dX4_noteWhole_17 : decode cX4_noteWhole 17 = .ok (.getfield 18, 3) := by decide +kernel
theorem dX4_noteWhole_20 : decode cX4_noteWhole 20 = .ok (.iload_n 2, 1) := by decide +kernel
theorem dX4_noteWhole_21 : decode cX4_noteWhole 21 = .ok (.invokestatic 54, 3) := by decide +kernel
theorem dX4_noteWhole_24 : decode cX4_noteWhole 24 = .ok (.putfield 18, 3) := by decide +kernel
theorem dX4_noteWhole_27 : decode cX4_noteWhole 27 = .ok (.aload_n 0, 1) := by decide +kernel
theorem dX4_noteWhole_28 : decode cX4_noteWhole 28 = .ok (.aload_n 0, 1) := by decide +kernel
theorem dX4_noteWhole_29 : decode cX4_noteWhole 29 = .ok (.getfield 21, 3) := by decide +kernel
theorem dX4_noteWhole_32 : decode cX4_noteWhole 32 = .ok (.iload_n 2, 1) := by decide +kernel
theorem dX4_noteWhole_33 : decode cX4_noteWhole 33 = .ok (.invokestatic 60, 3) := by decide +kernel
theorem dX4_noteWhole_36 : decode cX4_noteWhole 36 = .ok (.putfield 21, 3) := by decide +kernel
theorem dX4_noteWhole_39 : decode cX4_noteWhole 39 = .ok (.return_, 1) := by decide +kernel
set_option maxRecDepth 20000 in
theorem ggX4_walk_X3_all : GoodIn wsX4_walk wsX3_all := goodIn_r _ [8, 9, 49, 50, 51, 52, 53, 54, 55, 56] (by decide +kernel) (by decide +kernel)
set_option maxRecDepth 20000 in
theorem gX4_walk_X3_all : GoodIn wsX4_walk (wsV RX4 46 RX3 yX3_all wsX3_all) := goodIn_app (goodIn_of _ (by decide +kernel)) ggX4_walk_X3_all
set_option maxRecDepth 20000 in
theorem ggX4_walk_X4_noteWhole : GoodIn wsX4_walk wsX4_noteWhole := goodIn_r _ [14, 15, 16, 17, 18, 19, 20, 21, 22, 23, 24, 25, 26, 27, 28, 29, 30, 31, 44, 45, 46, 47, 48] (by decide +kernel) (by decide +kernel)
set_option maxRecDepth 20000 in
theorem gX4_walk_X4_noteWhole : GoodIn wsX4_walk (wsV RX4 42 RX4 yX4_noteWhole wsX4_noteWhole) := goodIn_app (goodIn_of _ (by decide +kernel)) ggX4_walk_X4_noteWhole
set_option maxRecDepth 20000 in
theorem ggX4_walk_X8_has : GoodIn wsX4_walk wsX8_has := goodIn_r _ [34] (by decide +kernel) (by decide +kernel)
set_option maxRecDepth 20000 in
theorem gX4_walk_X8_has_n66 : GoodIn wsX4_walk (wsX8_has) := ggX4_walk_X8_has
set_option maxRecDepth 20000 in
theorem ggX4_walk_X3_barredBy : GoodIn wsX4_walk wsX3_barredBy := goodIn_r _ [38, 39, 40, 9, 32, 33, 34, 49, 50, 51, 52, 53, 54, 55, 56] (by decide +kernel) (by decide +kernel)
set_option maxRecDepth 20000 in
theorem gX4_walk_X3_barredBy : GoodIn wsX4_walk (wsV RX4 70 RX3 yX3_barredBy wsX3_barredBy) := goodIn_app (goodIn_of _ (by decide +kernel)) ggX4_walk_X3_barredBy
set_option maxRecDepth 20000 in
theorem ggX4_walk_X4_walk : GoodIn wsX4_walk wsX4_walk := goodIn_r _ [0, 1, 2, 3, 4, 5, 6, 7, 8, 9, 10, 11, 12, 13, 14, 15, 16, 17, 18, 19, 20, 21, 22, 23, 24, 25, 26, 27, 28, 29, 30, 31, 32, 33, 34, 35, 36, 37, 38, 39, 40, 41, 42, 43, 44, 45, 46, 47, 48, 49, 50, 51, 52, 53, 54, 55, 56] (by decide +kernel) (by decide +kernel)
set_option maxRecDepth 20000 in
theorem gX4_walk_X4_walk : GoodIn wsX4_walk (wsV RX4 50 RX4 yX4_walk wsX4_walk) := goodIn_app (goodIn_of _ (by decide +kernel)) ggX4_walk_X4_walk
theorem dX4_walk_0 : decode cX4_walk 0 = .ok (.aload_n 0, 1) := by decide +kernel
theorem dX4_walk_1 : decode cX4_walk 1 = .ok (.dup, 1) := by decide +kernel
theorem dX4_walk_2 : decode cX4_walk 2 = .ok (.getfield 9, 3) := by decide +kernel
theorem dX4_walk_5 : decode cX4_walk 5 = .ok (.iconst 1, 1) := by decide +kernel
theorem dX4_walk_6 : decode cX4_walk 6 = .ok (.iadd, 1) := by decide +kernel
theorem dX4_walk_7 : decode cX4_walk 7 = .ok (.putfield 9, 3) := by decide +kernel
theorem dX4_walk_10 : decode cX4_walk 10 = .ok (.iload_n 2, 1) := by decide +kernel
theorem dX4_walk_11 : decode cX4_walk 11 = .ok (.iload_n 3, 1) := by decide +kernel
theorem dX4_walk_12 : decode cX4_walk 12 = .ok (.ior, 1) := by decide +kernel
theorem dX4_walk_13 : decode cX4_walk 13 = .ok (.aload_n 0, 1) := by decide +kernel
theorem dX4_walk_14 : decode cX4_walk 14 = .ok (.getfield 24, 3) := by decide +kernel
theorem dX4_walk_17 : decode cX4_walk 17 = .ok (.invokevirtual 46, 3) := by decide +kernel
theorem dX4_walk_20 : decode cX4_walk 20 = .ok (.if_icmp .ne 8, 3) := by decide +kernel
theorem dX4_walk_23 : decode cX4_walk 23 = .ok (.aload_n 0, 1) := by decide +kernel
theorem dX4_walk_24 : decode cX4_walk 24 = .ok (.iload_n 2, 1) := by decide +kernel
theorem dX4_walk_25 : decode cX4_walk 25 = .ok (.invokevirtual 42, 3) := by decide +kernel
theorem dX4_walk_28 : decode cX4_walk 28 = .ok (.iload_n 1, 1) := by decide +kernel
theorem dX4_walk_29 : decode cX4_walk 29 = .ok (.istore 4, 2) := by decide +kernel
theorem dX4_walk_31 : decode cX4_walk 31 = .ok (.iload 4, 2) := by decide +kernel
theorem dX4_walk_33 : decode cX4_walk 33 = .ok (.aload_n 0, 1) := by decide +kernel
theorem dX4_walk_34 : decode cX4_walk 34 = .ok (.getfield 24, 3) := by decide +kernel
theorem dX4_walk_37 : decode cX4_walk 37 = .ok (.getfield 63, 3) := by decide +kernel
theorem dX4_walk_40 : decode cX4_walk 40 = .ok (.if_icmp .ge 46, 3) := by decide +kernel
theorem dX4_walk_43 : decode cX4_walk 43 = .ok (.iload_n 2, 1) := by decide +kernel
theorem dX4_walk_44 : decode cX4_walk 44 = .ok (.iload_n 3, 1) := by decide +kernel
theorem dX4_walk_45 : decode cX4_walk 45 = .ok (.ior, 1) := by decide +kernel
theorem dX4_walk_46 : decode cX4_walk 46 = .ok (.iload 4, 2) := by decide +kernel
theorem dX4_walk_48 : decode cX4_walk 48 = .ok (.invokestatic 66, 3) := by decide +kernel
theorem dX4_walk_51 : decode cX4_walk 51 = .ok (.ifCond .ne 29, 3) := by decide +kernel
theorem dX4_walk_54 : decode cX4_walk 54 = .ok (.aload_n 0, 1) := by decide +kernel
theorem dX4_walk_55 : decode cX4_walk 55 = .ok (.iload 4, 2) := by decide +kernel
theorem dX4_walk_57 : decode cX4_walk 57 = .ok (.iconst 1, 1) := by decide +kernel
theorem dX4_walk_58 : decode cX4_walk 58 = .ok (.iadd, 1) := by decide +kernel
theorem dX4_walk_59 : decode cX4_walk 59 = .ok (.iload_n 2, 1) := by decide +kernel
theorem dX4_walk_60 : decode cX4_walk 60 = .ok (.iconst 1, 1) := by decide +kernel
theorem dX4_walk_61 : decode cX4_walk 61 = .ok (.iload 4, 2) := by decide +kernel
theorem dX4_walk_63 : decode cX4_walk 63 = .ok (.ishl, 1) := by decide +kernel
theorem dX4_walk_64 : decode cX4_walk 64 = .ok (.ior, 1) := by decide +kernel
theorem dX4_walk_65 : decode cX4_walk 65 = .ok (.iload_n 3, 1) := by decide +kernel
theorem dX4_walk_66 : decode cX4_walk 66 = .ok (.aload_n 0, 1) := by decide +kernel
theorem dX4_walk_67 : decode cX4_walk 67 = .ok (.getfield 24, 3) := by decide +kernel
theorem dX4_walk_70 : decode cX4_walk 70 = .ok (.iload 4, 2) := by decide +kernel
theorem dX4_walk_72 : decode cX4_walk 72 = .ok (.iload_n 2, 1) := by decide +kernel
theorem dX4_walk_73 : decode cX4_walk 73 = .ok (.invokevirtual 70, 3) := by decide +kernel
theorem dX4_walk_76 : decode cX4_walk 76 = .ok (.ior, 1) := by decide +kernel
theorem dX4_walk_77 : decode cX4_walk 77 = .ok (.invokevirtual 50, 3) := by decide +kernel
theorem dX4_walk_80 : decode cX4_walk 80 = .ok (.iinc 4 1, 3) := by decide +kernel
theorem dX4_walk_83 : decode cX4_walk 83 = .ok (.goto (-52), 3) := by decide +kernel
theorem dX4_walk_86 : decode cX4_walk 86 = .ok (.return_, 1) := by decide +kernel
