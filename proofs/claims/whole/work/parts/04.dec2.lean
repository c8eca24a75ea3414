theorem dX5_init_0 : decode cX5_init 0 = .ok (.aload_n 0, 1) := by decide +kernel
theorem dX5_init_1 : decode cX5_init 1 = .ok (.invokespecial 3, 3) := by decide +kernel
theorem dX5_init_4 : decode cX5_init 4 = .ok (.aload_n 0, 1) := by decide +kernel
theorem dX5_init_5 : decode cX5_init 5 = .ok (.sipush 1024, 3) := by decide +kernel
theorem dX5_init_8 : decode cX5_init 8 = .ok (.newarray .long, 2) := by decide +kernel
theorem dX5_init_10 : decode cX5_init 10 = .ok (.putfield 11, 3) := by decide +kernel
theorem dX5_init_13 : decode cX5_init 13 = .ok (.aload_n 0, 1) := by decide +kernel
theorem dX5_init_14 : decode cX5_init 14 = .ok (.sipush 1024, 3) := by decide +kernel
theorem dX5_init_17 : decode cX5_init 17 = .ok (.newarray .long, 2) := by decide +kernel
theorem dX5_init_19 : decode cX5_init 19 = .ok (.putfield 15, 3) := by decide +kernel
theorem dX5_init_22 : decode cX5_init 22 = .ok (.aload_n 0, 1) := by decide +kernel
theorem dX5_init_23 : decode cX5_init 23 = .ok (.sipush 256, 3) := by decide +kernel
theorem dX5_init_26 : decode cX5_init 26 = .ok (.newarray .int, 2) := by decide +kernel
theorem dX5_init_28 : decode cX5_init 28 = .ok (.putfield 18, 3) := by decide +kernel
theorem dX5_init_31 : decode cX5_init 31 = .ok (.aload_n 0, 1) := by decide +kernel
theorem dX5_init_32 : decode cX5_init 32 = .ok (.iconst 0, 1) := by decide +kernel
theorem dX5_init_33 : decode cX5_init 33 = .ok (.putfield 22, 3) := by decide +kernel
theorem dX5_init_36 : decode cX5_init 36 = .ok (.aload_n 0, 1) := by decide +kernel
theorem dX5_init_37 : decode cX5_init 37 = .ok (.iconst 0, 1) := by decide +kernel
theorem dX5_init_38 : decode cX5_init 38 = .ok (.putfield 26, 3) := by decide +kernel
theorem dX5_init_41 : decode cX5_init 41 = .ok (.aload_n 0, 1) := by decide +kernel
theorem dX5_init_42 : decode cX5_init 42 = .ok (.aload_n 1, 1) := by decide +kernel
theorem dX5_init_43 : decode cX5_init 43 = .ok (.putfield 29, 3) := by decide +kernel
theorem dX5_init_46 : decode cX5_init 46 = .ok (.return_, 1) := by decide +kernel
set_option maxRecDepth 20000 in
theorem ggX5_begin_X3_barredByAll : GoodIn wsX5_begin wsX3_barredByAll := goodIn_r _ [8, 9, 10, 11, 12, 13, 7, 14, 15, 16, 17, 18, 19, 20, 21, 22, 23, 30, 31, 32, 33, 34, 35, 36, 37] (by decide +kernel) (by decide +kernel)
set_option maxRecDepth 20000 in
theorem gX5_begin_X3_barredByAll : GoodIn wsX5_begin (wsV RX5 33 RX3 yX3_barredByAll wsX3_barredByAll) := goodIn_app (goodIn_of _ (by decide +kernel)) ggX5_begin_X3_barredByAll
theorem dX5_begin_0 : decode cX5_begin 0 = .ok (.aload_n 0, 1) := by decide +kernel
theorem dX5_begin_1 : decode cX5_begin 1 = .ok (.iload_n 1, 1) := by decide +kernel
theorem dX5_begin_2 : decode cX5_begin 2 = .ok (.putfield 22, 3) := by decide +kernel
theorem dX5_begin_5 : decode cX5_begin 5 = .ok (.aload_n 0, 1) := by decide +kernel
theorem dX5_begin_6 : decode cX5_begin 6 = .ok (.aload_n 0, 1) := by decide +kernel
theorem dX5_begin_7 : decode cX5_begin 7 = .ok (.getfield 29, 3) := by decide +kernel
theorem dX5_begin_10 : decode cX5_begin 10 = .ok (.aload_n 0, 1) := by decide +kernel
theorem dX5_begin_11 : decode cX5_begin 11 = .ok (.getfield 22, 3) := by decide +kernel
theorem dX5_begin_14 : decode cX5_begin 14 = .ok (.invokevirtual 33, 3) := by decide +kernel
theorem dX5_begin_17 : decode cX5_begin 17 = .ok (.putfield 26, 3) := by decide +kernel
theorem dX5_begin_20 : decode cX5_begin 20 = .ok (.aload_n 0, 1) := by decide +kernel
theorem dX5_begin_21 : decode cX5_begin 21 = .ok (.getfield 26, 3) := by decide +kernel
theorem dX5_begin_24 : decode cX5_begin 24 = .ok (.iconst (-1), 1) := by decide +kernel
theorem dX5_begin_25 : decode cX5_begin 25 = .ok (.if_icmp .eq 7, 3) := by decide +kernel
theorem dX5_begin_28 : decode cX5_begin 28 = .ok (.iconst 1, 1) := by decide +kernel
theorem dX5_begin_29 : decode cX5_begin 29 = .ok (.goto 4, 3) := by decide +kernel
theorem dX5_begin_32 : decode cX5_begin 32 = .ok (.iconst 0, 1) := by decide +kernel
theorem dX5_begin_33 : decode cX5_begin 33 = .ok (.ireturn, 1) := by decide +kernel
set_option maxRecDepth 20000 in
theorem ggX5_comers_X3_all : GoodIn wsX5_comers wsX3_all := goodIn_r _ [8, 9, 16, 17, 18, 19, 20, 21, 22, 23] (by decide +kernel) (by decide +kernel)
set_option maxRecDepth 20000 in
theorem gX5_comers_X3_all : GoodIn wsX5_comers (wsV RX5 39 RX3 yX3_all wsX3_all) := goodIn_app (goodIn_of _ (by decide +kernel)) ggX5_comers_X3_all
theorem dX5_comers_0 : decode cX5_comers 0 = .ok (.aload_n 0, 1) := by decide +kernel
theorem dX5_comers_1 : decode cX5_comers 1 = .ok (.getfield 29, 3) := by decide +kernel
theorem dX5_comers_4 : decode cX5_comers 4 = .ok (.invokevirtual 39, 3) := by decide +kernel
theorem dX5_comers_7 : decode cX5_comers 7 = .ok (.aload_n 0, 1) := by decide +kernel
theorem dX5_comers_8 : decode cX5_comers 8 = .ok (.getfield 22, 3) := by decide +kernel
theorem dX5_comers_11 : decode cX5_comers 11 = .ok (.aload_n 0, 1) := by decide +kernel
theorem dX5_comers_12 : decode cX5_comers 12 = .ok (.getfield 26, 3) := by decide +kernel
theorem dX5_comers_15 : decode cX5_comers 15 = .ok (.ior, 1) := by decide +kernel
theorem dX5_comers_16 : decode cX5_comers 16 = .ok (.iconst (-1), 1) := by decide +kernel
theorem dX5_comers_17 : decode cX5_comers 17 = .ok (.ixor, 1) := by decide +kernel
theorem dX5_comers_18 : decode cX5_comers 18 = .ok (.iand, 1) := by decide +kernel
theorem dX5_comers_19 : decode cX5_comers 19 = .ok (.ireturn, 1) := by decide +kernel
set_option maxRecDepth 20000 in
theorem ggX5_winningBox_X5_comers : GoodIn wsX5_winningBox wsX5_comers := goodIn_r _ [11, 1, 5, 6, 12, 13, 14, 15, 16, 17, 48, 49, 50, 51, 52, 53, 54, 55, 56, 57, 58, 59, 60, 61] (by decide +kernel) (by decide +kernel)
set_option maxRecDepth 20000 in
theorem gX5_winningBox_X5_comers : GoodIn wsX5_winningBox (wsV RX5 43 RX5 yX5_comers wsX5_comers) := goodIn_app (goodIn_of _ (by decide +kernel)) ggX5_winningBox_X5_comers
set_option maxRecDepth 20000 in
theorem ggX5_winningBox_J6_bitCount_0f7a4 : GoodIn wsX5_winningBox wsJ6_bitCount_0f7a4 := goodIn_r _ [21, 22, 23, 24] (by decide +kernel) (by decide +kernel)
set_option maxRecDepth 20000 in
theorem gX5_winningBox_J6_bitCount_0f7a4 : GoodIn wsX5_winningBox (va_wsS RX5 49 yJ6_bitCount_0f7a4 wsJ6_bitCount_0f7a4) := goodIn_app (goodIn_of _ (by decide +kernel)) ggX5_winningBox_J6_bitCount_0f7a4
set_option maxRecDepth 20000 in
theorem ggX5_winningBox_J6_numberOfTrailingZeros_0f7a4 : GoodIn wsX5_winningBox wsJ6_numberOfTrailingZeros_0f7a4 := goodIn_r _ [27, 28] (by decide +kernel) (by decide +kernel)
set_option maxRecDepth 20000 in
theorem gX5_winningBox_J6_numberOfTrailingZeros_0f7a4 : GoodIn wsX5_winningBox (va_wsS RX5 54 yJ6_numberOfTrailingZeros_0f7a4 wsJ6_numberOfTrailingZeros_0f7a4) := goodIn_app (goodIn_of _ (by decide +kernel)) ggX5_winningBox_J6_numberOfTrailingZeros_0f7a4
set_option maxRecDepth 20000 in
theorem ggX5_winningBox_J7_fill_d0a16 : GoodIn wsX5_winningBox wsJ7_fill_d0a16 := goodIn_r _ [32] (by decide +kernel) (by decide +kernel)
set_option maxRecDepth 20000 in
theorem gX5_winningBox_J7_fill_d0a16 : GoodIn wsX5_winningBox (va_wsS RX5 57 yJ7_fill_d0a16 wsJ7_fill_d0a16) := goodIn_app (goodIn_of _ (by decide +kernel)) ggX5_winningBox_J7_fill_d0a16
set_option maxRecDepth 20000 in
theorem ggX5_winningBox_X8_has : GoodIn wsX5_winningBox wsX8_has := goodIn_r _ [35] (by decide +kernel) (by decide +kernel)
set_option maxRecDepth 20000 in
theorem gX5_winningBox_X8_has_n66 : GoodIn wsX5_winningBox (wsX8_has) := ggX5_winningBox_X8_has
set_option maxRecDepth 20000 in
theorem ggX5_winningBox_X3_barredBy : GoodIn wsX5_winningBox wsX3_barredBy := goodIn_r _ [39, 40, 41, 17, 33, 34, 35, 54, 55, 56, 57, 58, 59, 60, 61] (by decide +kernel) (by decide +kernel)
set_option maxRecDepth 20000 in
theorem gX5_winningBox_X3_barredBy : GoodIn wsX5_winningBox (wsV RX5 70 RX3 yX3_barredBy wsX3_barredBy) := goodIn_app (goodIn_of _ (by decide +kernel)) ggX5_winningBox_X3_barredBy
set_option maxRecDepth 20000 in
theorem ggX5_winningBox_X5_wins : GoodIn wsX5_winningBox wsX5_wins := goodIn_r _ [45, 3, 46, 1, 4, 47, 33, 34, 35, 36, 37, 38, 15, 39, 40, 41, 17, 42, 43, 44, 10, 48, 49, 50, 51, 52, 53, 54, 55, 56, 57, 58, 59, 60, 61] (by decide +kernel) (by decide +kernel)
set_option maxRecDepth 20000 in
theorem gX5_winningBox_X5_wins : GoodIn wsX5_winningBox (wsV RX5 74 RX5 yX5_wins wsX5_wins) := goodIn_app (goodIn_of _ (by decide +kernel)) ggX5_winningBox_X5_wins
theorem dX5_winningBox_0 : decode cX5_winningBox 0 = .ok (.aload_n 0, 1) := by decide +kernel
theorem dX5_winningBox_1 : decode cX5_winningBox 1 = .ok (.invokevirtual 43, 3) := by decide +kernel
theorem dX5_winningBox_4 : decode cX5_winningBox 4 = .ok (.istore_n 1, 1) := by decide +kernel
theorem dX5_winningBox_5 : decode cX5_winningBox 5 = .ok (.aload_n 0, 1) := by decide +kernel
theorem dX5_winningBox_6 : decode cX5_winningBox 6 = .ok (.getfield 29, 3) := by decide +kernel
theorem dX5_winningBox_9 : decode cX5_winningBox 9 = .ok (.getfield 46, 3) := by decide +kernel
theorem dX5_winningBox_12 : decode cX5_winningBox 12 = .ok (.ifCond .ne 21, 3) := by decide +kernel
theorem dX5_winningBox_15 : decode cX5_winningBox 15 = .ok (.iload_n 1, 1) := by decide +kernel
theorem dX5_winningBox_16 : decode cX5_winningBox 16 = .ok (.invokestatic 49, 3) := by decide +kernel
theorem dX5_winningBox_19 : decode cX5_winningBox 19 = .ok (.iconst 2, 1) := by decide +kernel
theorem dX5_winningBox_20 : decode cX5_winningBox 20 = .ok (.irem, 1) := by decide +kernel
theorem dX5_winningBox_21 : decode cX5_winningBox 21 = .ok (.ifCond .ne 7, 3) := by decide +kernel
theorem dX5_winningBox_24 : decode cX5_winningBox 24 = .ok (.iconst (-1), 1) := by decide +kernel
theorem dX5_winningBox_25 : decode cX5_winningBox 25 = .ok (.goto 7, 3) := by decide +kernel
theorem dX5_winningBox_28 : decode cX5_winningBox 28 = .ok (.iload_n 1, 1) := by decide +kernel
theorem dX5_winningBox_29 : decode cX5_winningBox 29 = .ok (.invokestatic 54, 3) := by decide +kernel
theorem dX5_winningBox_32 : decode cX5_winningBox 32 = .ok (.ireturn, 1) := by decide +kernel
theorem dX5_winningBox_33 : decode cX5_winningBox 33 = .ok (.aload_n 0, 1) := by decide +kernel
theorem dX5_winningBox_34 : decode cX5_winningBox 34 = .ok (.getfield 11, 3) := by decide +kernel
theorem dX5_winningBox_37 : decode cX5_winningBox 37 = .ok (.lconst 0, 1) := by decide +kernel
theorem dX5_winningBox_38 : decode cX5_winningBox 38 = .ok (.invokestatic 57, 3) := by decide +kernel
theorem dX5_winningBox_41 : decode cX5_winningBox 41 = .ok (.iconst 0, 1) := by decide +kernel
theorem dX5_winningBox_42 : decode cX5_winningBox 42 = .ok (.istore_n 2, 1) := by decide +kernel
theorem dX5_winningBox_43 : decode cX5_winningBox 43 = .ok (.iload_n 2, 1) := by decide +kernel
theorem dX5_winningBox_44 : decode cX5_winningBox 44 = .ok (.aload_n 0, 1) := by decide +kernel
theorem dX5_winningBox_45 : decode cX5_winningBox 45 = .ok (.getfield 29, 3) := by decide +kernel
theorem dX5_winningBox_48 : decode cX5_winningBox 48 = .ok (.getfield 63, 3) := by decide +kernel
theorem dX5_winningBox_51 : decode cX5_winningBox 51 = .ok (.if_icmp .ge 52, 3) := by decide +kernel
theorem dX5_winningBox_54 : decode cX5_winningBox 54 = .ok (.iload_n 1, 1) := by decide +kernel
theorem dX5_winningBox_55 : decode cX5_winningBox 55 = .ok (.iload_n 2, 1) := by decide +kernel
theorem dX5_winningBox_56 : decode cX5_winningBox 56 = .ok (.invokestatic 66, 3) := by decide +kernel
theorem dX5_winningBox_59 : decode cX5_winningBox 59 = .ok (.ifCond .eq 38, 3) := by decide +kernel
theorem dX5_winningBox_62 : decode cX5_winningBox 62 = .ok (.aload_n 0, 1) := by decide +kernel
theorem dX5_winningBox_63 : decode cX5_winningBox 63 = .ok (.aload_n 0, 1) := by decide +kernel
theorem dX5_winningBox_64 : decode cX5_winningBox 64 = .ok (.getfield 22, 3) := by decide +kernel
theorem dX5_winningBox_67 : decode cX5_winningBox 67 = .ok (.iconst 1, 1) := by decide +kernel
theorem dX5_winningBox_68 : decode cX5_winningBox 68 = .ok (.iload_n 2, 1) := by decide +kernel
theorem dX5_winningBox_69 : decode cX5_winningBox 69 = .ok (.ishl, 1) := by decide +kernel
theorem dX5_winningBox_70 : decode cX5_winningBox 70 = .ok (.ior, 1) := by decide +kernel
theorem dX5_winningBox_71 : decode cX5_winningBox 71 = .ok (.aload_n 0, 1) := by decide +kernel
theorem dX5_winningBox_72 : decode cX5_winningBox 72 = .ok (.getfield 26, 3) := by decide +kernel
theorem dX5_winningBox_75 : decode cX5_winningBox 75 = .ok (.aload_n 0, 1) := by decide +kernel
theorem dX5_winningBox_76 : decode cX5_winningBox 76 = .ok (.getfield 29, 3) := by decide +kernel
theorem dX5_winningBox_79 : decode cX5_winningBox 79 = .ok (.iload_n 2, 1) := by decide +kernel
theorem dX5_winningBox_80 : decode cX5_winningBox 80 = .ok (.aload_n 0, 1) := by decide +kernel
theorem dX5_winningBox_81 : decode cX5_winningBox 81 = .ok (.getfield 22, 3) := by decide +kernel
theorem dX5_winningBox_84 : decode cX5_winningBox 84 = .ok (.invokevirtual 70, 3) := by decide +kernel
theorem dX5_winningBox_87 : decode cX5_winningBox 87 = .ok (.ior, 1) := by decide +kernel
theorem dX5_winningBox_88 : decode cX5_winningBox 88 = .ok (.iconst 1, 1) := by decide +kernel
theorem dX5_winningBox_89 : decode cX5_winningBox 89 = .ok (.invokevirtual 74, 3) := by decide +kernel
theorem dX5_winningBox_92 : decode cX5_winningBox 92 = .ok (.ifCond .ne 5, 3) := by decide +kernel
theorem dX5_winningBox_95 : decode cX5_winningBox 95 = .ok (.iload_n 2, 1) := by decide +kernel
theorem dX5_winningBox_96 : decode cX5_winningBox 96 = .ok (.ireturn, 1) := by decide +kernel
theorem dX5_winningBox_97 : decode cX5_winningBox 97 = .ok (.iinc 2 1, 3) := by decide +kernel
theorem dX5_winningBox_100 : decode cX5_winningBox 100 = .ok (.goto (-57), 3) := by decide +kernel
theorem dX5_winningBox_103 : decode cX5_winningBox 103 = .ok (.iconst (-1), 1) := by decide +kernel
theorem dX5_winningBox_104 : decode cX5_winningBox 104 = .ok (.ireturn, 1) := by decide +kernel
set_option maxRecDepth 20000 in
theorem ggX5_wins_X8_has : GoodIn wsX5_wins wsX8_has := goodIn_r _ [8] (by decide +kernel) (by decide +kernel)
set_option maxRecDepth 20000 in
theorem gX5_wins_X8_has_n66 : GoodIn wsX5_wins (wsX8_has) := ggX5_wins_X8_has
set_option maxRecDepth 20000 in
theorem ggX5_wins_X3_barredBy : GoodIn wsX5_wins wsX3_barredBy := goodIn_r _ [13, 14, 15, 16, 6, 7, 8, 27, 28, 29, 30, 31, 32, 33, 34] (by decide +kernel) (by decide +kernel)
set_option maxRecDepth 20000 in
theorem gX5_wins_X3_barredBy : GoodIn wsX5_wins (wsV RX5 70 RX3 yX3_barredBy wsX3_barredBy) := goodIn_app (goodIn_of _ (by decide +kernel)) ggX5_wins_X3_barredBy
set_option maxRecDepth 20000 in
theorem ggX5_wins_X5_wins : GoodIn wsX5_wins wsX5_wins := goodIn_r _ [0, 1, 2, 3, 4, 5, 6, 7, 8, 9, 10, 11, 12, 13, 14, 15, 16, 17, 18, 19, 20, 21, 22, 23, 24, 25, 26, 27, 28, 29, 30, 31, 32, 33, 34] (by decide +kernel) (by decide +kernel)
set_option maxRecDepth 20000 in
theorem gX5_wins_X5_wins : GoodIn wsX5_wins (wsV RX5 74 RX5 yX5_wins wsX5_wins) := goodIn_app (goodIn_of _ (by decide +kernel)) ggX5_wins_X5_wins
theorem dX5_wins_0 : decode cX5_wins 0 = .ok (.iload_n 1, 1) := by decide +kernel
theorem dX5_wins_1 : decode cX5_wins 1 = .ok (.bipush 6, 2) := by decide +kernel
theorem dX5_wins_3 : decode cX5_wins 3 = .ok (.iushr, 1) := by decide +kernel
theorem dX5_wins_4 : decode cX5_wins 4 = .ok (.sipush 1023, 3) := by decide +kernel
theorem dX5_wins_7 : decode cX5_wins 7 = .ok (.iand, 1) := by decide +kernel
theorem dX5_wins_8 : decode cX5_wins 8 = .ok (.istore 4, 2) := by decide +kernel
theorem dX5_wins_10 : decode cX5_wins 10 = .ok (.lconst 1, 1) := by decide +kernel
theorem dX5_wins_11 : decode cX5_wins 11 = .ok (.iload_n 1, 1) := by decide +kernel
theorem dX5_wins_12 : decode cX5_wins 12 = .ok (.bipush 63, 2) := by decide +kernel
theorem dX5_wins_14 : decode cX5_wins 14 = .ok (.iand, 1) := by decide +kernel
theorem dX5_wins_15 : decode cX5_wins 15 = .ok (.lshl, 1) := by decide +kernel
theorem dX5_wins_16 : decode cX5_wins 16 = .ok (.lstore 5, 2) := by decide +kernel
theorem dX5_wins_18 : decode cX5_wins 18 = .ok (.aload_n 0, 1) := by decide +kernel
theorem dX5_wins_19 : decode cX5_wins 19 = .ok (.getfield 11, 3) := by decide +kernel
theorem dX5_wins_22 : decode cX5_wins 22 = .ok (.iload 4, 2) := by decide +kernel
theorem dX5_wins_24 : decode cX5_wins 24 = .ok (.laload, 1) := by decide +kernel
theorem dX5_wins_25 : decode cX5_wins 25 = .ok (.lload 5, 2) := by decide +kernel
theorem dX5_wins_27 : decode cX5_wins 27 = .ok (.land, 1) := by decide +kernel
theorem dX5_wins_28 : decode cX5_wins 28 = .ok (.lconst 0, 1) := by decide +kernel
theorem dX5_wins_29 : decode cX5_wins 29 = .ok (.lcmp, 1) := by decide +kernel
theorem dX5_wins_30 : decode cX5_wins 30 = .ok (.ifCond .eq 24, 3) := by decide +kernel
theorem dX5_wins_33 : decode cX5_wins 33 = .ok (.aload_n 0, 1) := by decide +kernel
theorem dX5_wins_34 : decode cX5_wins 34 = .ok (.getfield 15, 3) := by decide +kernel
theorem dX5_wins_37 : decode cX5_wins 37 = .ok (.iload 4, 2) := by decide +kernel
theorem dX5_wins_39 : decode cX5_wins 39 = .ok (.laload, 1) := by decide +kernel
theorem dX5_wins_40 : decode cX5_wins 40 = .ok (.lload 5, 2) := by decide +kernel
theorem dX5_wins_42 : decode cX5_wins 42 = .ok (.land, 1) := by decide +kernel
theorem dX5_wins_43 : decode cX5_wins 43 = .ok (.lconst 0, 1) := by decide +kernel
theorem dX5_wins_44 : decode cX5_wins 44 = .ok (.lcmp, 1) := by decide +kernel
theorem dX5_wins_45 : decode cX5_wins 45 = .ok (.ifCond .eq 7, 3) := by decide +kernel
theorem dX5_wins_48 : decode cX5_wins 48 = .ok (.iconst 1, 1) := by decide +kernel
theorem dX5_wins_49 : decode cX5_wins 49 = .ok (.goto 4, 3) := by decide +kernel
theorem dX5_wins_52 : decode cX5_wins 52 = .ok (.iconst 0, 1) := by decide +kernel
theorem dX5_wins_53 : decode cX5_wins 53 = .ok (.ireturn, 1) := by decide +kernel
theorem dX5_wins_54 : decode cX5_wins 54 = .ok (.iconst 0, 1) := by decide +kernel
theorem dX5_wins_55 : decode cX5_wins 55 = .ok (.istore 7, 2) := by decide +kernel
theorem dX5_wins_57 : decode cX5_wins 57 = .ok (.iconst 0, 1) := by decide +kernel
theorem dX5_wins_58 : decode cX5_wins 58 = .ok (.istore 8, 2) := by decide +kernel
theorem dX5_wins_60 : decode cX5_wins 60 = .ok (.iload 8, 2) := by decide +kernel
theorem dX5_wins_62 : decode cX5_wins 62 = .ok (.aload_n 0, 1) := by decide +kernel
theorem dX5_wins_63 : decode cX5_wins 63 = .ok (.getfield 29, 3) := by decide +kernel
theorem dX5_wins_66 : decode cX5_wins 66 = .ok (.getfield 63, 3) := by decide +kernel
theorem dX5_wins_69 : decode cX5_wins 69 = .ok (.if_icmp .ge 66, 3) := by decide +kernel
theorem dX5_wins_72 : decode cX5_wins 72 = .ok (.iload 7, 2) := by decide +kernel
theorem dX5_wins_74 : decode cX5_wins 74 = .ok (.ifCond .ne 61, 3) := by decide +kernel
theorem dX5_wins_77 : decode cX5_wins 77 = .ok (.iload_n 3, 1) := by decide +kernel
theorem dX5_wins_78 : decode cX5_wins 78 = .ok (.bipush 16, 2) := by decide +kernel
theorem dX5_wins_80 : decode cX5_wins 80 = .ok (.if_icmp .gt 55, 3) := by decide +kernel
theorem dX5_wins_83 : decode cX5_wins 83 = .ok (.iload_n 1, 1) := by decide +kernel
theorem dX5_wins_84 : decode cX5_wins 84 = .ok (.iload_n 2, 1) := by decide +kernel
theorem dX5_wins_85 : decode cX5_wins 85 = .ok (.ior, 1) := by decide +kernel
theorem dX5_wins_86 : decode cX5_wins 86 = .ok (.iload 8, 2) := by decide +kernel
theorem dX5_wins_88 : decode cX5_wins 88 = .ok (.invokestatic 66, 3) := by decide +kernel
theorem dX5_wins_91 : decode cX5_wins 91 = .ok (.ifCond .ne 38, 3) := by decide +kernel
theorem dX5_wins_94 : decode cX5_wins 94 = .ok (.aload_n 0, 1) := by decide +kernel
theorem dX5_wins_95 : decode cX5_wins 95 = .ok (.iload_n 1, 1) := by decide +kernel
theorem dX5_wins_96 : decode cX5_wins 96 = .ok (.iconst 1, 1) := by decide +kernel
theorem dX5_wins_97 : decode cX5_wins 97 = .ok (.iload 8, 2) := by decide +kernel
theorem dX5_wins_99 : decode cX5_wins 99 = .ok (.ishl, 1) := by decide +kernel
theorem dX5_wins_100 : decode cX5_wins 100 = .ok (.ior, 1) := by decide +kernel
theorem dX5_wins_101 : decode cX5_wins 101 = .ok (.iload_n 2, 1) := by decide +kernel
theorem dX5_wins_102 : decode cX5_wins 102 = .ok (.aload_n 0, 1) := by decide +kernel
theorem dX5_wins_103 : decode cX5_wins 103 = .ok (.getfield 29, 3) := by decide +kernel
theorem dX5_wins_106 : decode cX5_wins 106 = .ok (.iload 8, 2) := by decide +kernel
theorem dX5_wins_108 : decode cX5_wins 108 = .ok (.iload_n 1, 1) := by decide +kernel
theorem dX5_wins_109 : decode cX5_wins 109 = .ok (.invokevirtual 70, 3) := by decide +kernel
theorem dX5_wins_112 : decode cX5_wins 112 = .ok (.ior, 1) := by decide +kernel
theorem dX5_wins_113 : decode cX5_wins 113 = .ok (.iload_n 3, 1) := by decide +kernel
theorem dX5_wins_114 : decode cX5_wins 114 = .ok (.iconst 1, 1) := by decide +kernel
theorem dX5_wins_115 : decode cX5_wins 115 = .ok (.iadd, 1) := by decide +kernel
theorem dX5_wins_116 : decode cX5_wins 116 = .ok (.invokevirtual 74, 3) := by decide +kernel
theorem dX5_wins_119 : decode cX5_wins 119 = .ok (.ifCond .ne 7, 3) := by decide +kernel
theorem dX5_wins_122 : decode cX5_wins 122 = .ok (.iconst 1, 1) := by decide +kernel
theorem dX5_wins_123 : decode cX5_wins 123 = .ok (.goto 4, 3) := by decide +kernel
theorem dX5_wins_126 : decode cX5_wins 126 = .ok (.iconst 0, 1) := by decide +kernel
theorem dX5_wins_127 : decode cX5_wins 127 = .ok (.istore 7, 2) := by decide +kernel
theorem dX5_wins_129 : decode cX5_wins 129 = .ok (.iinc 8 1, 3) := by decide +kernel
theorem dX5_wins_132 : decode cX5_wins 132 = .ok (.goto (-72), 3) := by decide +kernel
theorem dX5_wins_135 : decode cX5_wins 135 = .ok (.aload_n 0, 1) := by decide +kernel
theorem dX5_wins_136 : decode cX5_wins 136 = .ok (.getfield 11, 3) := by decide +kernel
theorem dX5_wins_139 : decode cX5_wins 139 = .ok (.iload 4, 2) := by decide +kernel
theorem dX5_wins_141 : decode cX5_wins 141 = .ok (.dup2, 1) := by decide +kernel
theorem dX5_wins_142 : decode cX5_wins 142 = .ok (.laload, 1) := by decide +kernel
theorem dX5_wins_143 : decode cX5_wins 143 = .ok (.lload 5, 2) := by decide +kernel
theorem dX5_wins_145 : decode cX5_wins 145 = .ok (.lor, 1) := by decide +kernel
theorem dX5_wins_146 : decode cX5_wins 146 = .ok (.lastore, 1) := by decide +kernel
theorem dX5_wins_147 : decode cX5_wins 147 = .ok (.aload_n 0, 1) := by decide +kernel
theorem dX5_wins_148 : decode cX5_wins 148 = .ok (.getfield 15, 3) := by decide +kernel
theorem dX5_wins_151 : decode cX5_wins 151 = .ok (.iload 4, 2) := by decide +kernel
theorem dX5_wins_153 : decode cX5_wins 153 = .ok (.iload 7, 2) := by decide +kernel
theorem dX5_wins_155 : decode cX5_wins 155 = .ok (.ifCond .eq 16, 3) := by decide +kernel
theorem dX5_wins_158 : decode cX5_wins 158 = .ok (.aload_n 0, 1) := by decide +kernel
theorem dX5_wins_159 : decode cX5_wins 159 = .ok (.getfield 15, 3) := by decide +kernel
theorem dX5_wins_162 : decode cX5_wins 162 = .ok (.iload 4, 2) := by decide +kernel
theorem dX5_wins_164 : decode cX5_wins 164 = .ok (.laload, 1) := by decide +kernel
theorem dX5_wins_165 : decode cX5_wins 165 = .ok (.lload 5, 2) := by decide +kernel
theorem dX5_wins_167 : decode cX5_wins 167 = .ok (.lor, 1) := by decide +kernel
theorem dX5_wins_168 : decode cX5_wins 168 = .ok (.goto 17, 3) := by decide +kernel
theorem dX5_wins_171 : decode cX5_wins 171 = .ok (.aload_n 0, 1) := by decide +kernel
theorem dX5_wins_172 : decode cX5_wins 172 = .ok (.getfield 15, 3) := by decide +kernel
theorem dX5_wins_175 : decode cX5_wins 175 = .ok (.iload 4, 2) := by decide +kernel
theorem dX5_wins_177 : decode cX5_wins 177 = .ok (.laload, 1) := by decide +kernel
theorem dX5_wins_178 : decode cX5_wins 178 = .ok (.lload 5, 2) := by decide +kernel
theorem dX5_wins_180 : decode cX5_wins 180 = .ok (.ldc2_w 78, 3) := by decide +kernel
theorem dX5_wins_183 : decode cX5_wins 183 = .ok (.lxor, 1) := by decide +kernel
theorem dX5_wins_184 : decode cX5_wins 184 = .ok (.land, 1) := by decide +kernel
theorem dX5_wins_185 : decode cX5_wins 185 = .ok (.lastore, 1) := by decide +kernel
theorem dX5_wins_186 : decode cX5_wins 186 = .ok (.iload 7, 2) := by decide +kernel
theorem dX5_wins_188 : decode cX5_wins 188 = .ok (.ireturn, 1) := by decide +kernel
set_option maxRecDepth 20000 in
theorem ggX5_winningParts_J7_fill_53178 : GoodIn wsX5_winningParts wsJ7_fill_53178 := goodIn_r _ [7] (by decide +kernel) (by decide +kernel)
set_option maxRecDepth 20000 in
theorem gX5_winningParts_J7_fill_53178 : GoodIn wsX5_winningParts (va_wsS RX5 80 yJ7_fill_53178 wsJ7_fill_53178) := goodIn_app (goodIn_of _ (by decide +kernel)) ggX5_winningParts_J7_fill_53178
set_option maxRecDepth 20000 in
theorem ggX5_winningParts_X5_partsFrom : GoodIn wsX5_winningParts wsX5_partsFrom := goodIn_r _ [12, 2, 1, 13, 14, 15, 16, 17, 18, 11, 19, 20, 21, 22, 23, 3, 24, 25, 26, 27, 28, 29, 30, 31, 32, 33, 34, 35, 36, 37, 38, 8, 9, 10, 39, 40, 41, 42, 43, 44, 45, 46, 47, 48, 49, 50, 51, 52] (by decide +kernel) (by decide +kernel)
set_option maxRecDepth 20000 in
theorem gX5_winningParts_X5_partsFrom : GoodIn wsX5_winningParts (wsV RX5 83 RX5 yX5_partsFrom wsX5_partsFrom) := goodIn_app (goodIn_of _ (by decide +kernel)) ggX5_winningParts_X5_partsFrom
theorem dX5_winningParts_0 : decode cX5_winningParts 0 = .ok (.aload_n 0, 1) := by decide +kernel
theorem dX5_winningParts_1 : decode cX5_winningParts 1 = .ok (.getfield 18, 3) := by decide +kernel
theorem dX5_winningParts_4 : decode cX5_winningParts 4 = .ok (.iconst (-1), 1) := by decide +kernel
theorem dX5_winningParts_5 : decode cX5_winningParts 5 = .ok (.invokestatic 80, 3) := by decide +kernel
theorem dX5_winningParts_8 : decode cX5_winningParts 8 = .ok (.aload_n 0, 1) := by decide +kernel
theorem dX5_winningParts_9 : decode cX5_winningParts 9 = .ok (.aload_n 0, 1) := by decide +kernel
theorem dX5_winningParts_10 : decode cX5_winningParts 10 = .ok (.getfield 22, 3) := by decide +kernel
theorem dX5_winningParts_13 : decode cX5_winningParts 13 = .ok (.aload_n 0, 1) := by decide +kernel
theorem dX5_winningParts_14 : decode cX5_winningParts 14 = .ok (.getfield 26, 3) := by decide +kernel
theorem dX5_winningParts_17 : decode cX5_winningParts 17 = .ok (.iconst 0, 1) := by decide +kernel
theorem dX5_winningParts_18 : decode cX5_winningParts 18 = .ok (.invokevirtual 83, 3) := by decide +kernel
theorem dX5_winningParts_21 : decode cX5_winningParts 21 = .ok (.ireturn, 1) := by decide +kernel
set_option maxRecDepth 20000 in
theorem ggX5_partsFrom_X5_placeOf : GoodIn wsX5_partsFrom wsX5_placeOf := goodIn_r _ [10, 3, 4, 2, 11, 12, 13, 9, 14, 1, 15, 16, 17, 18, 19, 20, 21, 22, 23, 24, 34, 35, 36, 37, 38, 39, 40, 41, 42, 43, 44, 45, 46, 47] (by decide +kernel) (by decide +kernel)
set_option maxRecDepth 20000 in
theorem gX5_partsFrom_X5_placeOf : GoodIn wsX5_partsFrom (wsV RX5 87 RX5 yX5_placeOf wsX5_placeOf) := goodIn_app (goodIn_of _ (by decide +kernel)) ggX5_partsFrom_X5_placeOf
set_option maxRecDepth 20000 in
theorem ggX5_partsFrom_X8_has : GoodIn wsX5_partsFrom wsX8_has := goodIn_r _ [24] (by decide +kernel) (by decide +kernel)
set_option maxRecDepth 20000 in
theorem gX5_partsFrom_X8_has_n66 : GoodIn wsX5_partsFrom (wsX8_has) := ggX5_partsFrom_X8_has
set_option maxRecDepth 20000 in
theorem ggX5_partsFrom_X3_barredBy : GoodIn wsX5_partsFrom wsX3_barredBy := goodIn_r _ [28, 29, 30, 21, 22, 23, 24, 40, 41, 42, 43, 44, 45, 46, 47] (by decide +kernel) (by decide +kernel)
set_option maxRecDepth 20000 in
theorem gX5_partsFrom_X3_barredBy : GoodIn wsX5_partsFrom (wsV RX5 70 RX3 yX3_barredBy wsX3_barredBy) := goodIn_app (goodIn_of _ (by decide +kernel)) ggX5_partsFrom_X3_barredBy
set_option maxRecDepth 20000 in
theorem ggX5_partsFrom_X5_partsFrom : GoodIn wsX5_partsFrom wsX5_partsFrom := goodIn_r _ [0, 1, 2, 3, 4, 5, 6, 7, 8, 9, 10, 11, 12, 13, 14, 15, 16, 17, 18, 19, 20, 21, 22, 23, 24, 25, 26, 27, 28, 29, 30, 31, 32, 33, 34, 35, 36, 37, 38, 39, 40, 41, 42, 43, 44, 45, 46, 47] (by decide +kernel) (by decide +kernel)
set_option maxRecDepth 20000 in
theorem gX5_partsFrom_X5_partsFrom : GoodIn wsX5_partsFrom (wsV RX5 83 RX5 yX5_partsFrom wsX5_partsFrom) := goodIn_app (goodIn_of _ (by decide +kernel)) ggX5_partsFrom_X5_partsFrom
theorem dX5_partsFrom_0 : decode cX5_partsFrom 0 = .ok (.aload_n 0, 1) := by decide +kernel
theorem dX5_partsFrom_1 : decode cX5_partsFrom 1 = .ok (.iload_n 1, 1) := by decide +kernel
theorem dX5_partsFrom_2 : decode cX5_partsFrom 2 = .ok (.aload_n 0, 1) := by decide +kernel
theorem dX5_partsFrom_3 : decode cX5_partsFrom 3 = .ok (.getfield 22, 3) := by decide +kernel
theorem dX5_partsFrom_6 : decode cX5_partsFrom 6 = .ok (.iconst (-1), 1) := by decide +kernel
theorem dX5_partsFrom_7 : decode cX5_partsFrom 7 = .ok (.ixor, 1) := by decide +kernel
theorem dX5_partsFrom_8 : decode cX5_partsFrom 8 = .ok (.iand, 1) := by decide +kernel
theorem dX5_partsFrom_9 : decode cX5_partsFrom 9 = .ok (.invokevirtual 87, 3) := by decide +kernel
theorem dX5_partsFrom_12 : decode cX5_partsFrom 12 = .ok (.istore 4, 2) := by decide +kernel
theorem dX5_partsFrom_14 : decode cX5_partsFrom 14 = .ok (.aload_n 0, 1) := by decide +kernel
theorem dX5_partsFrom_15 : decode cX5_partsFrom 15 = .ok (.getfield 18, 3) := by decide +kernel
theorem dX5_partsFrom_18 : decode cX5_partsFrom 18 = .ok (.iload 4, 2) := by decide +kernel
theorem dX5_partsFrom_20 : decode cX5_partsFrom 20 = .ok (.iaload, 1) := by decide +kernel
theorem dX5_partsFrom_21 : decode cX5_partsFrom 21 = .ok (.iconst (-1), 1) := by decide +kernel
theorem dX5_partsFrom_22 : decode cX5_partsFrom 22 = .ok (.if_icmp .eq 11, 3) := by decide +kernel
theorem dX5_partsFrom_25 : decode cX5_partsFrom 25 = .ok (.aload_n 0, 1) := by decide +kernel
theorem dX5_partsFrom_26 : decode cX5_partsFrom 26 = .ok (.getfield 18, 3) := by decide +kernel
theorem dX5_partsFrom_29 : decode cX5_partsFrom 29 = .ok (.iload 4, 2) := by decide +kernel
theorem dX5_partsFrom_31 : decode cX5_partsFrom 31 = .ok (.iaload, 1) := by decide +kernel
theorem dX5_partsFrom_32 : decode cX5_partsFrom 32 = .ok (.ireturn, 1) := by decide +kernel
theorem dX5_partsFrom_33 : decode cX5_partsFrom 33 = .ok (.iconst 0, 1) := by decide +kernel
theorem dX5_partsFrom_34 : decode cX5_partsFrom 34 = .ok (.istore 5, 2) := by decide +kernel
theorem dX5_partsFrom_36 : decode cX5_partsFrom 36 = .ok (.iconst 0, 1) := by decide +kernel
theorem dX5_partsFrom_37 : decode cX5_partsFrom 37 = .ok (.istore 6, 2) := by decide +kernel
theorem dX5_partsFrom_39 : decode cX5_partsFrom 39 = .ok (.iconst 0, 1) := by decide +kernel
theorem dX5_partsFrom_40 : decode cX5_partsFrom 40 = .ok (.istore 7, 2) := by decide +kernel
theorem dX5_partsFrom_42 : decode cX5_partsFrom 42 = .ok (.iload 7, 2) := by decide +kernel
theorem dX5_partsFrom_44 : decode cX5_partsFrom 44 = .ok (.aload_n 0, 1) := by decide +kernel
theorem dX5_partsFrom_45 : decode cX5_partsFrom 45 = .ok (.getfield 29, 3) := by decide +kernel
theorem dX5_partsFrom_48 : decode cX5_partsFrom 48 = .ok (.getfield 63, 3) := by decide +kernel
theorem dX5_partsFrom_51 : decode cX5_partsFrom 51 = .ok (.if_icmp .ge 62, 3) := by decide +kernel
theorem dX5_partsFrom_54 : decode cX5_partsFrom 54 = .ok (.iload_n 3, 1) := by decide +kernel
theorem dX5_partsFrom_55 : decode cX5_partsFrom 55 = .ok (.bipush 8, 2) := by decide +kernel
theorem dX5_partsFrom_57 : decode cX5_partsFrom 57 = .ok (.if_icmp .gt 56, 3) := by decide +kernel
theorem dX5_partsFrom_60 : decode cX5_partsFrom 60 = .ok (.iload_n 1, 1) := by decide +kernel
theorem dX5_partsFrom_61 : decode cX5_partsFrom 61 = .ok (.iload_n 2, 1) := by decide +kernel
theorem dX5_partsFrom_62 : decode cX5_partsFrom 62 = .ok (.ior, 1) := by decide +kernel
theorem dX5_partsFrom_63 : decode cX5_partsFrom 63 = .ok (.iload 7, 2) := by decide +kernel
theorem dX5_partsFrom_65 : decode cX5_partsFrom 65 = .ok (.invokestatic 66, 3) := by decide +kernel
theorem dX5_partsFrom_68 : decode cX5_partsFrom 68 = .ok (.ifCond .ne 39, 3) := by decide +kernel
theorem dX5_partsFrom_71 : decode cX5_partsFrom 71 = .ok (.iload 5, 2) := by decide +kernel
theorem dX5_partsFrom_73 : decode cX5_partsFrom 73 = .ok (.ldc 90, 2) := by decide +kernel
theorem dX5_partsFrom_75 : decode cX5_partsFrom 75 = .ok (.aload_n 0, 1) := by decide +kernel
theorem dX5_partsFrom_76 : decode cX5_partsFrom 76 = .ok (.iload_n 1, 1) := by decide +kernel
theorem dX5_partsFrom_77 : decode cX5_partsFrom 77 = .ok (.iconst 1, 1) := by decide +kernel
theorem dX5_partsFrom_78 : decode cX5_partsFrom 78 = .ok (.iload 7, 2) := by decide +kernel
theorem dX5_partsFrom_80 : decode cX5_partsFrom 80 = .ok (.ishl, 1) := by decide +kernel
theorem dX5_partsFrom_81 : decode cX5_partsFrom 81 = .ok (.ior, 1) := by decide +kernel
theorem dX5_partsFrom_82 : decode cX5_partsFrom 82 = .ok (.iload_n 2, 1) := by decide +kernel
theorem dX5_partsFrom_83 : decode cX5_partsFrom 83 = .ok (.aload_n 0, 1) := by decide +kernel
theorem dX5_partsFrom_84 : decode cX5_partsFrom 84 = .ok (.getfield 29, 3) := by decide +kernel
theorem dX5_partsFrom_87 : decode cX5_partsFrom 87 = .ok (.iload 7, 2) := by decide +kernel
theorem dX5_partsFrom_89 : decode cX5_partsFrom 89 = .ok (.iload_n 1, 1) := by decide +kernel
theorem dX5_partsFrom_90 : decode cX5_partsFrom 90 = .ok (.invokevirtual 70, 3) := by decide +kernel
theorem dX5_partsFrom_93 : decode cX5_partsFrom 93 = .ok (.ior, 1) := by decide +kernel
theorem dX5_partsFrom_94 : decode cX5_partsFrom 94 = .ok (.iload_n 3, 1) := by decide +kernel
theorem dX5_partsFrom_95 : decode cX5_partsFrom 95 = .ok (.iconst 1, 1) := by decide +kernel
theorem dX5_partsFrom_96 : decode cX5_partsFrom 96 = .ok (.iadd, 1) := by decide +kernel
theorem dX5_partsFrom_97 : decode cX5_partsFrom 97 = .ok (.invokevirtual 83, 3) := by decide +kernel
theorem dX5_partsFrom_100 : decode cX5_partsFrom 100 = .ok (.isub, 1) := by decide +kernel
theorem dX5_partsFrom_101 : decode cX5_partsFrom 101 = .ok (.iadd, 1) := by decide +kernel
theorem dX5_partsFrom_102 : decode cX5_partsFrom 102 = .ok (.istore 5, 2) := by decide +kernel
theorem dX5_partsFrom_104 : decode cX5_partsFrom 104 = .ok (.iinc 6 1, 3) := by decide +kernel
theorem dX5_partsFrom_107 : decode cX5_partsFrom 107 = .ok (.iinc 7 1, 3) := by decide +kernel
theorem dX5_partsFrom_110 : decode cX5_partsFrom 110 = .ok (.goto (-68), 3) := by decide +kernel
theorem dX5_partsFrom_113 : decode cX5_partsFrom 113 = .ok (.aload_n 0, 1) := by decide +kernel
theorem dX5_partsFrom_114 : decode cX5_partsFrom 114 = .ok (.getfield 18, 3) := by decide +kernel
theorem dX5_partsFrom_117 : decode cX5_partsFrom 117 = .ok (.iload 4, 2) := by decide +kernel
theorem dX5_partsFrom_119 : decode cX5_partsFrom 119 = .ok (.iload 6, 2) := by decide +kernel
theorem dX5_partsFrom_121 : decode cX5_partsFrom 121 = .ok (.ifCond .ne 7, 3) := by decide +kernel
theorem dX5_partsFrom_124 : decode cX5_partsFrom 124 = .ok (.iconst 0, 1) := by decide +kernel
theorem dX5_partsFrom_125 : decode cX5_partsFrom 125 = .ok (.goto 8, 3) := by decide +kernel
theorem dX5_partsFrom_128 : decode cX5_partsFrom 128 = .ok (.iload 5, 2) := by decide +kernel
theorem dX5_partsFrom_130 : decode cX5_partsFrom 130 = .ok (.iload 6, 2) := by decide +kernel
theorem dX5_partsFrom_132 : decode cX5_partsFrom 132 = .ok (.idiv, 1) := by decide +kernel
theorem dX5_partsFrom_133 : decode cX5_partsFrom 133 = .ok (.iastore, 1) := by decide +kernel
theorem dX5_partsFrom_134 : decode cX5_partsFrom 134 = .ok (.aload_n 0, 1) := by decide +kernel
theorem dX5_partsFrom_135 : decode cX5_partsFrom 135 = .ok (.getfield 18, 3) := by decide +kernel
theorem dX5_partsFrom_138 : decode cX5_partsFrom 138 = .ok (.iload 4, 2) := by decide +kernel
theorem dX5_partsFrom_140 : decode cX5_partsFrom 140 = .ok (.iaload, 1) := by decide +kernel
theorem dX5_partsFrom_141 : decode cX5_partsFrom 141 = .ok (.ireturn, 1) := by decide +kernel
set_option maxRecDepth 20000 in
theorem ggX5_placeOf_X5_comers : GoodIn wsX5_placeOf wsX5_comers := goodIn_r _ [8, 1, 9, 10, 11, 12, 13, 14, 15, 16, 20, 21, 22, 23, 24, 25, 26, 27, 28, 29, 30, 31, 32, 33] (by decide +kernel) (by decide +kernel)
set_option maxRecDepth 20000 in
theorem gX5_placeOf_X5_comers : GoodIn wsX5_placeOf (wsV RX5 43 RX5 yX5_comers wsX5_comers) := goodIn_app (goodIn_of _ (by decide +kernel)) ggX5_placeOf_X5_comers
set_option maxRecDepth 20000 in
theorem ggX5_placeOf_X8_has : GoodIn wsX5_placeOf wsX8_has := goodIn_r _ [19] (by decide +kernel) (by decide +kernel)
set_option maxRecDepth 20000 in
theorem gX5_placeOf_X8_has_n66 : GoodIn wsX5_placeOf (wsX8_has) := ggX5_placeOf_X8_has
theorem dX5_placeOf_0 : decode cX5_placeOf 0 = .ok (.aload_n 0, 1) := by decide +kernel
theorem dX5_placeOf_1 : decode cX5_placeOf 1 = .ok (.invokevirtual 43, 3) := by decide +kernel
theorem dX5_placeOf_4 : decode cX5_placeOf 4 = .ok (.istore_n 2, 1) := by decide +kernel
theorem dX5_placeOf_5 : decode cX5_placeOf 5 = .ok (.iconst 0, 1) := by decide +kernel
theorem dX5_placeOf_6 : decode cX5_placeOf 6 = .ok (.istore_n 3, 1) := by decide +kernel
theorem dX5_placeOf_7 : decode cX5_placeOf 7 = .ok (.iconst 1, 1) := by decide +kernel
theorem dX5_placeOf_8 : decode cX5_placeOf 8 = .ok (.istore 4, 2) := by decide +kernel
theorem dX5_placeOf_10 : decode cX5_placeOf 10 = .ok (.iconst 0, 1) := by decide +kernel
theorem dX5_placeOf_11 : decode cX5_placeOf 11 = .ok (.istore 5, 2) := by decide +kernel
theorem dX5_placeOf_13 : decode cX5_placeOf 13 = .ok (.iload 5, 2) := by decide +kernel
theorem dX5_placeOf_15 : decode cX5_placeOf 15 = .ok (.aload_n 0, 1) := by decide +kernel
theorem dX5_placeOf_16 : decode cX5_placeOf 16 = .ok (.getfield 29, 3) := by decide +kernel
theorem dX5_placeOf_19 : decode cX5_placeOf 19 = .ok (.getfield 63, 3) := by decide +kernel
theorem dX5_placeOf_22 : decode cX5_placeOf 22 = .ok (.if_icmp .ge 42, 3) := by decide +kernel
theorem dX5_placeOf_25 : decode cX5_placeOf 25 = .ok (.iload_n 2, 1) := by decide +kernel
theorem dX5_placeOf_26 : decode cX5_placeOf 26 = .ok (.iload 5, 2) := by decide +kernel
theorem dX5_placeOf_28 : decode cX5_placeOf 28 = .ok (.invokestatic 66, 3) := by decide +kernel
theorem dX5_placeOf_31 : decode cX5_placeOf 31 = .ok (.ifCond .eq 27, 3) := by decide +kernel
theorem dX5_placeOf_34 : decode cX5_placeOf 34 = .ok (.iload_n 3, 1) := by decide +kernel
theorem dX5_placeOf_35 : decode cX5_placeOf 35 = .ok (.iload_n 1, 1) := by decide +kernel
theorem dX5_placeOf_36 : decode cX5_placeOf 36 = .ok (.iload 5, 2) := by decide +kernel
theorem dX5_placeOf_38 : decode cX5_placeOf 38 = .ok (.invokestatic 66, 3) := by decide +kernel
theorem dX5_placeOf_41 : decode cX5_placeOf 41 = .ok (.ifCond .eq 8, 3) := by decide +kernel
theorem dX5_placeOf_44 : decode cX5_placeOf 44 = .ok (.iload 4, 2) := by decide +kernel
theorem dX5_placeOf_46 : decode cX5_placeOf 46 = .ok (.goto 4, 3) := by decide +kernel
theorem dX5_placeOf_49 : decode cX5_placeOf 49 = .ok (.iconst 0, 1) := by decide +kernel
theorem dX5_placeOf_50 : decode cX5_placeOf 50 = .ok (.ior, 1) := by decide +kernel
theorem dX5_placeOf_51 : decode cX5_placeOf 51 = .ok (.istore_n 3, 1) := by decide +kernel
theorem dX5_placeOf_52 : decode cX5_placeOf 52 = .ok (.iload 4, 2) := by decide +kernel
theorem dX5_placeOf_54 : decode cX5_placeOf 54 = .ok (.iconst 1, 1) := by decide +kernel
theorem dX5_placeOf_55 : decode cX5_placeOf 55 = .ok (.ishl, 1) := by decide +kernel
theorem dX5_placeOf_56 : decode cX5_placeOf 56 = .ok (.istore 4, 2) := by decide +kernel
theorem dX5_placeOf_58 : decode cX5_placeOf 58 = .ok (.iinc 5 1, 3) := by decide +kernel
theorem dX5_placeOf_61 : decode cX5_placeOf 61 = .ok (.goto (-48), 3) := by decide +kernel
theorem dX5_placeOf_64 : decode cX5_placeOf 64 = .ok (.iload_n 3, 1) := by decide +kernel
theorem dX5_placeOf_65 : decode cX5_placeOf 65 = .ok (.aload_n 0, 1) := by decide +kernel
theorem dX5_placeOf_66 : decode cX5_placeOf 66 = .ok (.getfield 18, 3) := by decide +kernel
theorem dX5_placeOf_69 : decode cX5_placeOf 69 = .ok (.arraylength, 1) := by decide +kernel
theorem dX5_placeOf_70 : decode cX5_placeOf 70 = .ok (.iconst 1, 1) := by decide +kernel
theorem dX5_placeOf_71 : decode cX5_placeOf 71 = .ok (.isub, 1) := by decide +kernel
theorem dX5_placeOf_72 : decode cX5_placeOf 72 = .ok (.iand, 1) := by decide +kernel
theorem dX5_placeOf_73 : decode cX5_placeOf 73 = .ok (.ireturn, 1) := by decide +kernel
theorem dX6_init_0 : decode cX6_init 0 = .ok (.aload_n 0, 1) := by decide +kernel
theorem dX6_init_1 : decode cX6_init 1 = .ok (.invokespecial 3, 3) := by decide +kernel
theorem dX6_init_4 : decode cX6_init 4 = .ok (.aload_n 0, 1) := by decide +kernel
theorem dX6_init_5 : decode cX6_init 5 = .ok (.iconst 4, 1) := by decide +kernel
theorem dX6_init_6 : decode cX6_init 6 = .ok (.putfield 9, 3) := by decide +kernel
theorem dX6_init_9 : decode cX6_init 9 = .ok (.aload_n 0, 1) := by decide +kernel
theorem dX6_init_10 : decode cX6_init 10 = .ok (.iconst 0, 1) := by decide +kernel
theorem dX6_init_11 : decode cX6_init 11 = .ok (.putfield 15, 3) := by decide +kernel
theorem dX6_init_14 : decode cX6_init 14 = .ok (.aload_n 0, 1) := by decide +kernel
theorem dX6_init_15 : decode cX6_init 15 = .ok (.bipush 8, 2) := by decide +kernel
theorem dX6_init_17 : decode cX6_init 17 = .ok (.putfield 18, 3) := by decide +kernel
theorem dX6_init_20 : decode cX6_init 20 = .ok (.aload_n 0, 1) := by decide +kernel
theorem dX6_init_21 : decode cX6_init 21 = .ok (.iconst 0, 1) := by decide +kernel
theorem dX6_init_22 : decode cX6_init 22 = .ok (.putfield 21, 3) := by decide +kernel
theorem dX6_init_25 : decode cX6_init 25 = .ok (.aload_n 0, 1) := by decide +kernel
theorem dX6_init_26 : decode cX6_init 26 = .ok (.bipush 16, 2) := by decide +kernel
theorem dX6_init_28 : decode cX6_init 28 = .ok (.newarray .int, 2) := by decide +kernel
theorem dX6_init_30 : decode cX6_init 30 = .ok (.putfield 24, 3) := by decide +kernel
theorem dX6_init_33 : decode cX6_init 33 = .ok (.aload_n 0, 1) := by decide +kernel
theorem dX6_init_34 : decode cX6_init 34 = .ok (.bipush 16, 2) := by decide +kernel
theorem dX6_init_36 : decode cX6_init 36 = .ok (.newarray .int, 2) := by decide +kernel
theorem dX6_init_38 : decode cX6_init 38 = .ok (.putfield 28, 3) := by decide +kernel
theorem dX6_init_41 : decode cX6_init 41 = .ok (.return_, 1) := by decide +kernel
theorem dX6_begin_0 : decode cX6_begin 0 = .ok (.aload_n 0, 1) := by decide +kernel
theorem dX6_begin_1 : decode cX6_begin 1 = .ok (.iload_n 1, 1) := by decide +kernel
theorem dX6_begin_2 : decode cX6_begin 2 = .ok (.putfield 9, 3) := by decide +kernel
theorem dX6_begin_5 : decode cX6_begin 5 = .ok (.aload_n 0, 1) := by decide +kernel
theorem dX6_begin_6 : decode cX6_begin 6 = .ok (.iconst 0, 1) := by decide +kernel
theorem dX6_begin_7 : decode cX6_begin 7 = .ok (.putfield 15, 3) := by decide +kernel
theorem dX6_begin_10 : decode cX6_begin 10 = .ok (.aload_n 0, 1) := by decide +kernel
theorem dX6_begin_11 : decode cX6_begin 11 = .ok (.bipush 8, 2) := by decide +kernel
theorem dX6_begin_13 : decode cX6_begin 13 = .ok (.putfield 18, 3) := by decide +kernel
theorem dX6_begin_16 : decode cX6_begin 16 = .ok (.aload_n 0, 1) := by decide +kernel
theorem dX6_begin_17 : decode cX6_begin 17 = .ok (.iconst 0, 1) := by decide +kernel
theorem dX6_begin_18 : decode cX6_begin 18 = .ok (.putfield 21, 3) := by decide +kernel
theorem dX6_begin_21 : decode cX6_begin 21 = .ok (.return_, 1) := by decide +kernel
theorem dX6_holds_0 : decode cX6_holds 0 = .ok (.iconst 0, 1) := by decide +kernel
theorem dX6_holds_1 : decode cX6_holds 1 = .ok (.istore_n 2, 1) := by decide +kernel
theorem dX6_holds_2 : decode cX6_holds 2 = .ok (.iload_n 2, 1) := by decide +kernel
theorem dX6_holds_3 : decode cX6_holds 3 = .ok (.aload_n 0, 1) := by decide +kernel
theorem dX6_holds_4 : decode cX6_holds 4 = .ok (.getfield 21, 3) := by decide +kernel
theorem dX6_holds_7 : decode cX6_holds 7 = .ok (.if_icmp .ge 21, 3) := by decide +kernel
theorem dX6_holds_10 : decode cX6_holds 10 = .ok (.aload_n 0, 1) := by decide +kernel
theorem dX6_holds_11 : decode cX6_holds 11 = .ok (.getfield 24, 3) := by decide +kernel
theorem dX6_holds_14 : decode cX6_holds 14 = .ok (.iload_n 2, 1) := by decide +kernel
theorem dX6_holds_15 : decode cX6_holds 15 = .ok (.iaload, 1) := by decide +kernel
theorem dX6_holds_16 : decode cX6_holds 16 = .ok (.iload_n 1, 1) := by decide +kernel
theorem dX6_holds_17 : decode cX6_holds 17 = .ok (.if_icmp .ne 5, 3) := by decide +kernel
theorem dX6_holds_20 : decode cX6_holds 20 = .ok (.iconst 1, 1) := by decide +kernel
theorem dX6_holds_21 : decode cX6_holds 21 = .ok (.ireturn, 1) := by decide +kernel
theorem dX6_holds_22 : decode cX6_holds 22 = .ok (.iinc 2 1, 3) := by decide +kernel
theorem dX6_holds_25 : decode cX6_holds 25 = .ok (.goto (-23), 3) := by decide +kernel
theorem dX6_holds_28 : decode cX6_holds 28 = .ok (.iconst 0, 1) := by decide +kernel
theorem dX6_holds_29 : decode cX6_holds 29 = .ok (.ireturn, 1) := by decide +kernel
theorem dX6_put_0 : decode cX6_put 0 = .ok (.aload_n 0, 1) := by decide +kernel
theorem dX6_put_1 : decode cX6_put 1 = .ok (.getfield 21, 3) := by decide +kernel
theorem dX6_put_4 : decode cX6_put 4 = .ok (.bipush 16, 2) := by decide +kernel
theorem dX6_put_6 : decode cX6_put 6 = .ok (.if_icmp .ge 33, 3) := by decide +kernel
theorem dX6_put_9 : decode cX6_put 9 = .ok (.aload_n 0, 1) := by decide +kernel
theorem dX6_put_10 : decode cX6_put 10 = .ok (.getfield 24, 3) := by decide +kernel
theorem dX6_put_13 : decode cX6_put 13 = .ok (.aload_n 0, 1) := by decide +kernel
theorem dX6_put_14 : decode cX6_put 14 = .ok (.getfield 21, 3) := by decide +kernel
theorem dX6_put_17 : decode cX6_put 17 = .ok (.iload_n 1, 1) := by decide +kernel
theorem dX6_put_18 : decode cX6_put 18 = .ok (.iastore, 1) := by decide +kernel
theorem dX6_put_19 : decode cX6_put 19 = .ok (.aload_n 0, 1) := by decide +kernel
theorem dX6_put_20 : decode cX6_put 20 = .ok (.getfield 28, 3) := by decide +kernel
theorem dX6_put_23 : decode cX6_put 23 = .ok (.aload_n 0, 1) := by decide +kernel
theorem dX6_put_24 : decode cX6_put 24 = .ok (.getfield 21, 3) := by decide +kernel
theorem dX6_put_27 : decode cX6_put 27 = .ok (.iload_n 2, 1) := by decide +kernel
theorem dX6_put_28 : decode cX6_put 28 = .ok (.iastore, 1) := by decide +kernel
theorem dX6_put_29 : decode cX6_put 29 = .ok (.aload_n 0, 1) := by decide +kernel
theorem dX6_put_30 : decode cX6_put 30 = .ok (.dup, 1) := by decide +kernel
theorem dX6_put_31 : decode cX6_put 31 = .ok (.getfield 21, 3) := by decide +kernel
theorem dX6_put_34 : decode cX6_put 34 = .ok (.iconst 1, 1) := by decide +kernel
theorem dX6_put_35 : decode cX6_put 35 = .ok (.iadd, 1) := by decide +kernel
theorem dX6_put_36 : decode cX6_put 36 = .ok (.putfield 21, 3) := by decide +kernel
theorem dX6_put_39 : decode cX6_put 39 = .ok (.return_, 1) := by decide +kernel
theorem dX6_take_0 : decode cX6_take 0 = .ok (.aload_n 0, 1) := by decide +kernel
theorem dX6_take_1 : decode cX6_take 1 = .ok (.aload_n 1, 1) := by decide +kernel
theorem dX6_take_2 : decode cX6_take 2 = .ok (.getfield 9, 3) := by decide +kernel
theorem dX6_take_5 : decode cX6_take 5 = .ok (.putfield 9, 3) := by decide +kernel
theorem dX6_take_8 : decode cX6_take 8 = .ok (.aload_n 0, 1) := by decide +kernel
theorem dX6_take_9 : decode cX6_take 9 = .ok (.aload_n 1, 1) := by decide +kernel
theorem dX6_take_10 : decode cX6_take 10 = .ok (.getfield 15, 3) := by decide +kernel
theorem dX6_take_13 : decode cX6_take 13 = .ok (.putfield 15, 3) := by decide +kernel
theorem dX6_take_16 : decode cX6_take 16 = .ok (.aload_n 0, 1) := by decide +kernel
theorem dX6_take_17 : decode cX6_take 17 = .ok (.aload_n 1, 1) := by decide +kernel
theorem dX6_take_18 : decode cX6_take 18 = .ok (.getfield 18, 3) := by decide +kernel
theorem dX6_take_21 : decode cX6_take 21 = .ok (.putfield 18, 3) := by decide +kernel
theorem dX6_take_24 : decode cX6_take 24 = .ok (.aload_n 0, 1) := by decide +kernel
theorem dX6_take_25 : decode cX6_take 25 = .ok (.aload_n 1, 1) := by decide +kernel
theorem dX6_take_26 : decode cX6_take 26 = .ok (.getfield 21, 3) := by decide +kernel
theorem dX6_take_29 : decode cX6_take 29 = .ok (.putfield 21, 3) := by decide +kernel
theorem dX6_take_32 : decode cX6_take 32 = .ok (.aload_n 1, 1) := by decide +kernel
theorem dX6_take_33 : decode cX6_take 33 = .ok (.getfield 24, 3) := by decide +kernel
theorem dX6_take_36 : decode cX6_take 36 = .ok (.iconst 0, 1) := by decide +kernel
theorem dX6_take_37 : decode cX6_take 37 = .ok (.aload_n 0, 1) := by decide +kernel
theorem dX6_take_38 : decode cX6_take 38 = .ok (.getfield 24, 3) := by decide +kernel
theorem dX6_take_41 : decode cX6_take 41 = .ok (.iconst 0, 1) := by decide +kernel
theorem dX6_take_42 : decode cX6_take 42 = .ok (.bipush 16, 2) := by decide +kernel
theorem dX6_take_44 : decode cX6_take 44 = .ok (.invokestatic 31, 3) := by decide +kernel
theorem dX6_take_47 : decode cX6_take 47 = .ok (.aload_n 1, 1) := by decide +kernel
theorem dX6_take_48 : decode cX6_take 48 = .ok (.getfield 28, 3) := by decide +kernel
theorem dX6_take_51 : decode cX6_take 51 = .ok (.iconst 0, 1) := by decide +kernel
theorem dX6_take_52 : decode cX6_take 52 = .ok (.aload_n 0, 1) := by decide +kernel
theorem dX6_take_53 : decode cX6_take 53 = .ok (.getfield 28, 3) := by decide +kernel
theorem dX6_take_56 : decode cX6_take 56 = .ok (.iconst 0, 1) := by decide +kernel
theorem dX6_take_57 : decode cX6_take 57 = .ok (.bipush 16, 2) := by decide +kernel
theorem dX6_take_59 : decode cX6_take 59 = .ok (.invokestatic 31, 3) := by decide +kernel
theorem dX6_take_62 : decode cX6_take 62 = .ok (.return_, 1) := by decide +kernel
set_option maxRecDepth 20000 in
theorem ggX7_init_X6_init : GoodIn wsX7_init wsX6_init := goodIn_r _ [15, 16, 2, 3, 17, 18, 19, 20, 21, 22, 23, 24, 25, 26, 27, 28, 29] (by decide +kernel) (by decide +kernel)
set_option maxRecDepth 20000 in
theorem gX7_init_X6_init : GoodIn wsX7_init (wsX6_init) := ggX7_init_X6_init
theorem dX7_init_0 : decode cX7_init 0 = .ok (.aload_n 0, 1) := by decide +kernel
theorem dX7_init_1 : decode cX7_init 1 = .ok (.invokespecial 3, 3) := by decide +kernel
theorem dX7_init_4 : decode cX7_init 4 = .ok (.aload_n 0, 1) := by decide +kernel
theorem dX7_init_5 : decode cX7_init 5 = .ok (.new 9, 3) := by decide +kernel
theorem dX7_init_8 : decode cX7_init 8 = .ok (.dup, 1) := by decide +kernel
theorem dX7_init_9 : decode cX7_init 9 = .ok (.invokespecial 11, 3) := by decide +kernel
theorem dX7_init_12 : decode cX7_init 12 = .ok (.putfield 12, 3) := by decide +kernel
theorem dX7_init_15 : decode cX7_init 15 = .ok (.aload_n 0, 1) := by decide +kernel
theorem dX7_init_16 : decode cX7_init 16 = .ok (.iconst 0, 1) := by decide +kernel
theorem dX7_init_17 : decode cX7_init 17 = .ok (.putfield 18, 3) := by decide +kernel
theorem dX7_init_20 : decode cX7_init 20 = .ok (.aload_n 0, 1) := by decide +kernel
theorem dX7_init_21 : decode cX7_init 21 = .ok (.iconst 0, 1) := by decide +kernel
theorem dX7_init_22 : decode cX7_init 22 = .ok (.putfield 22, 3) := by decide +kernel
theorem dX7_init_25 : decode cX7_init 25 = .ok (.aload_n 0, 1) := by decide +kernel
theorem dX7_init_26 : decode cX7_init 26 = .ok (.iconst 0, 1) := by decide +kernel
theorem dX7_init_27 : decode cX7_init 27 = .ok (.putfield 25, 3) := by decide +kernel
theorem dX7_init_30 : decode cX7_init 30 = .ok (.aload_n 0, 1) := by decide +kernel
theorem dX7_init_31 : decode cX7_init 31 = .ok (.iconst 0, 1) := by decide +kernel
theorem dX7_init_32 : decode cX7_init 32 = .ok (.putfield 28, 3) := by decide +kernel
theorem dX7_init_35 : decode cX7_init 35 = .ok (.aload_n 0, 1) := by decide +kernel
theorem dX7_init_36 : decode cX7_init 36 = .ok (.aload_n 1, 1) := by decide +kernel
theorem dX7_init_37 : decode cX7_init 37 = .ok (.putfield 31, 3) := by decide +kernel
theorem dX7_init_40 : decode cX7_init 40 = .ok (.return_, 1) := by decide +kernel
set_option maxRecDepth 20000 in
theorem ggX7_parse_X7_parseSorts : GoodIn wsX7_parse wsX7_parseSorts := goodIn_r _ [14, 15, 16, 17, 18, 13, 19, 7, 8, 6, 1, 9, 20, 21, 22, 23, 24, 25, 26, 27, 28, 29, 30, 31, 32, 33, 34, 35, 36, 37, 38, 39, 40, 41, 42, 43, 44, 45, 46, 47, 48, 49, 50, 51, 52, 53, 54, 55, 56, 57, 58, 59, 60, 61, 62, 63, 64, 65, 66, 67, 68, 69, 70, 71, 72, 73, 74, 75, 76, 77, 78, 79, 80, 81, 82, 83, 84, 85, 86, 87, 88, 89, 90, 91, 92, 93, 94, 95, 96, 97, 98, 99, 130, 131, 132, 133, 134, 135, 136, 137, 138, 139, 140, 141] (by decide +kernel) (by decide +kernel)
set_option maxRecDepth 20000 in
theorem gX7_parse_X7_parseSorts : GoodIn wsX7_parse (wsV RX7 41 RX7 yX7_parseSorts wsX7_parseSorts) := goodIn_app (goodIn_of _ (by decide +kernel)) ggX7_parse_X7_parseSorts
set_option maxRecDepth 20000 in
theorem ggX7_parse_X7_advance : GoodIn wsX7_parse wsX7_advance := goodIn_r _ [19, 7, 8, 6, 1, 9, 20, 21, 13, 22, 23, 24, 25, 130, 131, 132, 133, 134, 135] (by decide +kernel) (by decide +kernel)
set_option maxRecDepth 20000 in
theorem gX7_parse_X7_advance : GoodIn wsX7_parse (wsV RX7 45 RX7 yX7_advance wsX7_advance) := goodIn_app (goodIn_of _ (by decide +kernel)) ggX7_parse_X7_advance
set_option maxRecDepth 20000 in
theorem ggX7_parse_X7_parseItem : GoodIn wsX7_parse wsX7_parseItem := goodIn_r _ [103, 15, 104, 26, 27, 28, 13, 29, 9, 7, 8, 1, 30, 31, 32, 33, 34, 35, 36, 37, 38, 39, 40, 41, 42, 43, 44, 45, 46, 47, 48, 49, 50, 51, 52, 53, 54, 55, 56, 57, 58, 59, 60, 61, 62, 63, 64, 65, 66, 67, 68, 69, 70, 71, 72, 73, 74, 75, 76, 77, 78, 105, 106, 107, 108, 109, 110, 16, 17, 18, 19, 6, 20, 21, 22, 23, 24, 25, 79, 80, 81, 82, 83, 84, 85, 86, 96, 97, 98, 99, 111, 112, 113, 114, 115, 116, 117, 118, 119, 120, 121, 122, 90, 123, 95, 124, 125, 126, 127, 128, 129, 130, 131, 132, 133, 134, 135, 136, 137, 138, 139, 140, 141] (by decide +kernel) (by decide +kernel)
set_option maxRecDepth 20000 in
theorem gX7_parse_X7_parseItem : GoodIn wsX7_parse (wsV RX7 48 RX7 yX7_parseItem wsX7_parseItem) := goodIn_app (goodIn_of _ (by decide +kernel)) ggX7_parse_X7_parseItem
theorem dX7_parse_0 : decode cX7_parse 0 = .ok (.aload_n 0, 1) := by decide +kernel
theorem dX7_parse_1 : decode cX7_parse 1 = .ok (.iload_n 1, 1) := by decide +kernel
theorem dX7_parse_2 : decode cX7_parse 2 = .ok (.aload_n 0, 1) := by decide +kernel
theorem dX7_parse_3 : decode cX7_parse 3 = .ok (.getfield 31, 3) := by decide +kernel
theorem dX7_parse_6 : decode cX7_parse 6 = .ok (.arraylength, 1) := by decide +kernel
theorem dX7_parse_7 : decode cX7_parse 7 = .ok (.invokestatic 35, 3) := by decide +kernel
theorem dX7_parse_10 : decode cX7_parse 10 = .ok (.putfield 18, 3) := by decide +kernel
theorem dX7_parse_13 : decode cX7_parse 13 = .ok (.aload_n 0, 1) := by decide +kernel
theorem dX7_parse_14 : decode cX7_parse 14 = .ok (.iconst 0, 1) := by decide +kernel
theorem dX7_parse_15 : decode cX7_parse 15 = .ok (.putfield 28, 3) := by decide +kernel
theorem dX7_parse_18 : decode cX7_parse 18 = .ok (.aload_n 0, 1) := by decide +kernel
theorem dX7_parse_19 : decode cX7_parse 19 = .ok (.invokevirtual 41, 3) := by decide +kernel
theorem dX7_parse_22 : decode cX7_parse 22 = .ok (.ifCond .ne 8, 3) := by decide +kernel
theorem dX7_parse_25 : decode cX7_parse 25 = .ok (.aload_n 0, 1) := by decide +kernel
theorem dX7_parse_26 : decode cX7_parse 26 = .ok (.getfield 25, 3) := by decide +kernel
theorem dX7_parse_29 : decode cX7_parse 29 = .ok (.ireturn, 1) := by decide +kernel
theorem dX7_parse_30 : decode cX7_parse 30 = .ok (.iconst 0, 1) := by decide +kernel
theorem dX7_parse_31 : decode cX7_parse 31 = .ok (.istore_n 2, 1) := by decide +kernel
theorem dX7_parse_32 : decode cX7_parse 32 = .ok (.iload_n 2, 1) := by decide +kernel
theorem dX7_parse_33 : decode cX7_parse 33 = .ok (.aload_n 0, 1) := by decide +kernel
theorem dX7_parse_34 : decode cX7_parse 34 = .ok (.getfield 18, 3) := by decide +kernel
theorem dX7_parse_37 : decode cX7_parse 37 = .ok (.if_icmp .gt 34, 3) := by decide +kernel
theorem dX7_parse_40 : decode cX7_parse 40 = .ok (.aload_n 0, 1) := by decide +kernel
theorem dX7_parse_41 : decode cX7_parse 41 = .ok (.invokevirtual 45, 3) := by decide +kernel
theorem dX7_parse_44 : decode cX7_parse 44 = .ok (.aload_n 0, 1) := by decide +kernel
theorem dX7_parse_45 : decode cX7_parse 45 = .ok (.getfield 22, 3) := by decide +kernel
theorem dX7_parse_48 : decode cX7_parse 48 = .ok (.ifCond .ne 5, 3) := by decide +kernel
theorem dX7_parse_51 : decode cX7_parse 51 = .ok (.iconst (-1), 1) := by decide +kernel
theorem dX7_parse_52 : decode cX7_parse 52 = .ok (.ireturn, 1) := by decide +kernel
theorem dX7_parse_53 : decode cX7_parse 53 = .ok (.aload_n 0, 1) := by decide +kernel
theorem dX7_parse_54 : decode cX7_parse 54 = .ok (.invokevirtual 48, 3) := by decide +kernel
theorem dX7_parse_57 : decode cX7_parse 57 = .ok (.ifCond .ne 8, 3) := by decide +kernel
theorem dX7_parse_60 : decode cX7_parse 60 = .ok (.aload_n 0, 1) := by decide +kernel
theorem dX7_parse_61 : decode cX7_parse 61 = .ok (.getfield 25, 3) := by decide +kernel
theorem dX7_parse_64 : decode cX7_parse 64 = .ok (.ireturn, 1) := by decide +kernel
theorem dX7_parse_65 : decode cX7_parse 65 = .ok (.iinc 2 1, 3) := by decide +kernel
theorem dX7_parse_68 : decode cX7_parse 68 = .ok (.goto (-36), 3) := by decide +kernel
theorem dX7_parse_71 : decode cX7_parse 71 = .ok (.aload_n 0, 1) := by decide +kernel
theorem dX7_parse_72 : decode cX7_parse 72 = .ok (.getfield 18, 3) := by decide +kernel
theorem dX7_parse_75 : decode cX7_parse 75 = .ok (.ireturn, 1) := by decide +kernel
set_option maxRecDepth 20000 in
theorem ggX7_parseSorts_X7_advance : GoodIn wsX7_parseSorts wsX7_advance := goodIn_r _ [6, 7, 8, 9, 10, 11, 12, 13, 5, 14, 15, 16, 17, 92, 93, 94, 95, 96, 97] (by decide +kernel) (by decide +kernel)
set_option maxRecDepth 20000 in
theorem gX7_parseSorts_X7_advance : GoodIn wsX7_parseSorts (wsV RX7 45 RX7 yX7_advance wsX7_advance) := goodIn_app (goodIn_of _ (by decide +kernel)) ggX7_parseSorts_X7_advance
set_option maxRecDepth 20000 in
theorem ggX7_parseSorts_X7_isWord : GoodIn wsX7_parseSorts wsX7_isWord := goodIn_r _ [21, 11, 7, 8, 10, 22, 23, 24, 25, 26, 27, 28, 29, 30, 31, 32, 33, 34, 35, 36, 37, 38, 39, 40, 41, 42, 43, 44, 45, 46, 47, 48, 49, 50, 51, 52, 53, 54, 55, 56, 57, 58, 59, 60, 61, 62, 63, 64, 65, 66, 67, 68, 69, 70, 92, 93, 94, 95, 96, 97] (by decide +kernel) (by decide +kernel)
set_option maxRecDepth 20000 in
theorem gX7_parseSorts_X7_isWord : GoodIn wsX7_parseSorts (wsV RX7 53 RX7 yX7_isWord wsX7_isWord) := goodIn_app (goodIn_of _ (by decide +kernel)) ggX7_parseSorts_X7_isWord
set_option maxRecDepth 20000 in
theorem ggX7_parseSorts_X7_isNumber : GoodIn wsX7_parseSorts wsX7_isNumber := goodIn_r _ [74, 11, 7, 8, 75, 76, 77, 5, 78, 10, 15, 16, 17, 92, 93, 94, 95, 96, 97] (by decide +kernel) (by decide +kernel)
set_option maxRecDepth 20000 in
theorem gX7_parseSorts_X7_isNumber : GoodIn wsX7_parseSorts (wsV RX7 57 RX7 yX7_isNumber wsX7_isNumber) := goodIn_app (goodIn_of _ (by decide +kernel)) ggX7_parseSorts_X7_isNumber
set_option maxRecDepth 20000 in
theorem ggX7_parseSorts_X7_number : GoodIn wsX7_parseSorts wsX7_number := goodIn_r _ [78, 8, 7, 10, 92, 93, 94, 95, 96, 97] (by decide +kernel) (by decide +kernel)
set_option maxRecDepth 20000 in
theorem gX7_parseSorts_X7_number : GoodIn wsX7_parseSorts (wsV RX7 61 RX7 yX7_number wsX7_number) := goodIn_app (goodIn_of _ (by decide +kernel)) ggX7_parseSorts_X7_number
set_option maxRecDepth 20000 in
theorem ggX7_parseSorts_X6_begin : GoodIn wsX7_parseSorts wsX6_begin := goodIn_r _ [83, 84, 85, 86, 87, 98, 99, 100, 101, 102, 103] (by decide +kernel) (by decide +kernel)
set_option maxRecDepth 20000 in
theorem gX7_parseSorts_X6_begin : GoodIn wsX7_parseSorts (wsV RX7 65 RX6 yX6_begin wsX6_begin) := goodIn_app (goodIn_of _ (by decide +kernel)) ggX7_parseSorts_X6_begin
set_option maxRecDepth 20000 in
theorem ggX7_parseSorts_X7_parseSemicolon : GoodIn wsX7_parseSorts wsX7_parseSemicolon := goodIn_r _ [91, 11, 2, 3, 4, 5, 6, 7, 8, 9, 10, 12, 13, 14, 15, 16, 17, 92, 93, 94, 95, 96, 97] (by decide +kernel) (by decide +kernel)
set_option maxRecDepth 20000 in
theorem gX7_parseSorts_X7_parseSemicolon : GoodIn wsX7_parseSorts (wsV RX7 69 RX7 yX7_parseSemicolon wsX7_parseSemicolon) := goodIn_app (goodIn_of _ (by decide +kernel)) ggX7_parseSorts_X7_parseSemicolon
theorem dX7_parseSorts_0 : decode cX7_parseSorts 0 = .ok (.aload_n 0, 1) := by decide +kernel
theorem dX7_parseSorts_1 : decode cX7_parseSorts 1 = .ok (.invokevirtual 45, 3) := by decide +kernel
theorem dX7_parseSorts_4 : decode cX7_parseSorts 4 = .ok (.aload_n 0, 1) := by decide +kernel
theorem dX7_parseSorts_5 : decode cX7_parseSorts 5 = .ok (.ldc 51, 2) := by decide +kernel
theorem dX7_parseSorts_7 : decode cX7_parseSorts 7 = .ok (.invokevirtual 53, 3) := by decide +kernel
theorem dX7_parseSorts_10 : decode cX7_parseSorts 10 = .ok (.ifCond .ne 5, 3) := by decide +kernel
theorem dX7_parseSorts_13 : decode cX7_parseSorts 13 = .ok (.iconst 0, 1) := by decide +kernel
theorem dX7_parseSorts_14 : decode cX7_parseSorts 14 = .ok (.ireturn, 1) := by decide +kernel
theorem dX7_parseSorts_15 : decode cX7_parseSorts 15 = .ok (.aload_n 0, 1) := by decide +kernel
theorem dX7_parseSorts_16 : decode cX7_parseSorts 16 = .ok (.invokevirtual 45, 3) := by decide +kernel
theorem dX7_parseSorts_19 : decode cX7_parseSorts 19 = .ok (.aload_n 0, 1) := by decide +kernel
theorem dX7_parseSorts_20 : decode cX7_parseSorts 20 = .ok (.iconst 1, 1) := by decide +kernel
theorem dX7_parseSorts_21 : decode cX7_parseSorts 21 = .ok (.bipush 8, 2) := by decide +kernel
theorem dX7_parseSorts_23 : decode cX7_parseSorts 23 = .ok (.invokevirtual 57, 3) := by decide +kernel
theorem dX7_parseSorts_26 : decode cX7_parseSorts 26 = .ok (.ifCond .ne 5, 3) := by decide +kernel
theorem dX7_parseSorts_29 : decode cX7_parseSorts 29 = .ok (.iconst 0, 1) := by decide +kernel
theorem dX7_parseSorts_30 : decode cX7_parseSorts 30 = .ok (.ireturn, 1) := by decide +kernel
theorem dX7_parseSorts_31 : decode cX7_parseSorts 31 = .ok (.aload_n 0, 1) := by decide +kernel
theorem dX7_parseSorts_32 : decode cX7_parseSorts 32 = .ok (.getfield 12, 3) := by decide +kernel
theorem dX7_parseSorts_35 : decode cX7_parseSorts 35 = .ok (.aload_n 0, 1) := by decide +kernel
theorem dX7_parseSorts_36 : decode cX7_parseSorts 36 = .ok (.invokevirtual 61, 3) := by decide +kernel
theorem dX7_parseSorts_39 : decode cX7_parseSorts 39 = .ok (.invokevirtual 65, 3) := by decide +kernel
theorem dX7_parseSorts_42 : decode cX7_parseSorts 42 = .ok (.aload_n 0, 1) := by decide +kernel
theorem dX7_parseSorts_43 : decode cX7_parseSorts 43 = .ok (.invokevirtual 69, 3) := by decide +kernel
theorem dX7_parseSorts_46 : decode cX7_parseSorts 46 = .ok (.ireturn, 1) := by decide +kernel
set_option maxRecDepth 20000 in
theorem ggX7_parseItem_X7_isWord : GoodIn wsX7_parseItem wsX7_isWord := goodIn_r _ [7, 8, 9, 10, 11, 12, 13, 14, 15, 16, 17, 18, 19, 20, 21, 22, 23, 24, 25, 26, 27, 28, 29, 30, 31, 32, 33, 34, 35, 36, 37, 38, 39, 40, 41, 42, 43, 44, 45, 46, 47, 48, 49, 50, 51, 52, 53, 54, 55, 56, 57, 58, 59, 60, 111, 112, 113, 114, 115, 116] (by decide +kernel) (by decide +kernel)
set_option maxRecDepth 20000 in
theorem gX7_parseItem_X7_isWord : GoodIn wsX7_parseItem (wsV RX7 53 RX7 yX7_isWord wsX7_isWord) := goodIn_app (goodIn_of _ (by decide +kernel)) ggX7_parseItem_X7_isWord
set_option maxRecDepth 20000 in
theorem ggX7_parseItem_X7_parseSizes : GoodIn wsX7_parseItem wsX7_parseSizes := goodIn_r _ [64, 1, 65, 66, 67, 68, 69, 6, 70, 9, 10, 71, 11, 8, 72, 73, 74, 75, 76, 77, 78, 79, 80, 81, 82, 83, 84, 85, 86, 87, 88, 89, 111, 112, 113, 114, 115, 116, 117, 118, 119, 120, 121, 122] (by decide +kernel) (by decide +kernel)
set_option maxRecDepth 20000 in
theorem gX7_parseItem_X7_parseSizes : GoodIn wsX7_parseItem (wsV RX7 74 RX7 yX7_parseSizes wsX7_parseSizes) := goodIn_app (goodIn_of _ (by decide +kernel)) ggX7_parseItem_X7_parseSizes
set_option maxRecDepth 20000 in
theorem ggX7_parseItem_X7_parseBox : GoodIn wsX7_parseItem wsX7_parseBox := goodIn_r _ [93, 1, 67, 68, 69, 6, 70, 9, 10, 71, 11, 8, 72, 73, 74, 75, 76, 77, 94, 95, 96, 97, 98, 99, 100, 101, 102, 103, 104, 105, 78, 79, 80, 81, 82, 83, 84, 85, 106, 107, 108, 109, 110, 86, 87, 88, 89, 111, 112, 113, 114, 115, 116, 117, 118, 119, 120, 121, 122] (by decide +kernel) (by decide +kernel)
set_option maxRecDepth 20000 in
theorem gX7_parseItem_X7_parseBox : GoodIn wsX7_parseItem (wsV RX7 82 RX7 yX7_parseBox wsX7_parseBox) := goodIn_app (goodIn_of _ (by decide +kernel)) ggX7_parseItem_X7_parseBox
theorem dX7_parseItem_0 : decode cX7_parseItem 0 = .ok (.aload_n 0, 1) := by decide +kernel
theorem dX7_parseItem_1 : decode cX7_parseItem 1 = .ok (.ldc 72, 2) := by decide +kernel
theorem dX7_parseItem_3 : decode cX7_parseItem 3 = .ok (.invokevirtual 53, 3) := by decide +kernel
theorem dX7_parseItem_6 : decode cX7_parseItem 6 = .ok (.ifCond .eq 8, 3) := by decide +kernel
theorem dX7_parseItem_9 : decode cX7_parseItem 9 = .ok (.aload_n 0, 1) := by decide +kernel
theorem dX7_parseItem_10 : decode cX7_parseItem 10 = .ok (.invokevirtual 74, 3) := by decide +kernel
theorem dX7_parseItem_13 : decode cX7_parseItem 13 = .ok (.ireturn, 1) := by decide +kernel
theorem dX7_parseItem_14 : decode cX7_parseItem 14 = .ok (.aload_n 0, 1) := by decide +kernel
theorem dX7_parseItem_15 : decode cX7_parseItem 15 = .ok (.ldc 77, 2) := by decide +kernel
theorem dX7_parseItem_17 : decode cX7_parseItem 17 = .ok (.invokevirtual 53, 3) := by decide +kernel
theorem dX7_parseItem_20 : decode cX7_parseItem 20 = .ok (.ifCond .eq 26, 3) := by decide +kernel
theorem dX7_parseItem_23 : decode cX7_parseItem 23 = .ok (.aload_n 0, 1) := by decide +kernel
theorem dX7_parseItem_24 : decode cX7_parseItem 24 = .ok (.getfield 12, 3) := by decide +kernel
theorem dX7_parseItem_27 : decode cX7_parseItem 27 = .ok (.getfield 79, 3) := by decide +kernel
theorem dX7_parseItem_30 : decode cX7_parseItem 30 = .ok (.bipush 16, 2) := by decide +kernel
theorem dX7_parseItem_32 : decode cX7_parseItem 32 = .ok (.if_icmp .ge 14, 3) := by decide +kernel
theorem dX7_parseItem_35 : decode cX7_parseItem 35 = .ok (.aload_n 0, 1) := by decide +kernel
theorem dX7_parseItem_36 : decode cX7_parseItem 36 = .ok (.invokevirtual 82, 3) := by decide +kernel
theorem dX7_parseItem_39 : decode cX7_parseItem 39 = .ok (.ifCond .eq 7, 3) := by decide +kernel
theorem dX7_parseItem_42 : decode cX7_parseItem 42 = .ok (.iconst 1, 1) := by decide +kernel
theorem dX7_parseItem_43 : decode cX7_parseItem 43 = .ok (.goto 4, 3) := by decide +kernel
theorem dX7_parseItem_46 : decode cX7_parseItem 46 = .ok (.iconst 0, 1) := by decide +kernel
theorem dX7_parseItem_47 : decode cX7_parseItem 47 = .ok (.ireturn, 1) := by decide +kernel
set_option maxRecDepth 20000 in
theorem ggX7_parseSizes_X7_advance : GoodIn wsX7_parseSizes wsX7_advance := goodIn_r _ [8, 9, 10, 11, 12, 13, 14, 15, 7, 16, 17, 18, 19, 32, 33, 34, 35, 36, 37] (by decide +kernel) (by decide +kernel)
set_option maxRecDepth 20000 in
theorem gX7_parseSizes_X7_advance : GoodIn wsX7_parseSizes (wsV RX7 45 RX7 yX7_advance wsX7_advance) := goodIn_app (goodIn_of _ (by decide +kernel)) ggX7_parseSizes_X7_advance
set_option maxRecDepth 20000 in
theorem ggX7_parseSizes_X7_isNumber : GoodIn wsX7_parseSizes wsX7_isNumber := goodIn_r _ [23, 13, 9, 10, 24, 25, 26, 7, 27, 12, 17, 18, 19, 32, 33, 34, 35, 36, 37] (by decide +kernel) (by decide +kernel)
set_option maxRecDepth 20000 in
theorem gX7_parseSizes_X7_isNumber : GoodIn wsX7_parseSizes (wsV RX7 57 RX7 yX7_isNumber wsX7_isNumber) := goodIn_app (goodIn_of _ (by decide +kernel)) ggX7_parseSizes_X7_isNumber
set_option maxRecDepth 20000 in
theorem ggX7_parseSizes_X7_number : GoodIn wsX7_parseSizes wsX7_number := goodIn_r _ [27, 10, 9, 12, 32, 33, 34, 35, 36, 37] (by decide +kernel) (by decide +kernel)
set_option maxRecDepth 20000 in
theorem gX7_parseSizes_X7_number : GoodIn wsX7_parseSizes (wsV RX7 61 RX7 yX7_number wsX7_number) := goodIn_app (goodIn_of _ (by decide +kernel)) ggX7_parseSizes_X7_number
set_option maxRecDepth 20000 in
theorem ggX7_parseSizes_X7_parseSemicolon : GoodIn wsX7_parseSizes wsX7_parseSemicolon := goodIn_r _ [31, 13, 4, 5, 6, 7, 8, 9, 10, 11, 12, 14, 15, 16, 17, 18, 19, 32, 33, 34, 35, 36, 37] (by decide +kernel) (by decide +kernel)
set_option maxRecDepth 20000 in
theorem gX7_parseSizes_X7_parseSemicolon : GoodIn wsX7_parseSizes (wsV RX7 69 RX7 yX7_parseSemicolon wsX7_parseSemicolon) := goodIn_app (goodIn_of _ (by decide +kernel)) ggX7_parseSizes_X7_parseSemicolon
theorem dX7_parseSizes_0 : decode cX7_parseSizes 0 = .ok (.aload_n 0, 1) := by decide +kernel
theorem dX7_parseSizes_1 : decode cX7_parseSizes 1 = .ok (.invokevirtual 45, 3) := by decide +kernel
theorem dX7_parseSizes_4 : decode cX7_parseSizes 4 = .ok (.aload_n 0, 1) := by decide +kernel
theorem dX7_parseSizes_5 : decode cX7_parseSizes 5 = .ok (.iconst 0, 1) := by decide +kernel
theorem dX7_parseSizes_6 : decode cX7_parseSizes 6 = .ok (.bipush 8, 2) := by decide +kernel
theorem dX7_parseSizes_8 : decode cX7_parseSizes 8 = .ok (.invokevirtual 57, 3) := by decide +kernel
theorem dX7_parseSizes_11 : decode cX7_parseSizes 11 = .ok (.ifCond .ne 5, 3) := by decide +kernel
theorem dX7_parseSizes_14 : decode cX7_parseSizes 14 = .ok (.iconst 0, 1) := by decide +kernel
theorem dX7_parseSizes_15 : decode cX7_parseSizes 15 = .ok (.ireturn, 1) := by decide +kernel
theorem dX7_parseSizes_16 : decode cX7_parseSizes 16 = .ok (.aload_n 0, 1) := by decide +kernel
theorem dX7_parseSizes_17 : decode cX7_parseSizes 17 = .ok (.getfield 12, 3) := by decide +kernel
theorem dX7_parseSizes_20 : decode cX7_parseSizes 20 = .ok (.aload_n 0, 1) := by decide +kernel
theorem dX7_parseSizes_21 : decode cX7_parseSizes 21 = .ok (.invokevirtual 61, 3) := by decide +kernel
theorem dX7_parseSizes_24 : decode cX7_parseSizes 24 = .ok (.putfield 85, 3) := by decide +kernel
theorem dX7_parseSizes_27 : decode cX7_parseSizes 27 = .ok (.aload_n 0, 1) := by decide +kernel
theorem dX7_parseSizes_28 : decode cX7_parseSizes 28 = .ok (.invokevirtual 45, 3) := by decide +kernel
theorem dX7_parseSizes_31 : decode cX7_parseSizes 31 = .ok (.aload_n 0, 1) := by decide +kernel
theorem dX7_parseSizes_32 : decode cX7_parseSizes 32 = .ok (.aload_n 0, 1) := by decide +kernel
theorem dX7_parseSizes_33 : decode cX7_parseSizes 33 = .ok (.getfield 12, 3) := by decide +kernel
theorem dX7_parseSizes_36 : decode cX7_parseSizes 36 = .ok (.getfield 85, 3) := by decide +kernel
theorem dX7_parseSizes_39 : decode cX7_parseSizes 39 = .ok (.bipush 8, 2) := by decide +kernel
theorem dX7_parseSizes_41 : decode cX7_parseSizes 41 = .ok (.invokevirtual 57, 3) := by decide +kernel
theorem dX7_parseSizes_44 : decode cX7_parseSizes 44 = .ok (.ifCond .ne 5, 3) := by decide +kernel
theorem dX7_parseSizes_47 : decode cX7_parseSizes 47 = .ok (.iconst 0, 1) := by decide +kernel
theorem dX7_parseSizes_48 : decode cX7_parseSizes 48 = .ok (.ireturn, 1) := by decide +kernel
theorem dX7_parseSizes_49 : decode cX7_parseSizes 49 = .ok (.aload_n 0, 1) := by decide +kernel
theorem dX7_parseSizes_50 : decode cX7_parseSizes 50 = .ok (.getfield 12, 3) := by decide +kernel
theorem dX7_parseSizes_53 : decode cX7_parseSizes 53 = .ok (.aload_n 0, 1) := by decide +kernel
theorem dX7_parseSizes_54 : decode cX7_parseSizes 54 = .ok (.invokevirtual 61, 3) := by decide +kernel
theorem dX7_parseSizes_57 : decode cX7_parseSizes 57 = .ok (.putfield 88, 3) := by decide +kernel
theorem dX7_parseSizes_60 : decode cX7_parseSizes 60 = .ok (.aload_n 0, 1) := by decide +kernel
theorem dX7_parseSizes_61 : decode cX7_parseSizes 61 = .ok (.invokevirtual 69, 3) := by decide +kernel
theorem dX7_parseSizes_64 : decode cX7_parseSizes 64 = .ok (.ireturn, 1) := by decide +kernel
set_option maxRecDepth 20000 in
theorem ggX7_parseBox_X7_advance : GoodIn wsX7_parseBox wsX7_advance := goodIn_r _ [6, 7, 8, 9, 10, 11, 12, 13, 5, 14, 15, 16, 17, 47, 48, 49, 50, 51, 52] (by decide +kernel) (by decide +kernel)
set_option maxRecDepth 20000 in
theorem gX7_parseBox_X7_advance : GoodIn wsX7_parseBox (wsV RX7 45 RX7 yX7_advance wsX7_advance) := goodIn_app (goodIn_of _ (by decide +kernel)) ggX7_parseBox_X7_advance
set_option maxRecDepth 20000 in
theorem ggX7_parseBox_X7_letters : GoodIn wsX7_parseBox wsX7_letters := goodIn_r _ [21, 11, 8, 7, 10, 1, 22, 47, 48, 49, 50, 51, 52, 53, 54, 55, 56, 57, 58] (by decide +kernel) (by decide +kernel)
set_option maxRecDepth 20000 in
theorem gX7_parseBox_X7_letters : GoodIn wsX7_parseBox (wsV RX7 91 RX7 yX7_letters wsX7_letters) := goodIn_app (goodIn_of _ (by decide +kernel)) ggX7_parseBox_X7_letters
set_option maxRecDepth 20000 in
theorem ggX7_parseBox_X6_holds : GoodIn wsX7_parseBox wsX6_holds := goodIn_r _ [27, 28, 29, 53, 54, 55, 56, 57, 58] (by decide +kernel) (by decide +kernel)
set_option maxRecDepth 20000 in
theorem gX7_parseBox_X6_holds : GoodIn wsX7_parseBox (wsV RX7 94 RX6 yX6_holds wsX6_holds) := goodIn_app (goodIn_of _ (by decide +kernel)) ggX7_parseBox_X6_holds
set_option maxRecDepth 20000 in
theorem ggX7_parseBox_X7_isNumber : GoodIn wsX7_parseBox wsX7_isNumber := goodIn_r _ [33, 11, 7, 8, 34, 35, 36, 5, 37, 10, 15, 16, 17, 47, 48, 49, 50, 51, 52] (by decide +kernel) (by decide +kernel)
set_option maxRecDepth 20000 in
theorem gX7_parseBox_X7_isNumber : GoodIn wsX7_parseBox (wsV RX7 57 RX7 yX7_isNumber wsX7_isNumber) := goodIn_app (goodIn_of _ (by decide +kernel)) ggX7_parseBox_X7_isNumber
set_option maxRecDepth 20000 in
theorem ggX7_parseBox_X7_number : GoodIn wsX7_parseBox wsX7_number := goodIn_r _ [37, 8, 7, 10, 47, 48, 49, 50, 51, 52] (by decide +kernel) (by decide +kernel)
set_option maxRecDepth 20000 in
theorem gX7_parseBox_X7_number : GoodIn wsX7_parseBox (wsV RX7 61 RX7 yX7_number wsX7_number) := goodIn_app (goodIn_of _ (by decide +kernel)) ggX7_parseBox_X7_number
set_option maxRecDepth 20000 in
theorem ggX7_parseBox_X6_put : GoodIn wsX7_parseBox wsX6_put := goodIn_r _ [41, 28, 29, 42, 53, 54, 55, 56, 57, 58] (by decide +kernel) (by decide +kernel)
set_option maxRecDepth 20000 in
theorem gX7_parseBox_X6_put : GoodIn wsX7_parseBox (wsV RX7 98 RX6 yX6_put wsX6_put) := goodIn_app (goodIn_of _ (by decide +kernel)) ggX7_parseBox_X6_put
set_option maxRecDepth 20000 in
theorem ggX7_parseBox_X7_parseSemicolon : GoodIn wsX7_parseBox wsX7_parseSemicolon := goodIn_r _ [46, 11, 2, 3, 4, 5, 6, 7, 8, 9, 10, 12, 13, 14, 15, 16, 17, 47, 48, 49, 50, 51, 52] (by decide +kernel) (by decide +kernel)
set_option maxRecDepth 20000 in
theorem gX7_parseBox_X7_parseSemicolon : GoodIn wsX7_parseBox (wsV RX7 69 RX7 yX7_parseSemicolon wsX7_parseSemicolon) := goodIn_app (goodIn_of _ (by decide +kernel)) ggX7_parseBox_X7_parseSemicolon
theorem dX7_parseBox_0 : decode cX7_parseBox 0 = .ok (.aload_n 0, 1) := by decide +kernel
theorem dX7_parseBox_1 : decode cX7_parseBox 1 = .ok (.invokevirtual 45, 3) := by decide +kernel
theorem dX7_parseBox_4 : decode cX7_parseBox 4 = .ok (.aload_n 0, 1) := by decide +kernel
theorem dX7_parseBox_5 : decode cX7_parseBox 5 = .ok (.invokevirtual 91, 3) := by decide +kernel
theorem dX7_parseBox_8 : decode cX7_parseBox 8 = .ok (.istore_n 1, 1) := by decide +kernel
theorem dX7_parseBox_9 : decode cX7_parseBox 9 = .ok (.iload_n 1, 1) := by decide +kernel
theorem dX7_parseBox_10 : decode cX7_parseBox 10 = .ok (.iconst (-1), 1) := by decide +kernel
theorem dX7_parseBox_11 : decode cX7_parseBox 11 = .ok (.if_icmp .eq 14, 3) := by decide +kernel
theorem dX7_parseBox_14 : decode cX7_parseBox 14 = .ok (.aload_n 0, 1) := by decide +kernel
theorem dX7_parseBox_15 : decode cX7_parseBox 15 = .ok (.getfield 12, 3) := by decide +kernel
theorem dX7_parseBox_18 : decode cX7_parseBox 18 = .ok (.iload_n 1, 1) := by decide +kernel
theorem dX7_parseBox_19 : decode cX7_parseBox 19 = .ok (.invokevirtual 94, 3) := by decide +kernel
theorem dX7_parseBox_22 : decode cX7_parseBox 22 = .ok (.ifCond .eq 5, 3) := by decide +kernel
theorem dX7_parseBox_25 : decode cX7_parseBox 25 = .ok (.iconst 0, 1) := by decide +kernel
theorem dX7_parseBox_26 : decode cX7_parseBox 26 = .ok (.ireturn, 1) := by decide +kernel
theorem dX7_parseBox_27 : decode cX7_parseBox 27 = .ok (.aload_n 0, 1) := by decide +kernel
theorem dX7_parseBox_28 : decode cX7_parseBox 28 = .ok (.invokevirtual 45, 3) := by decide +kernel
theorem dX7_parseBox_31 : decode cX7_parseBox 31 = .ok (.aload_n 0, 1) := by decide +kernel
theorem dX7_parseBox_32 : decode cX7_parseBox 32 = .ok (.iconst 0, 1) := by decide +kernel
theorem dX7_parseBox_33 : decode cX7_parseBox 33 = .ok (.bipush 99, 2) := by decide +kernel
theorem dX7_parseBox_35 : decode cX7_parseBox 35 = .ok (.invokevirtual 57, 3) := by decide +kernel
theorem dX7_parseBox_38 : decode cX7_parseBox 38 = .ok (.ifCond .ne 5, 3) := by decide +kernel
theorem dX7_parseBox_41 : decode cX7_parseBox 41 = .ok (.iconst 0, 1) := by decide +kernel
theorem dX7_parseBox_42 : decode cX7_parseBox 42 = .ok (.ireturn, 1) := by decide +kernel
theorem dX7_parseBox_43 : decode cX7_parseBox 43 = .ok (.aload_n 0, 1) := by decide +kernel
theorem dX7_parseBox_44 : decode cX7_parseBox 44 = .ok (.getfield 12, 3) := by decide +kernel
theorem dX7_parseBox_47 : decode cX7_parseBox 47 = .ok (.iload_n 1, 1) := by decide +kernel
theorem dX7_parseBox_48 : decode cX7_parseBox 48 = .ok (.aload_n 0, 1) := by decide +kernel
theorem dX7_parseBox_49 : decode cX7_parseBox 49 = .ok (.invokevirtual 61, 3) := by decide +kernel
theorem dX7_parseBox_52 : decode cX7_parseBox 52 = .ok (.invokevirtual 98, 3) := by decide +kernel
theorem dX7_parseBox_55 : decode cX7_parseBox 55 = .ok (.aload_n 0, 1) := by decide +kernel
theorem dX7_parseBox_56 : decode cX7_parseBox 56 = .ok (.invokevirtual 69, 3) := by decide +kernel
theorem dX7_parseBox_59 : decode cX7_parseBox 59 = .ok (.ireturn, 1) := by decide +kernel
set_option maxRecDepth 20000 in
theorem ggX7_parseSemicolon_X7_advance : GoodIn wsX7_parseSemicolon wsX7_advance := goodIn_r _ [6, 7, 8, 9, 10, 1, 11, 12, 5, 13, 14, 15, 16, 17, 18, 19, 20, 21, 22] (by decide +kernel) (by decide +kernel)
set_option maxRecDepth 20000 in
theorem gX7_parseSemicolon_X7_advance : GoodIn wsX7_parseSemicolon (wsV RX7 45 RX7 yX7_advance wsX7_advance) := goodIn_app (goodIn_of _ (by decide +kernel)) ggX7_parseSemicolon_X7_advance
theorem dX7_parseSemicolon_0 : decode cX7_parseSemicolon 0 = .ok (.aload_n 0, 1) := by decide +kernel
theorem dX7_parseSemicolon_1 : decode cX7_parseSemicolon 1 = .ok (.invokevirtual 45, 3) := by decide +kernel
theorem dX7_parseSemicolon_4 : decode cX7_parseSemicolon 4 = .ok (.aload_n 0, 1) := by decide +kernel
theorem dX7_parseSemicolon_5 : decode cX7_parseSemicolon 5 = .ok (.getfield 22, 3) := by decide +kernel
theorem dX7_parseSemicolon_8 : decode cX7_parseSemicolon 8 = .ok (.iconst 4, 1) := by decide +kernel
theorem dX7_parseSemicolon_9 : decode cX7_parseSemicolon 9 = .ok (.if_icmp .ne 7, 3) := by decide +kernel
theorem dX7_parseSemicolon_12 : decode cX7_parseSemicolon 12 = .ok (.iconst 1, 1) := by decide +kernel
theorem dX7_parseSemicolon_13 : decode cX7_parseSemicolon 13 = .ok (.goto 4, 3) := by decide +kernel
theorem dX7_parseSemicolon_16 : decode cX7_parseSemicolon 16 = .ok (.iconst 0, 1) := by decide +kernel
theorem dX7_parseSemicolon_17 : decode cX7_parseSemicolon 17 = .ok (.ireturn, 1) := by decide +kernel
set_option maxRecDepth 20000 in
theorem ggX7_advance_X7_kindOf : GoodIn wsX7_advance wsX7_kindOf := goodIn_r _ [9, 10, 11, 12] (by decide +kernel) (by decide +kernel)
set_option maxRecDepth 20000 in
theorem gX7_advance_X7_kindOf : GoodIn wsX7_advance (va_wsS RX7 102 yX7_kindOf wsX7_kindOf) := goodIn_app (goodIn_of _ (by decide +kernel)) ggX7_advance_X7_kindOf
theorem dX7_advance_0 : decode cX7_advance 0 = .ok (.aload_n 0, 1) := by decide +kernel
theorem dX7_advance_1 : decode cX7_advance 1 = .ok (.aload_n 0, 1) := by decide +kernel
theorem dX7_advance_2 : decode cX7_advance 2 = .ok (.getfield 28, 3) := by decide +kernel
theorem dX7_advance_5 : decode cX7_advance 5 = .ok (.putfield 25, 3) := by decide +kernel
theorem dX7_advance_8 : decode cX7_advance 8 = .ok (.aload_n 0, 1) := by decide +kernel
theorem dX7_advance_9 : decode cX7_advance 9 = .ok (.getfield 25, 3) := by decide +kernel
theorem dX7_advance_12 : decode cX7_advance 12 = .ok (.aload_n 0, 1) := by decide +kernel
theorem dX7_advance_13 : decode cX7_advance 13 = .ok (.getfield 18, 3) := by decide +kernel
theorem dX7_advance_16 : decode cX7_advance 16 = .ok (.if_icmp .ge 30, 3) := by decide +kernel
theorem dX7_advance_19 : decode cX7_advance 19 = .ok (.aload_n 0, 1) := by decide +kernel
theorem dX7_advance_20 : decode cX7_advance 20 = .ok (.getfield 31, 3) := by decide +kernel
theorem dX7_advance_23 : decode cX7_advance 23 = .ok (.aload_n 0, 1) := by decide +kernel
theorem dX7_advance_24 : decode cX7_advance 24 = .ok (.getfield 25, 3) := by decide +kernel
theorem dX7_advance_27 : decode cX7_advance 27 = .ok (.iaload, 1) := by decide +kernel
theorem dX7_advance_28 : decode cX7_advance 28 = .ok (.bipush 32, 2) := by decide +kernel
theorem dX7_advance_30 : decode cX7_advance 30 = .ok (.if_icmp .ne 16, 3) := by decide +kernel
theorem dX7_advance_33 : decode cX7_advance 33 = .ok (.aload_n 0, 1) := by decide +kernel
theorem dX7_advance_34 : decode cX7_advance 34 = .ok (.dup, 1) := by decide +kernel
theorem dX7_advance_35 : decode cX7_advance 35 = .ok (.getfield 25, 3) := by decide +kernel
theorem dX7_advance_38 : decode cX7_advance 38 = .ok (.iconst 1, 1) := by decide +kernel
theorem dX7_advance_39 : decode cX7_advance 39 = .ok (.iadd, 1) := by decide +kernel
theorem dX7_advance_40 : decode cX7_advance 40 = .ok (.putfield 25, 3) := by decide +kernel
theorem dX7_advance_43 : decode cX7_advance 43 = .ok (.goto (-35), 3) := by decide +kernel
theorem dX7_advance_46 : decode cX7_advance 46 = .ok (.aload_n 0, 1) := by decide +kernel
theorem dX7_advance_47 : decode cX7_advance 47 = .ok (.aload_n 0, 1) := by decide +kernel
theorem dX7_advance_48 : decode cX7_advance 48 = .ok (.getfield 25, 3) := by decide +kernel
theorem dX7_advance_51 : decode cX7_advance 51 = .ok (.aload_n 0, 1) := by decide +kernel
theorem dX7_advance_52 : decode cX7_advance 52 = .ok (.getfield 18, 3) := by decide +kernel
theorem dX7_advance_55 : decode cX7_advance 55 = .ok (.if_icmp .ge 18, 3) := by decide +kernel
theorem dX7_advance_58 : decode cX7_advance 58 = .ok (.aload_n 0, 1) := by decide +kernel
theorem dX7_advance_59 : decode cX7_advance 59 = .ok (.getfield 31, 3) := by decide +kernel
theorem dX7_advance_62 : decode cX7_advance 62 = .ok (.aload_n 0, 1) := by decide +kernel
theorem dX7_advance_63 : decode cX7_advance 63 = .ok (.getfield 25, 3) := by decide +kernel
theorem dX7_advance_66 : decode cX7_advance 66 = .ok (.iaload, 1) := by decide +kernel
theorem dX7_advance_67 : decode cX7_advance 67 = .ok (.invokestatic 102, 3) := by decide +kernel
theorem dX7_advance_70 : decode cX7_advance 70 = .ok (.goto 4, 3) := by decide +kernel
theorem dX7_advance_73 : decode cX7_advance 73 = .ok (.iconst 0, 1) := by decide +kernel
theorem dX7_advance_74 : decode cX7_advance 74 = .ok (.putfield 22, 3) := by decide +kernel
theorem dX7_advance_77 : decode cX7_advance 77 = .ok (.aload_n 0, 1) := by decide +kernel
theorem dX7_advance_78 : decode cX7_advance 78 = .ok (.aload_n 0, 1) := by decide +kernel
theorem dX7_advance_79 : decode cX7_advance 79 = .ok (.getfield 22, 3) := by decide +kernel
theorem dX7_advance_82 : decode cX7_advance 82 = .ok (.ifCond .ne 10, 3) := by decide +kernel
theorem dX7_advance_85 : decode cX7_advance 85 = .ok (.aload_n 0, 1) := by decide +kernel
theorem dX7_advance_86 : decode cX7_advance 86 = .ok (.getfield 25, 3) := by decide +kernel
theorem dX7_advance_89 : decode cX7_advance 89 = .ok (.goto 9, 3) := by decide +kernel
theorem dX7_advance_92 : decode cX7_advance 92 = .ok (.aload_n 0, 1) := by decide +kernel
theorem dX7_advance_93 : decode cX7_advance 93 = .ok (.getfield 25, 3) := by decide +kernel
theorem dX7_advance_96 : decode cX7_advance 96 = .ok (.iconst 1, 1) := by decide +kernel
theorem dX7_advance_97 : decode cX7_advance 97 = .ok (.iadd, 1) := by decide +kernel
theorem dX7_advance_98 : decode cX7_advance 98 = .ok (.putfield 28, 3) := by decide +kernel
theorem dX7_advance_101 : decode cX7_advance 101 = .ok (.aload_n 0, 1) := by decide +kernel
theorem dX7_advance_102 : decode cX7_advance 102 = .ok (.getfield 22, 3) := by decide +kernel
theorem dX7_advance_105 : decode cX7_advance 105 = .ok (.iconst 1, 1) := by decide +kernel
theorem dX7_advance_106 : decode cX7_advance 106 = .ok (.if_icmp .eq 11, 3) := by decide +kernel
theorem dX7_advance_109 : decode cX7_advance 109 = .ok (.aload_n 0, 1) := by decide +kernel
theorem dX7_advance_110 : decode cX7_advance 110 = .ok (.getfield 22, 3) := by decide +kernel
theorem dX7_advance_113 : decode cX7_advance 113 = .ok (.iconst 2, 1) := by decide +kernel
theorem dX7_advance_114 : decode cX7_advance 114 = .ok (.if_icmp .ne 46, 3) := by decide +kernel
theorem dX7_advance_117 : decode cX7_advance 117 = .ok (.aload_n 0, 1) := by decide +kernel
theorem dX7_advance_118 : decode cX7_advance 118 = .ok (.getfield 28, 3) := by decide +kernel
theorem dX7_advance_121 : decode cX7_advance 121 = .ok (.aload_n 0, 1) := by decide +kernel
theorem dX7_advance_122 : decode cX7_advance 122 = .ok (.getfield 18, 3) := by decide +kernel
theorem dX7_advance_125 : decode cX7_advance 125 = .ok (.if_icmp .ge 35, 3) := by decide +kernel
theorem dX7_advance_128 : decode cX7_advance 128 = .ok (.aload_n 0, 1) := by decide +kernel
theorem dX7_advance_129 : decode cX7_advance 129 = .ok (.getfield 31, 3) := by decide +kernel
theorem dX7_advance_132 : decode cX7_advance 132 = .ok (.aload_n 0, 1) := by decide +kernel
theorem dX7_advance_133 : decode cX7_advance 133 = .ok (.getfield 28, 3) := by decide +kernel
theorem dX7_advance_136 : decode cX7_advance 136 = .ok (.iaload, 1) := by decide +kernel
theorem dX7_advance_137 : decode cX7_advance 137 = .ok (.invokestatic 102, 3) := by decide +kernel
theorem dX7_advance_140 : decode cX7_advance 140 = .ok (.aload_n 0, 1) := by decide +kernel
theorem dX7_advance_141 : decode cX7_advance 141 = .ok (.getfield 22, 3) := by decide +kernel
theorem dX7_advance_144 : decode cX7_advance 144 = .ok (.if_icmp .ne 16, 3) := by decide +kernel
theorem dX7_advance_147 : decode cX7_advance 147 = .ok (.aload_n 0, 1) := by decide +kernel
theorem dX7_advance_148 : decode cX7_advance 148 = .ok (.dup, 1) := by decide +kernel
theorem dX7_advance_149 : decode cX7_advance 149 = .ok (.getfield 28, 3) := by decide +kernel
theorem dX7_advance_152 : decode cX7_advance 152 = .ok (.iconst 1, 1) := by decide +kernel
theorem dX7_advance_153 : decode cX7_advance 153 = .ok (.iadd, 1) := by decide +kernel
theorem dX7_advance_154 : decode cX7_advance 154 = .ok (.putfield 28, 3) := by decide +kernel
theorem dX7_advance_157 : decode cX7_advance 157 = .ok (.goto (-40), 3) := by decide +kernel
theorem dX7_advance_160 : decode cX7_advance 160 = .ok (.return_, 1) := by decide +kernel
set_option maxRecDepth 20000 in
theorem ggX7_kindOf_X8_between : GoodIn wsX7_kindOf wsX8_between := goodIn_r _ [3] (by decide +kernel) (by decide +kernel)
set_option maxRecDepth 20000 in
theorem gX7_kindOf_X8_between_n106 : GoodIn wsX7_kindOf (wsX8_between) := ggX7_kindOf_X8_between
theorem dX7_kindOf_0 : decode cX7_kindOf 0 = .ok (.iload_n 0, 1) := by decide +kernel
theorem dX7_kindOf_1 : decode cX7_kindOf 1 = .ok (.bipush 97, 2) := by decide +kernel
theorem dX7_kindOf_3 : decode cX7_kindOf 3 = .ok (.bipush 122, 2) := by decide +kernel
theorem dX7_kindOf_5 : decode cX7_kindOf 5 = .ok (.invokestatic 106, 3) := by decide +kernel
theorem dX7_kindOf_8 : decode cX7_kindOf 8 = .ok (.ifCond .eq 5, 3) := by decide +kernel
theorem dX7_kindOf_11 : decode cX7_kindOf 11 = .ok (.iconst 1, 1) := by decide +kernel
theorem dX7_kindOf_12 : decode cX7_kindOf 12 = .ok (.ireturn, 1) := by decide +kernel
theorem dX7_kindOf_13 : decode cX7_kindOf 13 = .ok (.iload_n 0, 1) := by decide +kernel
theorem dX7_kindOf_14 : decode cX7_kindOf 14 = .ok (.bipush 48, 2) := by decide +kernel
theorem dX7_kindOf_16 : decode cX7_kindOf 16 = .ok (.bipush 57, 2) := by decide +kernel
theorem dX7_kindOf_18 : decode cX7_kindOf 18 = .ok (.invokestatic 106, 3) := by decide +kernel
theorem dX7_kindOf_21 : decode cX7_kindOf 21 = .ok (.ifCond .eq 5, 3) := by decide +kernel
theorem dX7_kindOf_24 : decode cX7_kindOf 24 = .ok (.iconst 2, 1) := by decide +kernel
theorem dX7_kindOf_25 : decode cX7_kindOf 25 = .ok (.ireturn, 1) := by decide +kernel
theorem dX7_kindOf_26 : decode cX7_kindOf 26 = .ok (.iload_n 0, 1) := by decide +kernel
theorem dX7_kindOf_27 : decode cX7_kindOf 27 = .ok (.bipush 45, 2) := by decide +kernel
theorem dX7_kindOf_29 : decode cX7_kindOf 29 = .ok (.if_icmp .ne 5, 3) := by decide +kernel
theorem dX7_kindOf_32 : decode cX7_kindOf 32 = .ok (.iconst 3, 1) := by decide +kernel
theorem dX7_kindOf_33 : decode cX7_kindOf 33 = .ok (.ireturn, 1) := by decide +kernel
theorem dX7_kindOf_34 : decode cX7_kindOf 34 = .ok (.iload_n 0, 1) := by decide +kernel
theorem dX7_kindOf_35 : decode cX7_kindOf 35 = .ok (.bipush 59, 2) := by decide +kernel
theorem dX7_kindOf_37 : decode cX7_kindOf 37 = .ok (.if_icmp .ne 7, 3) := by decide +kernel
theorem dX7_kindOf_40 : decode cX7_kindOf 40 = .ok (.iconst 4, 1) := by decide +kernel
theorem dX7_kindOf_41 : decode cX7_kindOf 41 = .ok (.goto 4, 3) := by decide +kernel
theorem dX7_kindOf_44 : decode cX7_kindOf 44 = .ok (.iconst 5, 1) := by decide +kernel
theorem dX7_kindOf_45 : decode cX7_kindOf 45 = .ok (.ireturn, 1) := by decide +kernel
set_option maxRecDepth 20000 in
theorem ggX7_isWord_J0_length_8abf5 : GoodIn wsX7_isWord wsJ0_length_8abf5 := goodIn_r _ [9, 10, 11, 12, 13, 8, 14, 15, 16] (by decide +kernel) (by decide +kernel)
set_option maxRecDepth 20000 in
theorem gX7_isWord_J0_length_8abf5 : GoodIn wsX7_isWord (wsV RX7 110 RJ0 yJ0_length_8abf5 wsJ0_length_8abf5) := goodIn_app (goodIn_of _ (by decide +kernel)) ggX7_isWord_J0_length_8abf5
set_option maxRecDepth 20000 in
theorem ggX7_isWord_J0_charAt_5068e : GoodIn wsX7_isWord wsJ0_charAt_5068e := goodIn_r _ [20, 10, 21, 22, 23, 8, 24, 15, 16, 25, 26, 27, 28, 29, 30, 31, 32, 33, 34, 35, 36, 37, 38, 39, 40, 41, 42, 43, 44, 45, 46, 47, 48, 49, 50, 51, 52, 53] (by decide +kernel) (by decide +kernel)
set_option maxRecDepth 20000 in
theorem gX7_isWord_J0_charAt_5068e : GoodIn wsX7_isWord (wsV RX7 114 RJ0 yJ0_charAt_5068e wsJ0_charAt_5068e) := goodIn_app (goodIn_of _ (by decide +kernel)) ggX7_isWord_J0_charAt_5068e
theorem dX7_isWord_0 : decode cX7_isWord 0 = .ok (.aload_n 0, 1) := by decide +kernel
theorem dX7_isWord_1 : decode cX7_isWord 1 = .ok (.getfield 22, 3) := by decide +kernel
theorem dX7_isWord_4 : decode cX7_isWord 4 = .ok (.iconst 1, 1) := by decide +kernel
theorem dX7_isWord_5 : decode cX7_isWord 5 = .ok (.if_icmp .ne 19, 3) := by decide +kernel
theorem dX7_isWord_8 : decode cX7_isWord 8 = .ok (.aload_n 0, 1) := by decide +kernel
theorem dX7_isWord_9 : decode cX7_isWord 9 = .ok (.getfield 28, 3) := by decide +kernel
theorem dX7_isWord_12 : decode cX7_isWord 12 = .ok (.aload_n 0, 1) := by decide +kernel
theorem dX7_isWord_13 : decode cX7_isWord 13 = .ok (.getfield 25, 3) := by decide +kernel
theorem dX7_isWord_16 : decode cX7_isWord 16 = .ok (.isub, 1) := by decide +kernel
theorem dX7_isWord_17 : decode cX7_isWord 17 = .ok (.aload_n 1, 1) := by decide +kernel
theorem dX7_isWord_18 : decode cX7_isWord 18 = .ok (.invokevirtual 110, 3) := by decide +kernel
theorem dX7_isWord_21 : decode cX7_isWord 21 = .ok (.if_icmp .eq 5, 3) := by decide +kernel
theorem dX7_isWord_24 : decode cX7_isWord 24 = .ok (.iconst 0, 1) := by decide +kernel
theorem dX7_isWord_25 : decode cX7_isWord 25 = .ok (.ireturn, 1) := by decide +kernel
theorem dX7_isWord_26 : decode cX7_isWord 26 = .ok (.iconst 0, 1) := by decide +kernel
theorem dX7_isWord_27 : decode cX7_isWord 27 = .ok (.istore_n 2, 1) := by decide +kernel
theorem dX7_isWord_28 : decode cX7_isWord 28 = .ok (.iload_n 2, 1) := by decide +kernel
theorem dX7_isWord_29 : decode cX7_isWord 29 = .ok (.aload_n 1, 1) := by decide +kernel
theorem dX7_isWord_30 : decode cX7_isWord 30 = .ok (.invokevirtual 110, 3) := by decide +kernel
theorem dX7_isWord_33 : decode cX7_isWord 33 = .ok (.if_icmp .ge 30, 3) := by decide +kernel
theorem dX7_isWord_36 : decode cX7_isWord 36 = .ok (.aload_n 0, 1) := by decide +kernel
theorem dX7_isWord_37 : decode cX7_isWord 37 = .ok (.getfield 31, 3) := by decide +kernel
theorem dX7_isWord_40 : decode cX7_isWord 40 = .ok (.aload_n 0, 1) := by decide +kernel
theorem dX7_isWord_41 : decode cX7_isWord 41 = .ok (.getfield 25, 3) := by decide +kernel
theorem dX7_isWord_44 : decode cX7_isWord 44 = .ok (.iload_n 2, 1) := by decide +kernel
theorem dX7_isWord_45 : decode cX7_isWord 45 = .ok (.iadd, 1) := by decide +kernel
theorem dX7_isWord_46 : decode cX7_isWord 46 = .ok (.iaload, 1) := by decide +kernel
theorem dX7_isWord_47 : decode cX7_isWord 47 = .ok (.aload_n 1, 1) := by decide +kernel
theorem dX7_isWord_48 : decode cX7_isWord 48 = .ok (.iload_n 2, 1) := by decide +kernel
theorem dX7_isWord_49 : decode cX7_isWord 49 = .ok (.invokevirtual 114, 3) := by decide +kernel
theorem dX7_isWord_52 : decode cX7_isWord 52 = .ok (.if_icmp .eq 5, 3) := by decide +kernel
theorem dX7_isWord_55 : decode cX7_isWord 55 = .ok (.iconst 0, 1) := by decide +kernel
theorem dX7_isWord_56 : decode cX7_isWord 56 = .ok (.ireturn, 1) := by decide +kernel
theorem dX7_isWord_57 : decode cX7_isWord 57 = .ok (.iinc 2 1, 3) := by decide +kernel
theorem dX7_isWord_60 : decode cX7_isWord 60 = .ok (.goto (-32), 3) := by decide +kernel
theorem dX7_isWord_63 : decode cX7_isWord 63 = .ok (.iconst 1, 1) := by decide +kernel
theorem dX7_isWord_64 : decode cX7_isWord 64 = .ok (.ireturn, 1) := by decide +kernel
set_option maxRecDepth 20000 in
theorem ggX7_isNumber_X7_number : GoodIn wsX7_isNumber wsX7_number := goodIn_r _ [8, 3, 2, 9, 13, 14, 15, 16, 17, 18] (by decide +kernel) (by decide +kernel)
set_option maxRecDepth 20000 in
theorem gX7_isNumber_X7_number : GoodIn wsX7_isNumber (wsV RX7 61 RX7 yX7_number wsX7_number) := goodIn_app (goodIn_of _ (by decide +kernel)) ggX7_isNumber_X7_number
set_option maxRecDepth 20000 in
theorem ggX7_isNumber_X8_between : GoodIn wsX7_isNumber wsX8_between := goodIn_r _ [12] (by decide +kernel) (by decide +kernel)
set_option maxRecDepth 20000 in
theorem gX7_isNumber_X8_between_n106 : GoodIn wsX7_isNumber (wsX8_between) := ggX7_isNumber_X8_between
theorem dX7_isNumber_0 : decode cX7_isNumber 0 = .ok (.aload_n 0, 1) := by decide +kernel
theorem dX7_isNumber_1 : decode cX7_isNumber 1 = .ok (.getfield 22, 3) := by decide +kernel
theorem dX7_isNumber_4 : decode cX7_isNumber 4 = .ok (.iconst 2, 1) := by decide +kernel
theorem dX7_isNumber_5 : decode cX7_isNumber 5 = .ok (.if_icmp .ne 32, 3) := by decide +kernel
theorem dX7_isNumber_8 : decode cX7_isNumber 8 = .ok (.aload_n 0, 1) := by decide +kernel
theorem dX7_isNumber_9 : decode cX7_isNumber 9 = .ok (.getfield 28, 3) := by decide +kernel
theorem dX7_isNumber_12 : decode cX7_isNumber 12 = .ok (.aload_n 0, 1) := by decide +kernel
theorem dX7_isNumber_13 : decode cX7_isNumber 13 = .ok (.getfield 25, 3) := by decide +kernel
theorem dX7_isNumber_16 : decode cX7_isNumber 16 = .ok (.isub, 1) := by decide +kernel
theorem dX7_isNumber_17 : decode cX7_isNumber 17 = .ok (.iconst 2, 1) := by decide +kernel
theorem dX7_isNumber_18 : decode cX7_isNumber 18 = .ok (.if_icmp .gt 19, 3) := by decide +kernel
theorem dX7_isNumber_21 : decode cX7_isNumber 21 = .ok (.aload_n 0, 1) := by decide +kernel
theorem dX7_isNumber_22 : decode cX7_isNumber 22 = .ok (.invokevirtual 61, 3) := by decide +kernel
theorem dX7_isNumber_25 : decode cX7_isNumber 25 = .ok (.iload_n 1, 1) := by decide +kernel
theorem dX7_isNumber_26 : decode cX7_isNumber 26 = .ok (.iload_n 2, 1) := by decide +kernel
theorem dX7_isNumber_27 : decode cX7_isNumber 27 = .ok (.invokestatic 106, 3) := by decide +kernel
theorem dX7_isNumber_30 : decode cX7_isNumber 30 = .ok (.ifCond .eq 7, 3) := by decide +kernel
theorem dX7_isNumber_33 : decode cX7_isNumber 33 = .ok (.iconst 1, 1) := by decide +kernel
theorem dX7_isNumber_34 : decode cX7_isNumber 34 = .ok (.goto 4, 3) := by decide +kernel
theorem dX7_isNumber_37 : decode cX7_isNumber 37 = .ok (.iconst 0, 1) := by decide +kernel
theorem dX7_isNumber_38 : decode cX7_isNumber 38 = .ok (.ireturn, 1) := by decide +kernel
theorem dX7_number_0 : decode cX7_number 0 = .ok (.iconst 0, 1) := by decide +kernel
theorem dX7_number_1 : decode cX7_number 1 = .ok (.istore_n 1, 1) := by decide +kernel
theorem dX7_number_2 : decode cX7_number 2 = .ok (.aload_n 0, 1) := by decide +kernel
theorem dX7_number_3 : decode cX7_number 3 = .ok (.getfield 25, 3) := by decide +kernel
theorem dX7_number_6 : decode cX7_number 6 = .ok (.istore_n 2, 1) := by decide +kernel
theorem dX7_number_7 : decode cX7_number 7 = .ok (.iload_n 2, 1) := by decide +kernel
theorem dX7_number_8 : decode cX7_number 8 = .ok (.aload_n 0, 1) := by decide +kernel
theorem dX7_number_9 : decode cX7_number 9 = .ok (.getfield 28, 3) := by decide +kernel
theorem dX7_number_12 : decode cX7_number 12 = .ok (.if_icmp .ge 24, 3) := by decide +kernel
theorem dX7_number_15 : decode cX7_number 15 = .ok (.iload_n 1, 1) := by decide +kernel
theorem dX7_number_16 : decode cX7_number 16 = .ok (.bipush 10, 2) := by decide +kernel
theorem dX7_number_18 : decode cX7_number 18 = .ok (.imul, 1) := by decide +kernel
theorem dX7_number_19 : decode cX7_number 19 = .ok (.aload_n 0, 1) := by decide +kernel
theorem dX7_number_20 : decode cX7_number 20 = .ok (.getfield 31, 3) := by decide +kernel
theorem dX7_number_23 : decode cX7_number 23 = .ok (.iload_n 2, 1) := by decide +kernel
theorem dX7_number_24 : decode cX7_number 24 = .ok (.iaload, 1) := by decide +kernel
theorem dX7_number_25 : decode cX7_number 25 = .ok (.iadd, 1) := by decide +kernel
theorem dX7_number_26 : decode cX7_number 26 = .ok (.bipush 48, 2) := by decide +kernel
theorem dX7_number_28 : decode cX7_number 28 = .ok (.isub, 1) := by decide +kernel
theorem dX7_number_29 : decode cX7_number 29 = .ok (.istore_n 1, 1) := by decide +kernel
theorem dX7_number_30 : decode cX7_number 30 = .ok (.iinc 2 1, 3) := by decide +kernel
theorem dX7_number_33 : decode cX7_number 33 = .ok (.goto (-26), 3) := by decide +kernel
theorem dX7_number_36 : decode cX7_number 36 = .ok (.iload_n 1, 1) := by decide +kernel
theorem dX7_number_37 : decode cX7_number 37 = .ok (.ireturn, 1) := by decide +kernel
theorem dX7_letters_0 : decode cX7_letters 0 = .ok (.aload_n 0, 1) := by decide +kernel
theorem dX7_letters_1 : decode cX7_letters 1 = .ok (.getfield 22, 3) := by decide +kernel
theorem dX7_letters_4 : decode cX7_letters 4 = .ok (.iconst 3, 1) := by decide +kernel
theorem dX7_letters_5 : decode cX7_letters 5 = .ok (.if_icmp .ne 5, 3) := by decide +kernel
theorem dX7_letters_8 : decode cX7_letters 8 = .ok (.iconst 0, 1) := by decide +kernel
theorem dX7_letters_9 : decode cX7_letters 9 = .ok (.ireturn, 1) := by decide +kernel
theorem dX7_letters_10 : decode cX7_letters 10 = .ok (.aload_n 0, 1) := by decide +kernel
theorem dX7_letters_11 : decode cX7_letters 11 = .ok (.getfield 22, 3) := by decide +kernel
theorem dX7_letters_14 : decode cX7_letters 14 = .ok (.iconst 1, 1) := by decide +kernel
theorem dX7_letters_15 : decode cX7_letters 15 = .ok (.if_icmp .eq 5, 3) := by decide +kernel
theorem dX7_letters_18 : decode cX7_letters 18 = .ok (.iconst (-1), 1) := by decide +kernel
theorem dX7_letters_19 : decode cX7_letters 19 = .ok (.ireturn, 1) := by decide +kernel
theorem dX7_letters_20 : decode cX7_letters 20 = .ok (.iconst 0, 1) := by decide +kernel
theorem dX7_letters_21 : decode cX7_letters 21 = .ok (.istore_n 1, 1) := by decide +kernel
theorem dX7_letters_22 : decode cX7_letters 22 = .ok (.iconst (-1), 1) := by decide +kernel
theorem dX7_letters_23 : decode cX7_letters 23 = .ok (.istore_n 2, 1) := by decide +kernel
theorem dX7_letters_24 : decode cX7_letters 24 = .ok (.aload_n 0, 1) := by decide +kernel
theorem dX7_letters_25 : decode cX7_letters 25 = .ok (.getfield 25, 3) := by decide +kernel
theorem dX7_letters_28 : decode cX7_letters 28 = .ok (.istore_n 3, 1) := by decide +kernel
theorem dX7_letters_29 : decode cX7_letters 29 = .ok (.iload_n 3, 1) := by decide +kernel
theorem dX7_letters_30 : decode cX7_letters 30 = .ok (.aload_n 0, 1) := by decide +kernel
theorem dX7_letters_31 : decode cX7_letters 31 = .ok (.getfield 28, 3) := by decide +kernel
theorem dX7_letters_34 : decode cX7_letters 34 = .ok (.if_icmp .ge 50, 3) := by decide +kernel
theorem dX7_letters_37 : decode cX7_letters 37 = .ok (.aload_n 0, 1) := by decide +kernel
theorem dX7_letters_38 : decode cX7_letters 38 = .ok (.getfield 31, 3) := by decide +kernel
theorem dX7_letters_41 : decode cX7_letters 41 = .ok (.iload_n 3, 1) := by decide +kernel
theorem dX7_letters_42 : decode cX7_letters 42 = .ok (.iaload, 1) := by decide +kernel
theorem dX7_letters_43 : decode cX7_letters 43 = .ok (.bipush 97, 2) := by decide +kernel
theorem dX7_letters_45 : decode cX7_letters 45 = .ok (.isub, 1) := by decide +kernel
theorem dX7_letters_46 : decode cX7_letters 46 = .ok (.istore 4, 2) := by decide +kernel
theorem dX7_letters_48 : decode cX7_letters 48 = .ok (.iload 4, 2) := by decide +kernel
theorem dX7_letters_50 : decode cX7_letters 50 = .ok (.iload_n 2, 1) := by decide +kernel
theorem dX7_letters_51 : decode cX7_letters 51 = .ok (.if_icmp .le 15, 3) := by decide +kernel
theorem dX7_letters_54 : decode cX7_letters 54 = .ok (.iload 4, 2) := by decide +kernel
theorem dX7_letters_56 : decode cX7_letters 56 = .ok (.aload_n 0, 1) := by decide +kernel
theorem dX7_letters_57 : decode cX7_letters 57 = .ok (.getfield 12, 3) := by decide +kernel
theorem dX7_letters_60 : decode cX7_letters 60 = .ok (.getfield 118, 3) := by decide +kernel
theorem dX7_letters_63 : decode cX7_letters 63 = .ok (.if_icmp .lt 5, 3) := by decide +kernel
theorem dX7_letters_66 : decode cX7_letters 66 = .ok (.iconst (-1), 1) := by decide +kernel
theorem dX7_letters_67 : decode cX7_letters 67 = .ok (.ireturn, 1) := by decide +kernel
theorem dX7_letters_68 : decode cX7_letters 68 = .ok (.iload_n 1, 1) := by decide +kernel
theorem dX7_letters_69 : decode cX7_letters 69 = .ok (.iconst 1, 1) := by decide +kernel
theorem dX7_letters_70 : decode cX7_letters 70 = .ok (.iload 4, 2) := by decide +kernel
theorem dX7_letters_72 : decode cX7_letters 72 = .ok (.ishl, 1) := by decide +kernel
theorem dX7_letters_73 : decode cX7_letters 73 = .ok (.ior, 1) := by decide +kernel
theorem dX7_letters_74 : decode cX7_letters 74 = .ok (.istore_n 1, 1) := by decide +kernel
theorem dX7_letters_75 : decode cX7_letters 75 = .ok (.iload 4, 2) := by decide +kernel
theorem dX7_letters_77 : decode cX7_letters 77 = .ok (.istore_n 2, 1) := by decide +kernel
theorem dX7_letters_78 : decode cX7_letters 78 = .ok (.iinc 3 1, 3) := by decide +kernel
theorem dX7_letters_81 : decode cX7_letters 81 = .ok (.goto (-52), 3) := by decide +kernel
theorem dX7_letters_84 : decode cX7_letters 84 = .ok (.iload_n 1, 1) := by decide +kernel
theorem dX7_letters_85 : decode cX7_letters 85 = .ok (.ireturn, 1) := by decide +kernel
set_option maxRecDepth 20000 in
theorem ggX8_init_X6_init : GoodIn wsX8_init wsX6_init := goodIn_r _ [45, 46, 2, 3, 47, 48, 49, 50, 8, 51, 52, 119, 120, 121, 122, 123, 124] (by decide +kernel) (by decide +kernel)
set_option maxRecDepth 20000 in
theorem gX8_init_X6_init : GoodIn wsX8_init (wsX6_init) := ggX8_init_X6_init
set_option maxRecDepth 20000 in
theorem ggX8_init_X0_init : GoodIn wsX8_init wsX0_init := goodIn_r _ [55, 56, 2, 3, 57, 58, 142, 143] (by decide +kernel) (by decide +kernel)
set_option maxRecDepth 20000 in
theorem gX8_init_X0_init : GoodIn wsX8_init (wsX0_init) := ggX8_init_X0_init
set_option maxRecDepth 20000 in
theorem ggX8_init_X7_init : GoodIn wsX8_init wsX7_init := goodIn_r _ [61, 62, 2, 3, 63, 5, 6, 64, 65, 66, 67, 68, 69, 70, 44, 45, 46, 47, 48, 49, 50, 8, 51, 52, 119, 120, 121, 122, 123, 124, 144, 145, 146, 147, 148, 149] (by decide +kernel) (by decide +kernel)
set_option maxRecDepth 20000 in
theorem gX8_init_X7_init : GoodIn wsX8_init (wsX7_init) := ggX8_init_X7_init
set_option maxRecDepth 20000 in
theorem ggX8_init_X3_init : GoodIn wsX8_init wsX3_init := goodIn_r _ [73, 74, 2, 3, 75, 76, 77, 78, 79, 8, 80, 81, 82, 150, 151, 152, 153, 154, 155, 156, 157] (by decide +kernel) (by decide +kernel)
set_option maxRecDepth 20000 in
theorem gX8_init_X3_init : GoodIn wsX8_init (wsX3_init) := ggX8_init_X3_init
set_option maxRecDepth 20000 in
theorem ggX8_init_X2_init : GoodIn wsX8_init wsX2_init := goodIn_r _ [85, 86, 2, 3, 8, 87, 88, 89, 90, 158, 159, 160, 161] (by decide +kernel) (by decide +kernel)
set_option maxRecDepth 20000 in
theorem gX8_init_X2_init : GoodIn wsX8_init (wsX2_init) := ggX8_init_X2_init
set_option maxRecDepth 20000 in
theorem ggX8_init_X4_init : GoodIn wsX8_init wsX4_init := goodIn_r _ [93, 94, 2, 3, 95, 96, 97, 98, 99, 162, 163, 164, 165, 166] (by decide +kernel) (by decide +kernel)
set_option maxRecDepth 20000 in
theorem gX8_init_X4_init : GoodIn wsX8_init (wsX4_init) := ggX8_init_X4_init
set_option maxRecDepth 20000 in
theorem ggX8_init_X5_init : GoodIn wsX8_init wsX5_init := goodIn_r _ [102, 103, 2, 3, 39, 104, 105, 8, 106, 107, 108, 109, 167, 168, 169, 170, 171, 172] (by decide +kernel) (by decide +kernel)
set_option maxRecDepth 20000 in
theorem gX8_init_X5_init : GoodIn wsX8_init (wsX5_init) := ggX8_init_X5_init
set_option maxRecDepth 20000 in
theorem ggX8_init_X1_init : GoodIn wsX8_init wsX1_init := goodIn_r _ [112, 113, 2, 3, 114, 115, 5, 6, 116, 8, 117, 118, 44, 45, 46, 47, 48, 49, 50, 51, 52, 173, 174, 175, 119, 120, 121, 122, 123, 124] (by decide +kernel) (by decide +kernel)
set_option maxRecDepth 20000 in
theorem gX8_init_X1_init : GoodIn wsX8_init (wsX1_init) := ggX8_init_X1_init
