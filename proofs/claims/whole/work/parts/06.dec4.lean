theorem dX8_game_42 : decode cX8_game 42 = .ok (.aload_n 0, 1) := by decide +kernel
theorem dX8_game_43 : decode cX8_game 43 = .ok (.getfield 71, 3) := by decide +kernel
theorem dX8_game_46 : decode cX8_game 46 = .ok (.invokevirtual 219, 3) := by decide +kernel
theorem dX8_game_49 : decode cX8_game 49 = .ok (.istore_n 3, 1) := by decide +kernel
theorem dX8_game_50 : decode cX8_game 50 = .ok (.iload_n 2, 1) := by decide +kernel
theorem dX8_game_51 : decode cX8_game 51 = .ok (.iconst 1, 1) := by decide +kernel
theorem dX8_game_52 : decode cX8_game 52 = .ok (.if_icmp .ne 5, 3) := by decide +kernel
theorem dX8_game_55 : decode cX8_game 55 = .ok (.iload_n 3, 1) := by decide +kernel
theorem dX8_game_56 : decode cX8_game 56 = .ok (.ireturn, 1) := by decide +kernel
theorem dX8_game_57 : decode cX8_game 57 = .ok (.iload_n 3, 1) := by decide +kernel
theorem dX8_game_58 : decode cX8_game 58 = .ok (.iconst (-1), 1) := by decide +kernel
theorem dX8_game_59 : decode cX8_game 59 = .ok (.if_icmp .ne 7, 3) := by decide +kernel
theorem dX8_game_62 : decode cX8_game 62 = .ok (.iconst 0, 1) := by decide +kernel
theorem dX8_game_63 : decode cX8_game 63 = .ok (.goto 4, 3) := by decide +kernel
theorem dX8_game_66 : decode cX8_game 66 = .ok (.iconst 1, 1) := by decide +kernel
theorem dX8_game_67 : decode cX8_game 67 = .ok (.ireturn, 1) := by decide +kernel
set_option maxRecDepth 20000 in
theorem ggX8_chance_X8_isLaw : GoodIn wsX8_chance wsX8_isLaw := goodIn_r _ [7, 8, 9, 6, 10] (by decide +kernel) (by decide +kernel)
set_option maxRecDepth 20000 in
theorem gX8_chance_X8_isLaw : GoodIn wsX8_chance (va_wsS RX8 136 yX8_isLaw wsX8_isLaw) := goodIn_app (goodIn_of _ (by decide +kernel)) ggX8_chance_X8_isLaw
set_option maxRecDepth 20000 in
theorem ggX8_chance_X8_refuse : GoodIn wsX8_chance wsX8_refuse := goodIn_r _ [14, 15, 16, 17, 139, 140, 141, 142, 143, 144, 145, 146, 147, 148, 149, 150, 151, 152, 153, 154, 155] (by decide +kernel) (by decide +kernel)
set_option maxRecDepth 20000 in
theorem gX8_chance_X8_refuse : GoodIn wsX8_chance (wsV RX8 90 RX8 yX8_refuse wsX8_refuse) := goodIn_app (goodIn_of _ (by decide +kernel)) ggX8_chance_X8_refuse
set_option maxRecDepth 20000 in
theorem ggX8_chance_X8_beginGame : GoodIn wsX8_chance wsX8_beginGame := goodIn_r _ [21, 22, 23, 24, 25, 1, 26, 27, 28, 6, 29, 30, 31, 32, 33, 34, 35, 36, 37, 38, 39, 40, 41, 42, 43, 44, 45, 46, 47, 48, 49, 50, 51, 52, 53, 54, 55, 56, 57, 58, 59, 60, 61, 62, 63, 64, 65, 9, 10, 66, 67, 68, 69, 70, 71, 72, 73, 74, 75, 76, 77, 78, 79, 80, 81, 82, 83, 84, 85, 86, 87, 88, 89, 90, 91, 92, 93, 94, 95, 96, 97, 98, 99, 100, 101, 139, 140, 141, 142, 143, 144, 145, 146, 147, 148, 149, 150, 151, 152, 153, 154, 155, 156, 157, 158, 159, 160, 161, 162, 163, 164, 165, 166, 167, 168, 169, 170, 171, 172, 173, 174, 175] (by decide +kernel) (by decide +kernel)
set_option maxRecDepth 20000 in
theorem gX8_chance_X8_beginGame : GoodIn wsX8_chance (wsV RX8 216 RX8 yX8_beginGame wsX8_beginGame) := goodIn_app (goodIn_of _ (by decide +kernel)) ggX8_chance_X8_beginGame
set_option maxRecDepth 20000 in
theorem ggX8_chance_X5_comers : GoodIn wsX8_chance wsX5_comers := goodIn_r _ [105, 86, 85, 87, 106, 93, 94, 37, 95, 46, 170, 171, 172, 173, 174, 175, 162, 163, 164, 165, 166, 167, 168, 169] (by decide +kernel) (by decide +kernel)
set_option maxRecDepth 20000 in
theorem gX8_chance_X5_comers : GoodIn wsX8_chance (wsV RX8 222 RX5 yX5_comers wsX5_comers) := goodIn_app (goodIn_of _ (by decide +kernel)) ggX8_chance_X5_comers
set_option maxRecDepth 20000 in
theorem ggX8_chance_J6_bitCount_0f7a4 : GoodIn wsX8_chance wsJ6_bitCount_0f7a4 := goodIn_r _ [62, 63, 64, 65] (by decide +kernel) (by decide +kernel)
set_option maxRecDepth 20000 in
theorem gX8_chance_J6_bitCount_0f7a4 : GoodIn wsX8_chance (va_wsS RX8 151 yJ6_bitCount_0f7a4 wsJ6_bitCount_0f7a4) := goodIn_app (goodIn_of _ (by decide +kernel)) ggX8_chance_J6_bitCount_0f7a4
set_option maxRecDepth 20000 in
theorem ggX8_chance_X5_winningParts : GoodIn wsX8_chance wsX5_winningParts := goodIn_r _ [111, 112, 85, 87, 113, 114, 115, 116, 117, 118, 119, 83, 120, 86, 121, 122, 123, 124, 125, 126, 127, 103, 104, 105, 106, 93, 94, 37, 95, 46, 96, 6, 97, 128, 99, 100, 101, 53, 54, 170, 171, 172, 173, 174, 175, 162, 163, 164, 165, 166, 167, 168, 169] (by decide +kernel) (by decide +kernel)
set_option maxRecDepth 20000 in
theorem gX8_chance_X5_winningParts : GoodIn wsX8_chance (wsV RX8 225 RX5 yX5_winningParts wsX5_winningParts) := goodIn_app (goodIn_of _ (by decide +kernel)) ggX8_chance_X5_winningParts
set_option maxRecDepth 20000 in
theorem ggX8_chance_X0_put : GoodIn wsX8_chance wsX0_put := goodIn_r _ [133, 134, 135, 136, 137, 132, 138, 176, 177] (by decide +kernel) (by decide +kernel)
set_option maxRecDepth 20000 in
theorem gX8_chance_X0_put : GoodIn wsX8_chance (wsV RX8 148 RX0 yX0_put wsX0_put) := goodIn_app (goodIn_of _ (by decide +kernel)) ggX8_chance_X0_put
theorem dX8_chance_0 : decode cX8_chance 0 = .ok (.iload_n 1, 1) := by decide +kernel
theorem dX8_chance_1 : decode cX8_chance 1 = .ok (.invokestatic 136, 3) := by decide +kernel
theorem dX8_chance_4 : decode cX8_chance 4 = .ok (.ifCond .ne 12, 3) := by decide +kernel
theorem dX8_chance_7 : decode cX8_chance 7 = .ok (.aload_n 0, 1) := by decide +kernel
theorem dX8_chance_8 : decode cX8_chance 8 = .ok (.bipush (-2), 2) := by decide +kernel
theorem dX8_chance_10 : decode cX8_chance 10 = .ok (.bipush (-2), 2) := by decide +kernel
theorem dX8_chance_12 : decode cX8_chance 12 = .ok (.invokevirtual 90, 3) := by decide +kernel
theorem dX8_chance_15 : decode cX8_chance 15 = .ok (.ireturn, 1) := by decide +kernel
theorem dX8_chance_16 : decode cX8_chance 16 = .ok (.aload_n 0, 1) := by decide +kernel
theorem dX8_chance_17 : decode cX8_chance 17 = .ok (.iload_n 1, 1) := by decide +kernel
theorem dX8_chance_18 : decode cX8_chance 18 = .ok (.invokevirtual 216, 3) := by decide +kernel
theorem dX8_chance_21 : decode cX8_chance 21 = .ok (.ifCond .eq 18, 3) := by decide +kernel
theorem dX8_chance_24 : decode cX8_chance 24 = .ok (.aload_n 0, 1) := by decide +kernel
theorem dX8_chance_25 : decode cX8_chance 25 = .ok (.getfield 71, 3) := by decide +kernel
theorem dX8_chance_28 : decode cX8_chance 28 = .ok (.invokevirtual 222, 3) := by decide +kernel
theorem dX8_chance_31 : decode cX8_chance 31 = .ok (.invokestatic 151, 3) := by decide +kernel
theorem dX8_chance_34 : decode cX8_chance 34 = .ok (.bipush 8, 2) := by decide +kernel
theorem dX8_chance_36 : decode cX8_chance 36 = .ok (.if_icmp .le 12, 3) := by decide +kernel
theorem dX8_chance_39 : decode cX8_chance 39 = .ok (.aload_n 0, 1) := by decide +kernel
theorem dX8_chance_40 : decode cX8_chance 40 = .ok (.bipush (-3), 2) := by decide +kernel
theorem dX8_chance_42 : decode cX8_chance 42 = .ok (.bipush (-3), 2) := by decide +kernel
theorem dX8_chance_44 : decode cX8_chance 44 = .ok (.invokevirtual 90, 3) := by decide +kernel
theorem dX8_chance_47 : decode cX8_chance 47 = .ok (.ireturn, 1) := by decide +kernel
theorem dX8_chance_48 : decode cX8_chance 48 = .ok (.aload_n 0, 1) := by decide +kernel
theorem dX8_chance_49 : decode cX8_chance 49 = .ok (.getfield 32, 3) := by decide +kernel
theorem dX8_chance_52 : decode cX8_chance 52 = .ok (.aload_n 0, 1) := by decide +kernel
theorem dX8_chance_53 : decode cX8_chance 53 = .ok (.getfield 71, 3) := by decide +kernel
theorem dX8_chance_56 : decode cX8_chance 56 = .ok (.invokevirtual 225, 3) := by decide +kernel
theorem dX8_chance_59 : decode cX8_chance 59 = .ok (.i2l, 1) := by decide +kernel
theorem dX8_chance_60 : decode cX8_chance 60 = .ok (.ldc2_w 228, 3) := by decide +kernel
theorem dX8_chance_63 : decode cX8_chance 63 = .ok (.invokevirtual 148, 3) := by decide +kernel
theorem dX8_chance_66 : decode cX8_chance 66 = .ok (.iconst 1, 1) := by decide +kernel
theorem dX8_chance_67 : decode cX8_chance 67 = .ok (.ireturn, 1) := by decide +kernel
set_option maxRecDepth 20000 in
theorem ggX8_greatest_X8_between : GoodIn wsX8_greatest wsX8_between := goodIn_r _ [4] (by decide +kernel) (by decide +kernel)
set_option maxRecDepth 20000 in
theorem gX8_greatest_X8_between : GoodIn wsX8_greatest (va_wsS RX8 86 yX8_between wsX8_between) := goodIn_app (goodIn_of _ (by decide +kernel)) ggX8_greatest_X8_between
set_option maxRecDepth 20000 in
theorem ggX8_greatest_X8_refuse : GoodIn wsX8_greatest wsX8_refuse := goodIn_r _ [8, 9, 10, 11, 15, 16, 17, 18, 19, 20, 21, 22, 23, 24, 25, 26, 27, 28, 29, 30, 31] (by decide +kernel) (by decide +kernel)
set_option maxRecDepth 20000 in
theorem gX8_greatest_X8_refuse : GoodIn wsX8_greatest (wsV RX8 90 RX8 yX8_refuse wsX8_refuse) := goodIn_app (goodIn_of _ (by decide +kernel)) ggX8_greatest_X8_refuse
set_option maxRecDepth 20000 in
theorem ggX8_greatest_X8_choose : GoodIn wsX8_greatest wsX8_choose := goodIn_r _ [14] (by decide +kernel) (by decide +kernel)
set_option maxRecDepth 20000 in
theorem gX8_greatest_X8_choose : GoodIn wsX8_greatest (va_wsS RX8 156 yX8_choose wsX8_choose) := goodIn_app (goodIn_of _ (by decide +kernel)) ggX8_greatest_X8_choose
theorem dX8_greatest_0 : decode cX8_greatest 0 = .ok (.iload_n 1, 1) := by decide +kernel
theorem dX8_greatest_1 : decode cX8_greatest 1 = .ok (.iconst 0, 1) := by decide +kernel
theorem dX8_greatest_2 : decode cX8_greatest 2 = .ok (.bipush 60, 2) := by decide +kernel
theorem dX8_greatest_4 : decode cX8_greatest 4 = .ok (.invokestatic 86, 3) := by decide +kernel
theorem dX8_greatest_7 : decode cX8_greatest 7 = .ok (.ifCond .ne 13, 3) := by decide +kernel
theorem dX8_greatest_10 : decode cX8_greatest 10 = .ok (.aload_n 0, 1) := by decide +kernel
theorem dX8_greatest_11 : decode cX8_greatest 11 = .ok (.bipush (-2), 2) := by decide +kernel
theorem dX8_greatest_13 : decode cX8_greatest 13 = .ok (.bipush (-2), 2) := by decide +kernel
theorem dX8_greatest_15 : decode cX8_greatest 15 = .ok (.invokevirtual 90, 3) := by decide +kernel
theorem dX8_greatest_18 : decode cX8_greatest 18 = .ok (.i2l, 1) := by decide +kernel
theorem dX8_greatest_19 : decode cX8_greatest 19 = .ok (.lreturn, 1) := by decide +kernel
theorem dX8_greatest_20 : decode cX8_greatest 20 = .ok (.iload_n 1, 1) := by decide +kernel
theorem dX8_greatest_21 : decode cX8_greatest 21 = .ok (.iload_n 1, 1) := by decide +kernel
theorem dX8_greatest_22 : decode cX8_greatest 22 = .ok (.iconst 2, 1) := by decide +kernel
theorem dX8_greatest_23 : decode cX8_greatest 23 = .ok (.idiv, 1) := by decide +kernel
theorem dX8_greatest_24 : decode cX8_greatest 24 = .ok (.invokestatic 156, 3) := by decide +kernel
theorem dX8_greatest_27 : decode cX8_greatest 27 = .ok (.lreturn, 1) := by decide +kernel
set_option maxRecDepth 20000 in
theorem ggX8_shared_X8_between : GoodIn wsX8_shared wsX8_between := goodIn_r _ [4] (by decide +kernel) (by decide +kernel)
set_option maxRecDepth 20000 in
theorem gX8_shared_X8_between : GoodIn wsX8_shared (va_wsS RX8 86 yX8_between wsX8_between) := goodIn_app (goodIn_of _ (by decide +kernel)) ggX8_shared_X8_between
set_option maxRecDepth 20000 in
theorem ggX8_shared_X8_refuse : GoodIn wsX8_shared wsX8_refuse := goodIn_r _ [8, 9, 10, 11, 15, 16, 17, 18, 19, 20, 21, 22, 23, 24, 25, 26, 27, 28, 29, 30, 31] (by decide +kernel) (by decide +kernel)
set_option maxRecDepth 20000 in
theorem gX8_shared_X8_refuse : GoodIn wsX8_shared (wsV RX8 90 RX8 yX8_refuse wsX8_refuse) := goodIn_app (goodIn_of _ (by decide +kernel)) ggX8_shared_X8_refuse
set_option maxRecDepth 20000 in
theorem ggX8_shared_X8_choose : GoodIn wsX8_shared wsX8_choose := goodIn_r _ [14] (by decide +kernel) (by decide +kernel)
set_option maxRecDepth 20000 in
theorem gX8_shared_X8_choose : GoodIn wsX8_shared (va_wsS RX8 156 yX8_choose wsX8_choose) := goodIn_app (goodIn_of _ (by decide +kernel)) ggX8_shared_X8_choose
theorem dX8_shared_0 : decode cX8_shared 0 = .ok (.iload_n 2, 1) := by decide +kernel
theorem dX8_shared_1 : decode cX8_shared 1 = .ok (.iconst 1, 1) := by decide +kernel
theorem dX8_shared_2 : decode cX8_shared 2 = .ok (.bipush 30, 2) := by decide +kernel
theorem dX8_shared_4 : decode cX8_shared 4 = .ok (.invokestatic 86, 3) := by decide +kernel
theorem dX8_shared_7 : decode cX8_shared 7 = .ok (.ifCond .eq 15, 3) := by decide +kernel
theorem dX8_shared_10 : decode cX8_shared 10 = .ok (.iload_n 1, 1) := by decide +kernel
theorem dX8_shared_11 : decode cX8_shared 11 = .ok (.iconst 2, 1) := by decide +kernel
theorem dX8_shared_12 : decode cX8_shared 12 = .ok (.iload_n 2, 1) := by decide +kernel
theorem dX8_shared_13 : decode cX8_shared 13 = .ok (.imul, 1) := by decide +kernel
theorem dX8_shared_14 : decode cX8_shared 14 = .ok (.bipush 60, 2) := by decide +kernel
theorem dX8_shared_16 : decode cX8_shared 16 = .ok (.invokestatic 86, 3) := by decide +kernel
theorem dX8_shared_19 : decode cX8_shared 19 = .ok (.ifCond .ne 13, 3) := by decide +kernel
theorem dX8_shared_22 : decode cX8_shared 22 = .ok (.aload_n 0, 1) := by decide +kernel
theorem dX8_shared_23 : decode cX8_shared 23 = .ok (.bipush (-2), 2) := by decide +kernel
theorem dX8_shared_25 : decode cX8_shared 25 = .ok (.bipush (-2), 2) := by decide +kernel
theorem dX8_shared_27 : decode cX8_shared 27 = .ok (.invokevirtual 90, 3) := by decide +kernel
theorem dX8_shared_30 : decode cX8_shared 30 = .ok (.i2l, 1) := by decide +kernel
theorem dX8_shared_31 : decode cX8_shared 31 = .ok (.lreturn, 1) := by decide +kernel
theorem dX8_shared_32 : decode cX8_shared 32 = .ok (.iload_n 1, 1) := by decide +kernel
theorem dX8_shared_33 : decode cX8_shared 33 = .ok (.iconst 1, 1) := by decide +kernel
theorem dX8_shared_34 : decode cX8_shared 34 = .ok (.isub, 1) := by decide +kernel
theorem dX8_shared_35 : decode cX8_shared 35 = .ok (.iload_n 2, 1) := by decide +kernel
theorem dX8_shared_36 : decode cX8_shared 36 = .ok (.iconst 1, 1) := by decide +kernel
theorem dX8_shared_37 : decode cX8_shared 37 = .ok (.isub, 1) := by decide +kernel
theorem dX8_shared_38 : decode cX8_shared 38 = .ok (.invokestatic 156, 3) := by decide +kernel
theorem dX8_shared_41 : decode cX8_shared 41 = .ok (.lreturn, 1) := by decide +kernel
set_option maxRecDepth 20000 in
theorem ggX8_several_X8_between : GoodIn wsX8_several wsX8_between := goodIn_r _ [5] (by decide +kernel) (by decide +kernel)
set_option maxRecDepth 20000 in
theorem gX8_several_X8_between : GoodIn wsX8_several (va_wsS RX8 86 yX8_between wsX8_between) := goodIn_app (goodIn_of _ (by decide +kernel)) ggX8_several_X8_between
set_option maxRecDepth 20000 in
theorem ggX8_several_X8_refuse : GoodIn wsX8_several wsX8_refuse := goodIn_r _ [9, 10, 11, 12, 13, 14, 15, 16, 17, 18, 19, 20, 21, 22, 23, 24, 25, 26, 27, 28, 29] (by decide +kernel) (by decide +kernel)
set_option maxRecDepth 20000 in
theorem gX8_several_X8_refuse : GoodIn wsX8_several (wsV RX8 90 RX8 yX8_refuse wsX8_refuse) := goodIn_app (goodIn_of _ (by decide +kernel)) ggX8_several_X8_refuse
theorem dX8_several_0 : decode cX8_several 0 = .ok (.iload_n 1, 1) := by decide +kernel
theorem dX8_several_1 : decode cX8_several 1 = .ok (.iconst 0, 1) := by decide +kernel
theorem dX8_several_2 : decode cX8_several 2 = .ok (.bipush 7, 2) := by decide +kernel
theorem dX8_several_4 : decode cX8_several 4 = .ok (.invokestatic 86, 3) := by decide +kernel
theorem dX8_several_7 : decode cX8_several 7 = .ok (.ifCond .eq 13, 3) := by decide +kernel
theorem dX8_several_10 : decode cX8_several 10 = .ok (.iload_n 2, 1) := by decide +kernel
theorem dX8_several_11 : decode cX8_several 11 = .ok (.iconst 0, 1) := by decide +kernel
theorem dX8_several_12 : decode cX8_several 12 = .ok (.bipush 9, 2) := by decide +kernel
theorem dX8_several_14 : decode cX8_several 14 = .ok (.invokestatic 86, 3) := by decide +kernel
theorem dX8_several_17 : decode cX8_several 17 = .ok (.ifCond .ne 12, 3) := by decide +kernel
theorem dX8_several_20 : decode cX8_several 20 = .ok (.aload_n 0, 1) := by decide +kernel
theorem dX8_several_21 : decode cX8_several 21 = .ok (.bipush (-2), 2) := by decide +kernel
theorem dX8_several_23 : decode cX8_several 23 = .ok (.bipush (-2), 2) := by decide +kernel
theorem dX8_several_25 : decode cX8_several 25 = .ok (.invokevirtual 90, 3) := by decide +kernel
theorem dX8_several_28 : decode cX8_several 28 = .ok (.ireturn, 1) := by decide +kernel
theorem dX8_several_29 : decode cX8_several 29 = .ok (.aload_n 0, 1) := by decide +kernel
theorem dX8_several_30 : decode cX8_several 30 = .ok (.getfield 16, 3) := by decide +kernel
theorem dX8_several_33 : decode cX8_several 33 = .ok (.iload_n 1, 1) := by decide +kernel
theorem dX8_several_34 : decode cX8_several 34 = .ok (.iaload, 1) := by decide +kernel
theorem dX8_several_35 : decode cX8_several 35 = .ok (.istore_n 3, 1) := by decide +kernel
theorem dX8_several_36 : decode cX8_several 36 = .ok (.aload_n 0, 1) := by decide +kernel
theorem dX8_several_37 : decode cX8_several 37 = .ok (.getfield 16, 3) := by decide +kernel
theorem dX8_several_40 : decode cX8_several 40 = .ok (.iload_n 1, 1) := by decide +kernel
theorem dX8_several_41 : decode cX8_several 41 = .ok (.iload_n 2, 1) := by decide +kernel
theorem dX8_several_42 : decode cX8_several 42 = .ok (.iastore, 1) := by decide +kernel
theorem dX8_several_43 : decode cX8_several 43 = .ok (.iload_n 3, 1) := by decide +kernel
theorem dX8_several_44 : decode cX8_several 44 = .ok (.ireturn, 1) := by decide +kernel
set_option maxRecDepth 20000 in
theorem ggX8_things_X8_between : GoodIn wsX8_things wsX8_between := goodIn_r _ [5] (by decide +kernel) (by decide +kernel)
set_option maxRecDepth 20000 in
theorem gX8_things_X8_between : GoodIn wsX8_things (va_wsS RX8 86 yX8_between wsX8_between) := goodIn_app (goodIn_of _ (by decide +kernel)) ggX8_things_X8_between
set_option maxRecDepth 20000 in
theorem ggX8_things_X8_refuse : GoodIn wsX8_things wsX8_refuse := goodIn_r _ [9, 10, 11, 12, 26, 27, 28, 29, 30, 31, 32, 33, 34, 35, 36, 37, 38, 39, 40, 41, 42] (by decide +kernel) (by decide +kernel)
set_option maxRecDepth 20000 in
theorem gX8_things_X8_refuse : GoodIn wsX8_things (wsV RX8 90 RX8 yX8_refuse wsX8_refuse) := goodIn_app (goodIn_of _ (by decide +kernel)) ggX8_things_X8_refuse
set_option maxRecDepth 20000 in
theorem ggX8_things_X8_countWays : GoodIn wsX8_things wsX8_countWays := goodIn_r _ [16, 1, 17, 18, 19, 20, 21, 22, 23, 24, 25, 26, 27, 28, 29, 30, 31, 32, 33, 34, 35, 36, 37, 38, 39, 40, 41, 42] (by decide +kernel) (by decide +kernel)
set_option maxRecDepth 20000 in
theorem gX8_things_X8_countWays : GoodIn wsX8_things (wsV RX8 230 RX8 yX8_countWays wsX8_countWays) := goodIn_app (goodIn_of _ (by decide +kernel)) ggX8_things_X8_countWays
theorem dX8_things_0 : decode cX8_things 0 = .ok (.iload_n 1, 1) := by decide +kernel
theorem dX8_things_1 : decode cX8_things 1 = .ok (.iconst 0, 1) := by decide +kernel
theorem dX8_things_2 : decode cX8_things 2 = .ok (.bipush 72, 2) := by decide +kernel
theorem dX8_things_4 : decode cX8_things 4 = .ok (.invokestatic 86, 3) := by decide +kernel
theorem dX8_things_7 : decode cX8_things 7 = .ok (.ifCond .ne 13, 3) := by decide +kernel
theorem dX8_things_10 : decode cX8_things 10 = .ok (.aload_n 0, 1) := by decide +kernel
theorem dX8_things_11 : decode cX8_things 11 = .ok (.bipush (-2), 2) := by decide +kernel
theorem dX8_things_13 : decode cX8_things 13 = .ok (.bipush (-2), 2) := by decide +kernel
theorem dX8_things_15 : decode cX8_things 15 = .ok (.invokevirtual 90, 3) := by decide +kernel
theorem dX8_things_18 : decode cX8_things 18 = .ok (.i2l, 1) := by decide +kernel
theorem dX8_things_19 : decode cX8_things 19 = .ok (.lreturn, 1) := by decide +kernel
theorem dX8_things_20 : decode cX8_things 20 = .ok (.aload_n 0, 1) := by decide +kernel
theorem dX8_things_21 : decode cX8_things 21 = .ok (.invokevirtual 230, 3) := by decide +kernel
theorem dX8_things_24 : decode cX8_things 24 = .ok (.pop, 1) := by decide +kernel
theorem dX8_things_25 : decode cX8_things 25 = .ok (.aload_n 0, 1) := by decide +kernel
theorem dX8_things_26 : decode cX8_things 26 = .ok (.getfield 81, 3) := by decide +kernel
theorem dX8_things_29 : decode cX8_things 29 = .ok (.iload_n 1, 1) := by decide +kernel
theorem dX8_things_30 : decode cX8_things 30 = .ok (.laload, 1) := by decide +kernel
theorem dX8_things_31 : decode cX8_things 31 = .ok (.lreturn, 1) := by decide +kernel
set_option maxRecDepth 20000 in
theorem ggX8_middle_X8_between : GoodIn wsX8_middle wsX8_between := goodIn_r _ [5] (by decide +kernel) (by decide +kernel)
set_option maxRecDepth 20000 in
theorem gX8_middle_X8_between : GoodIn wsX8_middle (va_wsS RX8 86 yX8_between wsX8_between) := goodIn_app (goodIn_of _ (by decide +kernel)) ggX8_middle_X8_between
set_option maxRecDepth 20000 in
theorem ggX8_middle_X8_refuse : GoodIn wsX8_middle wsX8_refuse := goodIn_r _ [9, 10, 11, 12, 26, 27, 28, 29, 30, 31, 32, 33, 34, 35, 36, 37, 38, 39, 40, 41, 42] (by decide +kernel) (by decide +kernel)
set_option maxRecDepth 20000 in
theorem gX8_middle_X8_refuse : GoodIn wsX8_middle (wsV RX8 90 RX8 yX8_refuse wsX8_refuse) := goodIn_app (goodIn_of _ (by decide +kernel)) ggX8_middle_X8_refuse
set_option maxRecDepth 20000 in
theorem ggX8_middle_X8_countWays : GoodIn wsX8_middle wsX8_countWays := goodIn_r _ [16, 1, 17, 18, 19, 20, 21, 22, 23, 24, 25, 26, 27, 28, 29, 30, 31, 32, 33, 34, 35, 36, 37, 38, 39, 40, 41, 42] (by decide +kernel) (by decide +kernel)
set_option maxRecDepth 20000 in
theorem gX8_middle_X8_countWays : GoodIn wsX8_middle (wsV RX8 230 RX8 yX8_countWays wsX8_countWays) := goodIn_app (goodIn_of _ (by decide +kernel)) ggX8_middle_X8_countWays
theorem dX8_middle_0 : decode cX8_middle 0 = .ok (.iload_n 1, 1) := by decide +kernel
theorem dX8_middle_1 : decode cX8_middle 1 = .ok (.iconst 0, 1) := by decide +kernel
theorem dX8_middle_2 : decode cX8_middle 2 = .ok (.iconst 1, 1) := by decide +kernel
theorem dX8_middle_3 : decode cX8_middle 3 = .ok (.invokestatic 86, 3) := by decide +kernel
theorem dX8_middle_6 : decode cX8_middle 6 = .ok (.ifCond .ne 12, 3) := by decide +kernel
theorem dX8_middle_9 : decode cX8_middle 9 = .ok (.aload_n 0, 1) := by decide +kernel
theorem dX8_middle_10 : decode cX8_middle 10 = .ok (.bipush (-2), 2) := by decide +kernel
theorem dX8_middle_12 : decode cX8_middle 12 = .ok (.bipush (-2), 2) := by decide +kernel
theorem dX8_middle_14 : decode cX8_middle 14 = .ok (.invokevirtual 90, 3) := by decide +kernel
theorem dX8_middle_17 : decode cX8_middle 17 = .ok (.ireturn, 1) := by decide +kernel
theorem dX8_middle_18 : decode cX8_middle 18 = .ok (.aload_n 0, 1) := by decide +kernel
theorem dX8_middle_19 : decode cX8_middle 19 = .ok (.invokevirtual 230, 3) := by decide +kernel
theorem dX8_middle_22 : decode cX8_middle 22 = .ok (.istore_n 2, 1) := by decide +kernel
theorem dX8_middle_23 : decode cX8_middle 23 = .ok (.iload_n 1, 1) := by decide +kernel
theorem dX8_middle_24 : decode cX8_middle 24 = .ok (.iconst 1, 1) := by decide +kernel
theorem dX8_middle_25 : decode cX8_middle 25 = .ok (.if_icmp .ne 5, 3) := by decide +kernel
theorem dX8_middle_28 : decode cX8_middle 28 = .ok (.iload_n 2, 1) := by decide +kernel
theorem dX8_middle_29 : decode cX8_middle 29 = .ok (.ireturn, 1) := by decide +kernel
theorem dX8_middle_30 : decode cX8_middle 30 = .ok (.iconst 0, 1) := by decide +kernel
theorem dX8_middle_31 : decode cX8_middle 31 = .ok (.istore_n 3, 1) := by decide +kernel
theorem dX8_middle_32 : decode cX8_middle 32 = .ok (.iconst 1, 1) := by decide +kernel
theorem dX8_middle_33 : decode cX8_middle 33 = .ok (.istore 4, 2) := by decide +kernel
theorem dX8_middle_35 : decode cX8_middle 35 = .ok (.iload 4, 2) := by decide +kernel
theorem dX8_middle_37 : decode cX8_middle 37 = .ok (.bipush 72, 2) := by decide +kernel
theorem dX8_middle_39 : decode cX8_middle 39 = .ok (.if_icmp .gt 29, 3) := by decide +kernel
theorem dX8_middle_42 : decode cX8_middle 42 = .ok (.aload_n 0, 1) := by decide +kernel
theorem dX8_middle_43 : decode cX8_middle 43 = .ok (.getfield 81, 3) := by decide +kernel
theorem dX8_middle_46 : decode cX8_middle 46 = .ok (.iload 4, 2) := by decide +kernel
theorem dX8_middle_48 : decode cX8_middle 48 = .ok (.laload, 1) := by decide +kernel
theorem dX8_middle_49 : decode cX8_middle 49 = .ok (.aload_n 0, 1) := by decide +kernel
theorem dX8_middle_50 : decode cX8_middle 50 = .ok (.getfield 81, 3) := by decide +kernel
theorem dX8_middle_53 : decode cX8_middle 53 = .ok (.iload_n 3, 1) := by decide +kernel
theorem dX8_middle_54 : decode cX8_middle 54 = .ok (.laload, 1) := by decide +kernel
theorem dX8_middle_55 : decode cX8_middle 55 = .ok (.lcmp, 1) := by decide +kernel
theorem dX8_middle_56 : decode cX8_middle 56 = .ok (.ifCond .le 6, 3) := by decide +kernel
theorem dX8_middle_59 : decode cX8_middle 59 = .ok (.iload 4, 2) := by decide +kernel
theorem dX8_middle_61 : decode cX8_middle 61 = .ok (.istore_n 3, 1) := by decide +kernel
theorem dX8_middle_62 : decode cX8_middle 62 = .ok (.iinc 4 1, 3) := by decide +kernel
theorem dX8_middle_65 : decode cX8_middle 65 = .ok (.goto (-30), 3) := by decide +kernel
theorem dX8_middle_68 : decode cX8_middle 68 = .ok (.iload_n 3, 1) := by decide +kernel
theorem dX8_middle_69 : decode cX8_middle 69 = .ok (.ireturn, 1) := by decide +kernel
set_option maxRecDepth 20000 in
theorem ggX8_part_X8_between : GoodIn wsX8_part wsX8_between := goodIn_r _ [7] (by decide +kernel) (by decide +kernel)
set_option maxRecDepth 20000 in
theorem gX8_part_X8_between : GoodIn wsX8_part (va_wsS RX8 86 yX8_between wsX8_between) := goodIn_app (goodIn_of _ (by decide +kernel)) ggX8_part_X8_between
set_option maxRecDepth 20000 in
theorem ggX8_part_X8_refuse : GoodIn wsX8_part wsX8_refuse := goodIn_r _ [11, 12, 13, 14, 15, 16, 17, 18, 19, 20, 21, 22, 23, 24, 25, 26, 27, 28, 29, 30, 31] (by decide +kernel) (by decide +kernel)
set_option maxRecDepth 20000 in
theorem gX8_part_X8_refuse : GoodIn wsX8_part (wsV RX8 90 RX8 yX8_refuse wsX8_refuse) := goodIn_app (goodIn_of _ (by decide +kernel)) ggX8_part_X8_refuse
theorem dX8_part_0 : decode cX8_part 0 = .ok (.iload_n 1, 1) := by decide +kernel
theorem dX8_part_1 : decode cX8_part 1 = .ok (.iconst 0, 1) := by decide +kernel
theorem dX8_part_2 : decode cX8_part 2 = .ok (.iconst 1, 1) := by decide +kernel
theorem dX8_part_3 : decode cX8_part 3 = .ok (.invokestatic 86, 3) := by decide +kernel
theorem dX8_part_6 : decode cX8_part 6 = .ok (.ifCond .ne 13, 3) := by decide +kernel
theorem dX8_part_9 : decode cX8_part 9 = .ok (.aload_n 0, 1) := by decide +kernel
theorem dX8_part_10 : decode cX8_part 10 = .ok (.bipush (-2), 2) := by decide +kernel
theorem dX8_part_12 : decode cX8_part 12 = .ok (.bipush (-2), 2) := by decide +kernel
theorem dX8_part_14 : decode cX8_part 14 = .ok (.invokevirtual 90, 3) := by decide +kernel
theorem dX8_part_17 : decode cX8_part 17 = .ok (.i2l, 1) := by decide +kernel
theorem dX8_part_18 : decode cX8_part 18 = .ok (.lreturn, 1) := by decide +kernel
theorem dX8_part_19 : decode cX8_part 19 = .ok (.iload_n 1, 1) := by decide +kernel
theorem dX8_part_20 : decode cX8_part 20 = .ok (.ifCond .ne 13, 3) := by decide +kernel
theorem dX8_part_23 : decode cX8_part 23 = .ok (.aload_n 0, 1) := by decide +kernel
theorem dX8_part_24 : decode cX8_part 24 = .ok (.getfield 32, 3) := by decide +kernel
theorem dX8_part_27 : decode cX8_part 27 = .ok (.getfield 233, 3) := by decide +kernel
theorem dX8_part_30 : decode cX8_part 30 = .ok (.goto 10, 3) := by decide +kernel
theorem dX8_part_33 : decode cX8_part 33 = .ok (.aload_n 0, 1) := by decide +kernel
theorem dX8_part_34 : decode cX8_part 34 = .ok (.getfield 32, 3) := by decide +kernel
theorem dX8_part_37 : decode cX8_part 37 = .ok (.getfield 237, 3) := by decide +kernel
theorem dX8_part_40 : decode cX8_part 40 = .ok (.lreturn, 1) := by decide +kernel
set_option maxRecDepth 20000 in
theorem ggX8_image_X8_between : GoodIn wsX8_image wsX8_between := goodIn_r _ [14] (by decide +kernel) (by decide +kernel)
set_option maxRecDepth 20000 in
theorem gX8_image_X8_between : GoodIn wsX8_image (va_wsS RX8 86 yX8_between wsX8_between) := goodIn_app (goodIn_of _ (by decide +kernel)) ggX8_image_X8_between
set_option maxRecDepth 20000 in
theorem ggX8_image_X8_refuse : GoodIn wsX8_image wsX8_refuse := goodIn_r _ [18, 19, 20, 21, 34, 35, 36, 37, 38, 39, 40, 41, 42, 43, 44, 45, 46, 47, 48, 49, 50] (by decide +kernel) (by decide +kernel)
set_option maxRecDepth 20000 in
theorem gX8_image_X8_refuse : GoodIn wsX8_image (wsV RX8 90 RX8 yX8_refuse wsX8_refuse) := goodIn_app (goodIn_of _ (by decide +kernel)) ggX8_image_X8_refuse
set_option maxRecDepth 20000 in
theorem ggX8_image_X6_take : GoodIn wsX8_image wsX6_take := goodIn_r _ [26, 27, 28, 29, 30, 31, 32, 8, 9, 10, 33, 54, 55, 56, 57, 58, 59] (by decide +kernel) (by decide +kernel)
set_option maxRecDepth 20000 in
theorem gX8_image_X6_take : GoodIn wsX8_image (wsV RX8 132 RX6 yX6_take wsX6_take) := goodIn_app (goodIn_of _ (by decide +kernel)) ggX8_image_X6_take
theorem dX8_image_0 : decode cX8_image 0 = .ok (.iload_n 1, 1) := by decide +kernel
theorem dX8_image_1 : decode cX8_image 1 = .ok (.iconst 0, 1) := by decide +kernel
theorem dX8_image_2 : decode cX8_image 2 = .ok (.iconst 1, 1) := by decide +kernel
theorem dX8_image_3 : decode cX8_image 3 = .ok (.invokestatic 86, 3) := by decide +kernel
theorem dX8_image_6 : decode cX8_image 6 = .ok (.ifCond .ne 12, 3) := by decide +kernel
theorem dX8_image_9 : decode cX8_image 9 = .ok (.aload_n 0, 1) := by decide +kernel
theorem dX8_image_10 : decode cX8_image 10 = .ok (.bipush (-2), 2) := by decide +kernel
theorem dX8_image_12 : decode cX8_image 12 = .ok (.bipush (-2), 2) := by decide +kernel
theorem dX8_image_14 : decode cX8_image 14 = .ok (.invokevirtual 90, 3) := by decide +kernel
theorem dX8_image_17 : decode cX8_image 17 = .ok (.ireturn, 1) := by decide +kernel
theorem dX8_image_18 : decode cX8_image 18 = .ok (.aload_n 0, 1) := by decide +kernel
theorem dX8_image_19 : decode cX8_image 19 = .ok (.getfield 22, 3) := by decide +kernel
theorem dX8_image_22 : decode cX8_image 22 = .ok (.iload_n 1, 1) := by decide +kernel
theorem dX8_image_23 : decode cX8_image 23 = .ok (.aaload, 1) := by decide +kernel
theorem dX8_image_24 : decode cX8_image 24 = .ok (.astore_n 2, 1) := by decide +kernel
theorem dX8_image_25 : decode cX8_image 25 = .ok (.aload_n 2, 1) := by decide +kernel
theorem dX8_image_26 : decode cX8_image 26 = .ok (.iconst 1, 1) := by decide +kernel
theorem dX8_image_27 : decode cX8_image 27 = .ok (.putfield 240, 3) := by decide +kernel
theorem dX8_image_30 : decode cX8_image 30 = .ok (.aload_n 2, 1) := by decide +kernel
theorem dX8_image_31 : decode cX8_image 31 = .ok (.getfield 244, 3) := by decide +kernel
theorem dX8_image_34 : decode cX8_image 34 = .ok (.aload_n 0, 1) := by decide +kernel
theorem dX8_image_35 : decode cX8_image 35 = .ok (.getfield 12, 3) := by decide +kernel
theorem dX8_image_38 : decode cX8_image 38 = .ok (.invokevirtual 132, 3) := by decide +kernel
theorem dX8_image_41 : decode cX8_image 41 = .ok (.aload_n 0, 1) := by decide +kernel
theorem dX8_image_42 : decode cX8_image 42 = .ok (.getfield 16, 3) := by decide +kernel
theorem dX8_image_45 : decode cX8_image 45 = .ok (.iconst 0, 1) := by decide +kernel
theorem dX8_image_46 : decode cX8_image 46 = .ok (.aload_n 2, 1) := by decide +kernel
theorem dX8_image_47 : decode cX8_image 47 = .ok (.getfield 245, 3) := by decide +kernel
theorem dX8_image_50 : decode cX8_image 50 = .ok (.iconst 0, 1) := by decide +kernel
theorem dX8_image_51 : decode cX8_image 51 = .ok (.bipush 8, 2) := by decide +kernel
theorem dX8_image_53 : decode cX8_image 53 = .ok (.invokestatic 246, 3) := by decide +kernel
theorem dX8_image_56 : decode cX8_image 56 = .ok (.iconst 1, 1) := by decide +kernel
theorem dX8_image_57 : decode cX8_image 57 = .ok (.ireturn, 1) := by decide +kernel
set_option maxRecDepth 20000 in
theorem ggX8_from_X8_between : GoodIn wsX8_from wsX8_between := goodIn_r _ [14] (by decide +kernel) (by decide +kernel)
set_option maxRecDepth 20000 in
theorem gX8_from_X8_between : GoodIn wsX8_from (va_wsS RX8 86 yX8_between wsX8_between) := goodIn_app (goodIn_of _ (by decide +kernel)) ggX8_from_X8_between
set_option maxRecDepth 20000 in
theorem ggX8_from_X8_refuse : GoodIn wsX8_from wsX8_refuse := goodIn_r _ [18, 19, 20, 21, 34, 35, 36, 37, 38, 39, 40, 41, 42, 43, 44, 45, 46, 47, 48, 49, 50] (by decide +kernel) (by decide +kernel)
set_option maxRecDepth 20000 in
theorem gX8_from_X8_refuse : GoodIn wsX8_from (wsV RX8 90 RX8 yX8_refuse wsX8_refuse) := goodIn_app (goodIn_of _ (by decide +kernel)) ggX8_from_X8_refuse
set_option maxRecDepth 20000 in
theorem ggX8_from_X6_take : GoodIn wsX8_from wsX6_take := goodIn_r _ [26, 27, 28, 29, 30, 31, 32, 8, 9, 10, 33, 54, 55, 56, 57, 58, 59] (by decide +kernel) (by decide +kernel)
set_option maxRecDepth 20000 in
theorem gX8_from_X6_take : GoodIn wsX8_from (wsV RX8 132 RX6 yX6_take wsX6_take) := goodIn_app (goodIn_of _ (by decide +kernel)) ggX8_from_X6_take
theorem dX8_from_0 : decode cX8_from 0 = .ok (.iload_n 1, 1) := by decide +kernel
theorem dX8_from_1 : decode cX8_from 1 = .ok (.iconst 0, 1) := by decide +kernel
theorem dX8_from_2 : decode cX8_from 2 = .ok (.iconst 1, 1) := by decide +kernel
theorem dX8_from_3 : decode cX8_from 3 = .ok (.invokestatic 86, 3) := by decide +kernel
theorem dX8_from_6 : decode cX8_from 6 = .ok (.ifCond .ne 12, 3) := by decide +kernel
theorem dX8_from_9 : decode cX8_from 9 = .ok (.aload_n 0, 1) := by decide +kernel
theorem dX8_from_10 : decode cX8_from 10 = .ok (.bipush (-2), 2) := by decide +kernel
theorem dX8_from_12 : decode cX8_from 12 = .ok (.bipush (-2), 2) := by decide +kernel
theorem dX8_from_14 : decode cX8_from 14 = .ok (.invokevirtual 90, 3) := by decide +kernel
theorem dX8_from_17 : decode cX8_from 17 = .ok (.ireturn, 1) := by decide +kernel
theorem dX8_from_18 : decode cX8_from 18 = .ok (.aload_n 0, 1) := by decide +kernel
theorem dX8_from_19 : decode cX8_from 19 = .ok (.getfield 22, 3) := by decide +kernel
theorem dX8_from_22 : decode cX8_from 22 = .ok (.iload_n 1, 1) := by decide +kernel
theorem dX8_from_23 : decode cX8_from 23 = .ok (.aaload, 1) := by decide +kernel
theorem dX8_from_24 : decode cX8_from 24 = .ok (.astore_n 2, 1) := by decide +kernel
theorem dX8_from_25 : decode cX8_from 25 = .ok (.aload_n 2, 1) := by decide +kernel
theorem dX8_from_26 : decode cX8_from 26 = .ok (.getfield 240, 3) := by decide +kernel
theorem dX8_from_29 : decode cX8_from 29 = .ok (.ifCond .ne 12, 3) := by decide +kernel
theorem dX8_from_32 : decode cX8_from 32 = .ok (.aload_n 0, 1) := by decide +kernel
theorem dX8_from_33 : decode cX8_from 33 = .ok (.bipush (-3), 2) := by decide +kernel
theorem dX8_from_35 : decode cX8_from 35 = .ok (.bipush (-3), 2) := by decide +kernel
theorem dX8_from_37 : decode cX8_from 37 = .ok (.invokevirtual 90, 3) := by decide +kernel
theorem dX8_from_40 : decode cX8_from 40 = .ok (.ireturn, 1) := by decide +kernel
theorem dX8_from_41 : decode cX8_from 41 = .ok (.aload_n 0, 1) := by decide +kernel
theorem dX8_from_42 : decode cX8_from 42 = .ok (.getfield 12, 3) := by decide +kernel
theorem dX8_from_45 : decode cX8_from 45 = .ok (.aload_n 2, 1) := by decide +kernel
theorem dX8_from_46 : decode cX8_from 46 = .ok (.getfield 244, 3) := by decide +kernel
theorem dX8_from_49 : decode cX8_from 49 = .ok (.invokevirtual 132, 3) := by decide +kernel
theorem dX8_from_52 : decode cX8_from 52 = .ok (.aload_n 2, 1) := by decide +kernel
theorem dX8_from_53 : decode cX8_from 53 = .ok (.getfield 245, 3) := by decide +kernel
theorem dX8_from_56 : decode cX8_from 56 = .ok (.iconst 0, 1) := by decide +kernel
theorem dX8_from_57 : decode cX8_from 57 = .ok (.aload_n 0, 1) := by decide +kernel
theorem dX8_from_58 : decode cX8_from 58 = .ok (.getfield 16, 3) := by decide +kernel
theorem dX8_from_61 : decode cX8_from 61 = .ok (.iconst 0, 1) := by decide +kernel
theorem dX8_from_62 : decode cX8_from 62 = .ok (.bipush 8, 2) := by decide +kernel
theorem dX8_from_64 : decode cX8_from 64 = .ok (.invokestatic 246, 3) := by decide +kernel
theorem dX8_from_67 : decode cX8_from 67 = .ok (.iconst 1, 1) := by decide +kernel
theorem dX8_from_68 : decode cX8_from 68 = .ok (.ireturn, 1) := by decide +kernel
set_option maxRecDepth 20000 in
theorem ggX8_status_X8_refuse : GoodIn wsX8_status wsX8_refuse := goodIn_r _ [8, 1, 2, 3, 9, 10, 11, 12, 13, 14, 15, 16, 17, 18, 19, 20, 21, 22, 23, 24, 25] (by decide +kernel) (by decide +kernel)
set_option maxRecDepth 20000 in
theorem gX8_status_X8_refuse : GoodIn wsX8_status (wsV RX8 90 RX8 yX8_refuse wsX8_refuse) := goodIn_app (goodIn_of _ (by decide +kernel)) ggX8_status_X8_refuse
theorem dX8_status_0 : decode cX8_status 0 = .ok (.iload_n 1, 1) := by decide +kernel
theorem dX8_status_1 : decode cX8_status 1 = .ok (.tableswitch 42 0 2 #[27, 32, 37], 27) := by decide +kernel
theorem dX8_status_28 : decode cX8_status 28 = .ok (.aload_n 0, 1) := by decide +kernel
theorem dX8_status_29 : decode cX8_status 29 = .ok (.getfield 252, 3) := by decide +kernel
theorem dX8_status_32 : decode cX8_status 32 = .ok (.ireturn, 1) := by decide +kernel
theorem dX8_status_33 : decode cX8_status 33 = .ok (.aload_n 0, 1) := by decide +kernel
theorem dX8_status_34 : decode cX8_status 34 = .ok (.getfield 255, 3) := by decide +kernel
theorem dX8_status_37 : decode cX8_status 37 = .ok (.ireturn, 1) := by decide +kernel
theorem dX8_status_38 : decode cX8_status 38 = .ok (.aload_n 0, 1) := by decide +kernel
theorem dX8_status_39 : decode cX8_status 39 = .ok (.getfield 258, 3) := by decide +kernel
theorem dX8_status_42 : decode cX8_status 42 = .ok (.ireturn, 1) := by decide +kernel
theorem dX8_status_43 : decode cX8_status 43 = .ok (.aload_n 0, 1) := by decide +kernel
theorem dX8_status_44 : decode cX8_status 44 = .ok (.bipush (-2), 2) := by decide +kernel
theorem dX8_status_46 : decode cX8_status 46 = .ok (.iconst (-1), 1) := by decide +kernel
theorem dX8_status_47 : decode cX8_status 47 = .ok (.invokevirtual 90, 3) := by decide +kernel
theorem dX8_status_50 : decode cX8_status 50 = .ok (.ireturn, 1) := by decide +kernel
set_option maxRecDepth 20000 in
theorem ggX8_count_X8_refuse : GoodIn wsX8_count wsX8_refuse := goodIn_r _ [11, 12, 13, 14, 15, 16, 17, 18, 19, 20, 21, 22, 23, 24, 25, 26, 27, 28, 29, 30, 31] (by decide +kernel) (by decide +kernel)
set_option maxRecDepth 20000 in
theorem gX8_count_X8_refuse : GoodIn wsX8_count (wsV RX8 90 RX8 yX8_refuse wsX8_refuse) := goodIn_app (goodIn_of _ (by decide +kernel)) ggX8_count_X8_refuse
theorem dX8_count_0 : decode cX8_count 0 = .ok (.iload_n 1, 1) := by decide +kernel
theorem dX8_count_1 : decode cX8_count 1 = .ok (.tableswitch 72 0 4 #[35, 43, 51, 56, 64], 35) := by decide +kernel
theorem dX8_count_36 : decode cX8_count 36 = .ok (.aload_n 0, 1) := by decide +kernel
theorem dX8_count_37 : decode cX8_count 37 = .ok (.getfield 12, 3) := by decide +kernel
theorem dX8_count_40 : decode cX8_count 40 = .ok (.getfield 94, 3) := by decide +kernel
theorem dX8_count_43 : decode cX8_count 43 = .ok (.ireturn, 1) := by decide +kernel
theorem dX8_count_44 : decode cX8_count 44 = .ok (.aload_n 0, 1) := by decide +kernel
theorem dX8_count_45 : decode cX8_count 45 = .ok (.getfield 12, 3) := by decide +kernel
theorem dX8_count_48 : decode cX8_count 48 = .ok (.getfield 98, 3) := by decide +kernel
theorem dX8_count_51 : decode cX8_count 51 = .ok (.ireturn, 1) := by decide +kernel
theorem dX8_count_52 : decode cX8_count 52 = .ok (.aload_n 0, 1) := by decide +kernel
theorem dX8_count_53 : decode cX8_count 53 = .ok (.getfield 124, 3) := by decide +kernel
theorem dX8_count_56 : decode cX8_count 56 = .ok (.ireturn, 1) := by decide +kernel
theorem dX8_count_57 : decode cX8_count 57 = .ok (.aload_n 0, 1) := by decide +kernel
theorem dX8_count_58 : decode cX8_count 58 = .ok (.getfield 12, 3) := by decide +kernel
theorem dX8_count_61 : decode cX8_count 61 = .ok (.getfield 101, 3) := by decide +kernel
theorem dX8_count_64 : decode cX8_count 64 = .ok (.ireturn, 1) := by decide +kernel
theorem dX8_count_65 : decode cX8_count 65 = .ok (.aload_n 0, 1) := by decide +kernel
theorem dX8_count_66 : decode cX8_count 66 = .ok (.getfield 12, 3) := by decide +kernel
theorem dX8_count_69 : decode cX8_count 69 = .ok (.getfield 104, 3) := by decide +kernel
theorem dX8_count_72 : decode cX8_count 72 = .ok (.ireturn, 1) := by decide +kernel
theorem dX8_count_73 : decode cX8_count 73 = .ok (.aload_n 0, 1) := by decide +kernel
theorem dX8_count_74 : decode cX8_count 74 = .ok (.bipush (-2), 2) := by decide +kernel
theorem dX8_count_76 : decode cX8_count 76 = .ok (.bipush (-2), 2) := by decide +kernel
theorem dX8_count_78 : decode cX8_count 78 = .ok (.invokevirtual 90, 3) := by decide +kernel
theorem dX8_count_81 : decode cX8_count 81 = .ok (.ireturn, 1) := by decide +kernel
set_option maxRecDepth 20000 in
theorem ggX8_digest_X8_count : GoodIn wsX8_digest wsX8_count := goodIn_r _ [15, 3, 16, 4, 17, 18, 19, 20, 21, 22, 14, 23, 24, 25, 26, 27, 28, 29, 30, 31, 32, 33, 34, 35, 36, 37, 38, 39, 40, 41, 42, 43, 44, 45, 46, 47, 48, 49] (by decide +kernel) (by decide +kernel)
set_option maxRecDepth 20000 in
theorem gX8_digest_X8_count : GoodIn wsX8_digest (wsV RX8 265 RX8 yX8_count wsX8_count) := goodIn_app (goodIn_of _ (by decide +kernel)) ggX8_digest_X8_count
theorem dX8_digest_0 : decode cX8_digest 0 = .ok (.ldc2_w 261, 3) := by decide +kernel
theorem dX8_digest_3 : decode cX8_digest 3 = .ok (.lstore_n 1, 1) := by decide +kernel
theorem dX8_digest_4 : decode cX8_digest 4 = .ok (.iconst 0, 1) := by decide +kernel
theorem dX8_digest_5 : decode cX8_digest 5 = .ok (.istore_n 3, 1) := by decide +kernel
theorem dX8_digest_6 : decode cX8_digest 6 = .ok (.iload_n 3, 1) := by decide +kernel
theorem dX8_digest_7 : decode cX8_digest 7 = .ok (.iconst 4, 1) := by decide +kernel
theorem dX8_digest_8 : decode cX8_digest 8 = .ok (.if_icmp .gt 22, 3) := by decide +kernel
theorem dX8_digest_11 : decode cX8_digest 11 = .ok (.ldc2_w 263, 3) := by decide +kernel
theorem dX8_digest_14 : decode cX8_digest 14 = .ok (.lload_n 1, 1) := by decide +kernel
theorem dX8_digest_15 : decode cX8_digest 15 = .ok (.lmul, 1) := by decide +kernel
theorem dX8_digest_16 : decode cX8_digest 16 = .ok (.aload_n 0, 1) := by decide +kernel
theorem dX8_digest_17 : decode cX8_digest 17 = .ok (.iload_n 3, 1) := by decide +kernel
theorem dX8_digest_18 : decode cX8_digest 18 = .ok (.invokevirtual 265, 3) := by decide +kernel
theorem dX8_digest_21 : decode cX8_digest 21 = .ok (.i2l, 1) := by decide +kernel
theorem dX8_digest_22 : decode cX8_digest 22 = .ok (.ladd, 1) := by decide +kernel
theorem dX8_digest_23 : decode cX8_digest 23 = .ok (.lstore_n 1, 1) := by decide +kernel
theorem dX8_digest_24 : decode cX8_digest 24 = .ok (.iinc 3 1, 3) := by decide +kernel
theorem dX8_digest_27 : decode cX8_digest 27 = .ok (.goto (-21), 3) := by decide +kernel
theorem dX8_digest_30 : decode cX8_digest 30 = .ok (.iconst 0, 1) := by decide +kernel
theorem dX8_digest_31 : decode cX8_digest 31 = .ok (.istore_n 3, 1) := by decide +kernel
theorem dX8_digest_32 : decode cX8_digest 32 = .ok (.iload_n 3, 1) := by decide +kernel
theorem dX8_digest_33 : decode cX8_digest 33 = .ok (.aload_n 0, 1) := by decide +kernel
theorem dX8_digest_34 : decode cX8_digest 34 = .ok (.getfield 12, 3) := by decide +kernel
theorem dX8_digest_37 : decode cX8_digest 37 = .ok (.getfield 98, 3) := by decide +kernel
theorem dX8_digest_40 : decode cX8_digest 40 = .ok (.if_icmp .ge 43, 3) := by decide +kernel
theorem dX8_digest_43 : decode cX8_digest 43 = .ok (.ldc2_w 263, 3) := by decide +kernel
theorem dX8_digest_46 : decode cX8_digest 46 = .ok (.lload_n 1, 1) := by decide +kernel
theorem dX8_digest_47 : decode cX8_digest 47 = .ok (.lmul, 1) := by decide +kernel
theorem dX8_digest_48 : decode cX8_digest 48 = .ok (.aload_n 0, 1) := by decide +kernel
theorem dX8_digest_49 : decode cX8_digest 49 = .ok (.getfield 12, 3) := by decide +kernel
theorem dX8_digest_52 : decode cX8_digest 52 = .ok (.getfield 118, 3) := by decide +kernel
theorem dX8_digest_55 : decode cX8_digest 55 = .ok (.iload_n 3, 1) := by decide +kernel
theorem dX8_digest_56 : decode cX8_digest 56 = .ok (.iaload, 1) := by decide +kernel
theorem dX8_digest_57 : decode cX8_digest 57 = .ok (.i2l, 1) := by decide +kernel
theorem dX8_digest_58 : decode cX8_digest 58 = .ok (.ladd, 1) := by decide +kernel
theorem dX8_digest_59 : decode cX8_digest 59 = .ok (.lstore_n 1, 1) := by decide +kernel
theorem dX8_digest_60 : decode cX8_digest 60 = .ok (.ldc2_w 263, 3) := by decide +kernel
theorem dX8_digest_63 : decode cX8_digest 63 = .ok (.lload_n 1, 1) := by decide +kernel
theorem dX8_digest_64 : decode cX8_digest 64 = .ok (.lmul, 1) := by decide +kernel
theorem dX8_digest_65 : decode cX8_digest 65 = .ok (.aload_n 0, 1) := by decide +kernel
theorem dX8_digest_66 : decode cX8_digest 66 = .ok (.getfield 12, 3) := by decide +kernel
theorem dX8_digest_69 : decode cX8_digest 69 = .ok (.getfield 121, 3) := by decide +kernel
theorem dX8_digest_72 : decode cX8_digest 72 = .ok (.iload_n 3, 1) := by decide +kernel
theorem dX8_digest_73 : decode cX8_digest 73 = .ok (.iaload, 1) := by decide +kernel
theorem dX8_digest_74 : decode cX8_digest 74 = .ok (.i2l, 1) := by decide +kernel
theorem dX8_digest_75 : decode cX8_digest 75 = .ok (.ladd, 1) := by decide +kernel
theorem dX8_digest_76 : decode cX8_digest 76 = .ok (.lstore_n 1, 1) := by decide +kernel
theorem dX8_digest_77 : decode cX8_digest 77 = .ok (.iinc 3 1, 3) := by decide +kernel
theorem dX8_digest_80 : decode cX8_digest 80 = .ok (.goto (-48), 3) := by decide +kernel
theorem dX8_digest_83 : decode cX8_digest 83 = .ok (.iconst 0, 1) := by decide +kernel
theorem dX8_digest_84 : decode cX8_digest 84 = .ok (.istore_n 3, 1) := by decide +kernel
theorem dX8_digest_85 : decode cX8_digest 85 = .ok (.iload_n 3, 1) := by decide +kernel
theorem dX8_digest_86 : decode cX8_digest 86 = .ok (.bipush 8, 2) := by decide +kernel
theorem dX8_digest_88 : decode cX8_digest 88 = .ok (.if_icmp .ge 23, 3) := by decide +kernel
theorem dX8_digest_91 : decode cX8_digest 91 = .ok (.ldc2_w 263, 3) := by decide +kernel
theorem dX8_digest_94 : decode cX8_digest 94 = .ok (.lload_n 1, 1) := by decide +kernel
theorem dX8_digest_95 : decode cX8_digest 95 = .ok (.lmul, 1) := by decide +kernel
theorem dX8_digest_96 : decode cX8_digest 96 = .ok (.aload_n 0, 1) := by decide +kernel
theorem dX8_digest_97 : decode cX8_digest 97 = .ok (.getfield 16, 3) := by decide +kernel
theorem dX8_digest_100 : decode cX8_digest 100 = .ok (.iload_n 3, 1) := by decide +kernel
theorem dX8_digest_101 : decode cX8_digest 101 = .ok (.iaload, 1) := by decide +kernel
theorem dX8_digest_102 : decode cX8_digest 102 = .ok (.i2l, 1) := by decide +kernel
theorem dX8_digest_103 : decode cX8_digest 103 = .ok (.ladd, 1) := by decide +kernel
theorem dX8_digest_104 : decode cX8_digest 104 = .ok (.lstore_n 1, 1) := by decide +kernel
theorem dX8_digest_105 : decode cX8_digest 105 = .ok (.iinc 3 1, 3) := by decide +kernel
theorem dX8_digest_108 : decode cX8_digest 108 = .ok (.goto (-23), 3) := by decide +kernel
theorem dX8_digest_111 : decode cX8_digest 111 = .ok (.ldc2_w 263, 3) := by decide +kernel
theorem dX8_digest_114 : decode cX8_digest 114 = .ok (.lload_n 1, 1) := by decide +kernel
theorem dX8_digest_115 : decode cX8_digest 115 = .ok (.lmul, 1) := by decide +kernel
theorem dX8_digest_116 : decode cX8_digest 116 = .ok (.aload_n 0, 1) := by decide +kernel
theorem dX8_digest_117 : decode cX8_digest 117 = .ok (.getfield 32, 3) := by decide +kernel
theorem dX8_digest_120 : decode cX8_digest 120 = .ok (.getfield 233, 3) := by decide +kernel
theorem dX8_digest_123 : decode cX8_digest 123 = .ok (.ladd, 1) := by decide +kernel
theorem dX8_digest_124 : decode cX8_digest 124 = .ok (.lstore_n 1, 1) := by decide +kernel
theorem dX8_digest_125 : decode cX8_digest 125 = .ok (.ldc2_w 263, 3) := by decide +kernel
theorem dX8_digest_128 : decode cX8_digest 128 = .ok (.lload_n 1, 1) := by decide +kernel
theorem dX8_digest_129 : decode cX8_digest 129 = .ok (.lmul, 1) := by decide +kernel
theorem dX8_digest_130 : decode cX8_digest 130 = .ok (.aload_n 0, 1) := by decide +kernel
theorem dX8_digest_131 : decode cX8_digest 131 = .ok (.getfield 32, 3) := by decide +kernel
theorem dX8_digest_134 : decode cX8_digest 134 = .ok (.getfield 237, 3) := by decide +kernel
theorem dX8_digest_137 : decode cX8_digest 137 = .ok (.ladd, 1) := by decide +kernel
theorem dX8_digest_138 : decode cX8_digest 138 = .ok (.lreturn, 1) := by decide +kernel
theorem dX8_refuse_0 : decode cX8_refuse 0 = .ok (.iload_n 1, 1) := by decide +kernel
theorem dX8_refuse_1 : decode cX8_refuse 1 = .ok (.bipush (-2), 2) := by decide +kernel
theorem dX8_refuse_3 : decode cX8_refuse 3 = .ok (.if_icmp .ne 16, 3) := by decide +kernel
theorem dX8_refuse_6 : decode cX8_refuse 6 = .ok (.aload_n 0, 1) := by decide +kernel
theorem dX8_refuse_7 : decode cX8_refuse 7 = .ok (.dup, 1) := by decide +kernel
theorem dX8_refuse_8 : decode cX8_refuse 8 = .ok (.getfield 252, 3) := by decide +kernel
theorem dX8_refuse_11 : decode cX8_refuse 11 = .ok (.iconst 1, 1) := by decide +kernel
theorem dX8_refuse_12 : decode cX8_refuse 12 = .ok (.iadd, 1) := by decide +kernel
theorem dX8_refuse_13 : decode cX8_refuse 13 = .ok (.putfield 252, 3) := by decide +kernel
theorem dX8_refuse_16 : decode cX8_refuse 16 = .ok (.goto 32, 3) := by decide +kernel
theorem dX8_refuse_19 : decode cX8_refuse 19 = .ok (.iload_n 1, 1) := by decide +kernel
theorem dX8_refuse_20 : decode cX8_refuse 20 = .ok (.bipush (-3), 2) := by decide +kernel
theorem dX8_refuse_22 : decode cX8_refuse 22 = .ok (.if_icmp .ne 16, 3) := by decide +kernel
theorem dX8_refuse_25 : decode cX8_refuse 25 = .ok (.aload_n 0, 1) := by decide +kernel
theorem dX8_refuse_26 : decode cX8_refuse 26 = .ok (.dup, 1) := by decide +kernel
theorem dX8_refuse_27 : decode cX8_refuse 27 = .ok (.getfield 255, 3) := by decide +kernel
theorem dX8_refuse_30 : decode cX8_refuse 30 = .ok (.iconst 1, 1) := by decide +kernel
theorem dX8_refuse_31 : decode cX8_refuse 31 = .ok (.iadd, 1) := by decide +kernel
theorem dX8_refuse_32 : decode cX8_refuse 32 = .ok (.putfield 255, 3) := by decide +kernel
theorem dX8_refuse_35 : decode cX8_refuse 35 = .ok (.goto 13, 3) := by decide +kernel
theorem dX8_refuse_38 : decode cX8_refuse 38 = .ok (.aload_n 0, 1) := by decide +kernel
theorem dX8_refuse_39 : decode cX8_refuse 39 = .ok (.dup, 1) := by decide +kernel
theorem dX8_refuse_40 : decode cX8_refuse 40 = .ok (.getfield 258, 3) := by decide +kernel
theorem dX8_refuse_43 : decode cX8_refuse 43 = .ok (.iconst 1, 1) := by decide +kernel
theorem dX8_refuse_44 : decode cX8_refuse 44 = .ok (.iadd, 1) := by decide +kernel
theorem dX8_refuse_45 : decode cX8_refuse 45 = .ok (.putfield 258, 3) := by decide +kernel
theorem dX8_refuse_48 : decode cX8_refuse 48 = .ok (.iload_n 2, 1) := by decide +kernel
theorem dX8_refuse_49 : decode cX8_refuse 49 = .ok (.ireturn, 1) := by decide +kernel
theorem dX8_between_0 : decode cX8_between 0 = .ok (.iload_n 0, 1) := by decide +kernel
theorem dX8_between_1 : decode cX8_between 1 = .ok (.iload_n 1, 1) := by decide +kernel
theorem dX8_between_2 : decode cX8_between 2 = .ok (.if_icmp .lt 12, 3) := by decide +kernel
theorem dX8_between_5 : decode cX8_between 5 = .ok (.iload_n 0, 1) := by decide +kernel
theorem dX8_between_6 : decode cX8_between 6 = .ok (.iload_n 2, 1) := by decide +kernel
theorem dX8_between_7 : decode cX8_between 7 = .ok (.if_icmp .gt 7, 3) := by decide +kernel
theorem dX8_between_10 : decode cX8_between 10 = .ok (.iconst 1, 1) := by decide +kernel
theorem dX8_between_11 : decode cX8_between 11 = .ok (.goto 4, 3) := by decide +kernel
theorem dX8_between_14 : decode cX8_between 14 = .ok (.iconst 0, 1) := by decide +kernel
theorem dX8_between_15 : decode cX8_between 15 = .ok (.ireturn, 1) := by decide +kernel
set_option maxRecDepth 20000 in
theorem ggX8_isLaw_X8_between : GoodIn wsX8_isLaw wsX8_between := goodIn_r _ [4] (by decide +kernel) (by decide +kernel)
set_option maxRecDepth 20000 in
theorem gX8_isLaw_X8_between : GoodIn wsX8_isLaw (va_wsS RX8 86 yX8_between wsX8_between) := goodIn_app (goodIn_of _ (by decide +kernel)) ggX8_isLaw_X8_between
theorem dX8_isLaw_0 : decode cX8_isLaw 0 = .ok (.iload_n 0, 1) := by decide +kernel
theorem dX8_isLaw_1 : decode cX8_isLaw 1 = .ok (.iconst 0, 1) := by decide +kernel
theorem dX8_isLaw_2 : decode cX8_isLaw 2 = .ok (.iconst 4, 1) := by decide +kernel
theorem dX8_isLaw_3 : decode cX8_isLaw 3 = .ok (.invokestatic 86, 3) := by decide +kernel
theorem dX8_isLaw_6 : decode cX8_isLaw 6 = .ok (.ireturn, 1) := by decide +kernel
set_option maxRecDepth 20000 in
theorem ggX8_isBox_X8_between : GoodIn wsX8_isBox wsX8_between := goodIn_r _ [6] (by decide +kernel) (by decide +kernel)
set_option maxRecDepth 20000 in
theorem gX8_isBox_X8_between : GoodIn wsX8_isBox (va_wsS RX8 86 yX8_between wsX8_between) := goodIn_app (goodIn_of _ (by decide +kernel)) ggX8_isBox_X8_between
theorem dX8_isBox_0 : decode cX8_isBox 0 = .ok (.iload_n 1, 1) := by decide +kernel
theorem dX8_isBox_1 : decode cX8_isBox 1 = .ok (.iconst 0, 1) := by decide +kernel
theorem dX8_isBox_2 : decode cX8_isBox 2 = .ok (.iconst 1, 1) := by decide +kernel
theorem dX8_isBox_3 : decode cX8_isBox 3 = .ok (.aload_n 0, 1) := by decide +kernel
theorem dX8_isBox_4 : decode cX8_isBox 4 = .ok (.getfield 12, 3) := by decide +kernel
theorem dX8_isBox_7 : decode cX8_isBox 7 = .ok (.getfield 94, 3) := by decide +kernel
theorem dX8_isBox_10 : decode cX8_isBox 10 = .ok (.ishl, 1) := by decide +kernel
theorem dX8_isBox_11 : decode cX8_isBox 11 = .ok (.iconst 1, 1) := by decide +kernel
theorem dX8_isBox_12 : decode cX8_isBox 12 = .ok (.isub, 1) := by decide +kernel
theorem dX8_isBox_13 : decode cX8_isBox 13 = .ok (.invokestatic 86, 3) := by decide +kernel
theorem dX8_isBox_16 : decode cX8_isBox 16 = .ok (.ireturn, 1) := by decide +kernel
theorem dX8_has_0 : decode cX8_has 0 = .ok (.iload_n 0, 1) := by decide +kernel
theorem dX8_has_1 : decode cX8_has 1 = .ok (.iload_n 1, 1) := by decide +kernel
theorem dX8_has_2 : decode cX8_has 2 = .ok (.iushr, 1) := by decide +kernel
theorem dX8_has_3 : decode cX8_has 3 = .ok (.iconst 1, 1) := by decide +kernel
theorem dX8_has_4 : decode cX8_has 4 = .ok (.iand, 1) := by decide +kernel
theorem dX8_has_5 : decode cX8_has 5 = .ok (.ifCond .eq 7, 3) := by decide +kernel
theorem dX8_has_8 : decode cX8_has 8 = .ok (.iconst 1, 1) := by decide +kernel
theorem dX8_has_9 : decode cX8_has 9 = .ok (.goto 4, 3) := by decide +kernel
theorem dX8_has_12 : decode cX8_has 12 = .ok (.iconst 0, 1) := by decide +kernel
theorem dX8_has_13 : decode cX8_has 13 = .ok (.ireturn, 1) := by decide +kernel
theorem dX8_within_0 : decode cX8_within 0 = .ok (.iload_n 0, 1) := by decide +kernel
theorem dX8_within_1 : decode cX8_within 1 = .ok (.iload_n 1, 1) := by decide +kernel
theorem dX8_within_2 : decode cX8_within 2 = .ok (.if_icmp .eq 15, 3) := by decide +kernel
theorem dX8_within_5 : decode cX8_within 5 = .ok (.iload_n 0, 1) := by decide +kernel
theorem dX8_within_6 : decode cX8_within 6 = .ok (.iload_n 1, 1) := by decide +kernel
theorem dX8_within_7 : decode cX8_within 7 = .ok (.iconst (-1), 1) := by decide +kernel
theorem dX8_within_8 : decode cX8_within 8 = .ok (.ixor, 1) := by decide +kernel
theorem dX8_within_9 : decode cX8_within 9 = .ok (.iand, 1) := by decide +kernel
theorem dX8_within_10 : decode cX8_within 10 = .ok (.ifCond .ne 7, 3) := by decide +kernel
theorem dX8_within_13 : decode cX8_within 13 = .ok (.iconst 1, 1) := by decide +kernel
theorem dX8_within_14 : decode cX8_within 14 = .ok (.goto 4, 3) := by decide +kernel
theorem dX8_within_17 : decode cX8_within 17 = .ok (.iconst 0, 1) := by decide +kernel
theorem dX8_within_18 : decode cX8_within 18 = .ok (.ireturn, 1) := by decide +kernel
set_option maxRecDepth 20000 in
theorem ggX8_layOverList_X3_lay : GoodIn wsX8_layOverList wsX3_lay := goodIn_r _ [11, 12, 13, 14, 15, 16, 17, 18, 19, 20, 21, 22, 23, 24, 25, 26, 27, 28, 29, 30, 10, 31, 32, 33, 34, 35, 36, 37, 38, 39, 40, 41, 42, 43, 44, 45, 46, 47, 48, 49, 50, 51, 52, 53, 54, 55, 79, 80, 81, 82, 83, 84, 85, 86] (by decide +kernel) (by decide +kernel)
set_option maxRecDepth 20000 in
theorem gX8_layOverList_X3_lay : GoodIn wsX8_layOverList (wsV RX8 268 RX3 yX3_lay wsX3_lay) := goodIn_app (goodIn_of _ (by decide +kernel)) ggX8_layOverList_X3_lay
theorem dX8_layOverList_0 : decode cX8_layOverList 0 = .ok (.aload_n 0, 1) := by decide +kernel
theorem dX8_layOverList_1 : decode cX8_layOverList 1 = .ok (.getfield 48, 3) := by decide +kernel
theorem dX8_layOverList_4 : decode cX8_layOverList 4 = .ok (.iload_n 1, 1) := by decide +kernel
theorem dX8_layOverList_5 : decode cX8_layOverList 5 = .ok (.aload_n 0, 1) := by decide +kernel
theorem dX8_layOverList_6 : decode cX8_layOverList 6 = .ok (.getfield 12, 3) := by decide +kernel
theorem dX8_layOverList_9 : decode cX8_layOverList 9 = .ok (.getfield 101, 3) := by decide +kernel
theorem dX8_layOverList_12 : decode cX8_layOverList 12 = .ok (.aload_n 0, 1) := by decide +kernel
theorem dX8_layOverList_13 : decode cX8_layOverList 13 = .ok (.getfield 12, 3) := by decide +kernel
theorem dX8_layOverList_16 : decode cX8_layOverList 16 = .ok (.getfield 104, 3) := by decide +kernel
theorem dX8_layOverList_19 : decode cX8_layOverList 19 = .ok (.aload_n 0, 1) := by decide +kernel
theorem dX8_layOverList_20 : decode cX8_layOverList 20 = .ok (.getfield 12, 3) := by decide +kernel
theorem dX8_layOverList_23 : decode cX8_layOverList 23 = .ok (.getfield 118, 3) := by decide +kernel
theorem dX8_layOverList_26 : decode cX8_layOverList 26 = .ok (.aload_n 0, 1) := by decide +kernel
theorem dX8_layOverList_27 : decode cX8_layOverList 27 = .ok (.getfield 12, 3) := by decide +kernel
theorem dX8_layOverList_30 : decode cX8_layOverList 30 = .ok (.getfield 98, 3) := by decide +kernel
theorem dX8_layOverList_33 : decode cX8_layOverList 33 = .ok (.invokevirtual 268, 3) := by decide +kernel
theorem dX8_layOverList_36 : decode cX8_layOverList 36 = .ok (.return_, 1) := by decide +kernel
set_option maxRecDepth 20000 in
theorem ggX8_layOverAll_X3_lay : GoodIn wsX8_layOverAll wsX3_lay := goodIn_r _ [11, 12, 13, 14, 15, 16, 17, 18, 19, 20, 21, 22, 23, 24, 25, 26, 27, 28, 29, 30, 10, 31, 32, 33, 34, 35, 36, 37, 38, 39, 40, 41, 42, 43, 44, 45, 46, 47, 48, 49, 50, 51, 52, 53, 54, 55, 79, 80, 81, 82, 83, 84, 85, 86] (by decide +kernel) (by decide +kernel)
set_option maxRecDepth 20000 in
theorem gX8_layOverAll_X3_lay : GoodIn wsX8_layOverAll (wsV RX8 268 RX3 yX3_lay wsX3_lay) := goodIn_app (goodIn_of _ (by decide +kernel)) ggX8_layOverAll_X3_lay
theorem dX8_layOverAll_0 : decode cX8_layOverAll 0 = .ok (.aload_n 0, 1) := by decide +kernel
theorem dX8_layOverAll_1 : decode cX8_layOverAll 1 = .ok (.getfield 48, 3) := by decide +kernel
theorem dX8_layOverAll_4 : decode cX8_layOverAll 4 = .ok (.iload_n 1, 1) := by decide +kernel
theorem dX8_layOverAll_5 : decode cX8_layOverAll 5 = .ok (.aload_n 0, 1) := by decide +kernel
theorem dX8_layOverAll_6 : decode cX8_layOverAll 6 = .ok (.getfield 12, 3) := by decide +kernel
theorem dX8_layOverAll_9 : decode cX8_layOverAll 9 = .ok (.getfield 101, 3) := by decide +kernel
theorem dX8_layOverAll_12 : decode cX8_layOverAll 12 = .ok (.aload_n 0, 1) := by decide +kernel
theorem dX8_layOverAll_13 : decode cX8_layOverAll 13 = .ok (.getfield 12, 3) := by decide +kernel
theorem dX8_layOverAll_16 : decode cX8_layOverAll 16 = .ok (.getfield 104, 3) := by decide +kernel
theorem dX8_layOverAll_19 : decode cX8_layOverAll 19 = .ok (.getstatic 272, 3) := by decide +kernel
theorem dX8_layOverAll_22 : decode cX8_layOverAll 22 = .ok (.iconst 1, 1) := by decide +kernel
theorem dX8_layOverAll_23 : decode cX8_layOverAll 23 = .ok (.aload_n 0, 1) := by decide +kernel
theorem dX8_layOverAll_24 : decode cX8_layOverAll 24 = .ok (.getfield 12, 3) := by decide +kernel
theorem dX8_layOverAll_27 : decode cX8_layOverAll 27 = .ok (.getfield 94, 3) := by decide +kernel
theorem dX8_layOverAll_30 : decode cX8_layOverAll 30 = .ok (.ishl, 1) := by decide +kernel
theorem dX8_layOverAll_31 : decode cX8_layOverAll 31 = .ok (.invokevirtual 268, 3) := by decide +kernel
theorem dX8_layOverAll_34 : decode cX8_layOverAll 34 = .ok (.return_, 1) := by decide +kernel
set_option maxRecDepth 20000 in
theorem ggX8_beginGame_X8_layOverAll : GoodIn wsX8_beginGame wsX8_layOverAll := goodIn_r _ [10, 11, 1, 12, 13, 14, 2, 15, 16, 17, 18, 19, 20, 21, 22, 23, 24, 25, 26, 27, 28, 29, 30, 31, 32, 33, 34, 35, 36, 37, 38, 39, 40, 41, 42, 43, 44, 45, 46, 47, 9, 48, 49, 50, 51, 52, 53, 54, 55, 56, 57, 58, 59, 60, 61, 62, 85, 86, 87, 88, 89, 90, 91, 92, 93, 94, 95, 96, 97, 98, 99, 100, 101, 102, 103, 104, 105, 106, 107, 108, 109, 110, 111, 112, 113, 114, 115] (by decide +kernel) (by decide +kernel)
set_option maxRecDepth 20000 in
theorem gX8_beginGame_X8_layOverAll : GoodIn wsX8_beginGame (wsV RX8 198 RX8 yX8_layOverAll wsX8_layOverAll) := goodIn_app (goodIn_of _ (by decide +kernel)) ggX8_beginGame_X8_layOverAll
set_option maxRecDepth 20000 in
theorem ggX8_beginGame_X5_begin : GoodIn wsX8_beginGame wsX5_begin := goodIn_r _ [67, 68, 69, 70, 71, 72, 73, 18, 74, 33, 27, 75, 76, 77, 78, 79, 9, 80, 81, 82, 83, 84, 34, 35, 116, 117, 118, 119, 120, 121, 108, 109, 110, 111, 112, 113, 114, 115] (by decide +kernel) (by decide +kernel)
set_option maxRecDepth 20000 in
theorem gX8_beginGame_X5_begin : GoodIn wsX8_beginGame (wsV RX8 275 RX5 yX5_begin wsX5_begin) := goodIn_app (goodIn_of _ (by decide +kernel)) ggX8_beginGame_X5_begin
theorem dX8_beginGame_0 : decode cX8_beginGame 0 = .ok (.aload_n 0, 1) := by decide +kernel
theorem dX8_beginGame_1 : decode cX8_beginGame 1 = .ok (.getfield 12, 3) := by decide +kernel
theorem dX8_beginGame_4 : decode cX8_beginGame 4 = .ok (.getfield 94, 3) := by decide +kernel
theorem dX8_beginGame_7 : decode cX8_beginGame 7 = .ok (.iconst 4, 1) := by decide +kernel
theorem dX8_beginGame_8 : decode cX8_beginGame 8 = .ok (.if_icmp .le 5, 3) := by decide +kernel
theorem dX8_beginGame_11 : decode cX8_beginGame 11 = .ok (.iconst 0, 1) := by decide +kernel
theorem dX8_beginGame_12 : decode cX8_beginGame 12 = .ok (.ireturn, 1) := by decide +kernel
theorem dX8_beginGame_13 : decode cX8_beginGame 13 = .ok (.aload_n 0, 1) := by decide +kernel
theorem dX8_beginGame_14 : decode cX8_beginGame 14 = .ok (.iload_n 1, 1) := by decide +kernel
theorem dX8_beginGame_15 : decode cX8_beginGame 15 = .ok (.invokevirtual 198, 3) := by decide +kernel
theorem dX8_beginGame_18 : decode cX8_beginGame 18 = .ok (.iconst 0, 1) := by decide +kernel
theorem dX8_beginGame_19 : decode cX8_beginGame 19 = .ok (.istore_n 2, 1) := by decide +kernel
theorem dX8_beginGame_20 : decode cX8_beginGame 20 = .ok (.iconst 0, 1) := by decide +kernel
theorem dX8_beginGame_21 : decode cX8_beginGame 21 = .ok (.istore_n 3, 1) := by decide +kernel
theorem dX8_beginGame_22 : decode cX8_beginGame 22 = .ok (.iload_n 3, 1) := by decide +kernel
theorem dX8_beginGame_23 : decode cX8_beginGame 23 = .ok (.aload_n 0, 1) := by decide +kernel
theorem dX8_beginGame_24 : decode cX8_beginGame 24 = .ok (.getfield 12, 3) := by decide +kernel
theorem dX8_beginGame_27 : decode cX8_beginGame 27 = .ok (.getfield 98, 3) := by decide +kernel
theorem dX8_beginGame_30 : decode cX8_beginGame 30 = .ok (.if_icmp .ge 23, 3) := by decide +kernel
theorem dX8_beginGame_33 : decode cX8_beginGame 33 = .ok (.iload_n 2, 1) := by decide +kernel
theorem dX8_beginGame_34 : decode cX8_beginGame 34 = .ok (.iconst 1, 1) := by decide +kernel
theorem dX8_beginGame_35 : decode cX8_beginGame 35 = .ok (.aload_n 0, 1) := by decide +kernel
theorem dX8_beginGame_36 : decode cX8_beginGame 36 = .ok (.getfield 12, 3) := by decide +kernel
theorem dX8_beginGame_39 : decode cX8_beginGame 39 = .ok (.getfield 118, 3) := by decide +kernel
theorem dX8_beginGame_42 : decode cX8_beginGame 42 = .ok (.iload_n 3, 1) := by decide +kernel
theorem dX8_beginGame_43 : decode cX8_beginGame 43 = .ok (.iaload, 1) := by decide +kernel
theorem dX8_beginGame_44 : decode cX8_beginGame 44 = .ok (.ishl, 1) := by decide +kernel
theorem dX8_beginGame_45 : decode cX8_beginGame 45 = .ok (.ior, 1) := by decide +kernel
theorem dX8_beginGame_46 : decode cX8_beginGame 46 = .ok (.istore_n 2, 1) := by decide +kernel
theorem dX8_beginGame_47 : decode cX8_beginGame 47 = .ok (.iinc 3 1, 3) := by decide +kernel
theorem dX8_beginGame_50 : decode cX8_beginGame 50 = .ok (.goto (-28), 3) := by decide +kernel
theorem dX8_beginGame_53 : decode cX8_beginGame 53 = .ok (.aload_n 0, 1) := by decide +kernel
theorem dX8_beginGame_54 : decode cX8_beginGame 54 = .ok (.getfield 71, 3) := by decide +kernel
theorem dX8_beginGame_57 : decode cX8_beginGame 57 = .ok (.iload_n 2, 1) := by decide +kernel
theorem dX8_beginGame_58 : decode cX8_beginGame 58 = .ok (.invokevirtual 275, 3) := by decide +kernel
theorem dX8_beginGame_61 : decode cX8_beginGame 61 = .ok (.ireturn, 1) := by decide +kernel
set_option maxRecDepth 20000 in
theorem ggX8_fewestRows_X3_lay : GoodIn wsX8_fewestRows wsX3_lay := goodIn_r _ [10, 11, 12, 13, 14, 15, 16, 17, 18, 19, 20, 21, 22, 23, 24, 25, 26, 27, 28, 29, 9, 30, 31, 32, 33, 34, 35, 36, 37, 38, 39, 40, 41, 42, 43, 44, 45, 46, 47, 48, 49, 50, 51, 52, 53, 54, 133, 134, 135, 136, 137, 138, 139, 140] (by decide +kernel) (by decide +kernel)
set_option maxRecDepth 20000 in
theorem gX8_fewestRows_X3_lay : GoodIn wsX8_fewestRows (wsV RX8 268 RX3 yX3_lay wsX3_lay) := goodIn_app (goodIn_of _ (by decide +kernel)) ggX8_fewestRows_X3_lay
set_option maxRecDepth 20000 in
theorem ggX8_fewestRows_X2_value : GoodIn wsX8_fewestRows wsX2_value := goodIn_r _ [59, 60, 38, 39, 40, 141, 142, 143, 144] (by decide +kernel) (by decide +kernel)
set_option maxRecDepth 20000 in
theorem gX8_fewestRows_X2_value : GoodIn wsX8_fewestRows (wsV RX8 164 RX2 yX2_value wsX2_value) := goodIn_app (goodIn_of _ (by decide +kernel)) ggX8_fewestRows_X2_value
set_option maxRecDepth 20000 in
theorem ggX8_fewestRows_X2_keep : GoodIn wsX8_fewestRows wsX2_keep := goodIn_r _ [64, 65, 66, 67, 68, 69, 70, 71, 9, 72, 24, 18, 73, 74, 75, 76, 77, 39, 78, 79, 80, 81, 82, 25, 26, 83, 84, 85, 86, 58, 87, 88, 60, 89, 90, 91, 92, 93, 94, 95, 96, 97, 98, 99, 100, 101, 102, 103, 104, 105, 141, 142, 143, 144, 133, 134, 135, 136, 137, 138, 139, 140] (by decide +kernel) (by decide +kernel)
set_option maxRecDepth 20000 in
theorem gX8_fewestRows_X2_keep : GoodIn wsX8_fewestRows (wsV RX8 167 RX2 yX2_keep wsX2_keep) := goodIn_app (goodIn_of _ (by decide +kernel)) ggX8_fewestRows_X2_keep
set_option maxRecDepth 20000 in
theorem ggX8_fewestRows_X2_bestSum : GoodIn wsX8_fewestRows wsX2_bestSum := goodIn_r _ [109, 67, 68, 141, 142, 143, 144] (by decide +kernel) (by decide +kernel)
set_option maxRecDepth 20000 in
theorem gX8_fewestRows_X2_bestSum : GoodIn wsX8_fewestRows (wsV RX8 170 RX2 yX2_bestSum wsX2_bestSum) := goodIn_app (goodIn_of _ (by decide +kernel)) ggX8_fewestRows_X2_bestSum
theorem dX8_fewestRows_0 : decode cX8_fewestRows 0 = .ok (.aload_n 0, 1) := by decide +kernel
theorem dX8_fewestRows_1 : decode cX8_fewestRows 1 = .ok (.getfield 48, 3) := by decide +kernel
theorem dX8_fewestRows_4 : decode cX8_fewestRows 4 = .ok (.iconst 1, 1) := by decide +kernel
theorem dX8_fewestRows_5 : decode cX8_fewestRows 5 = .ok (.iconst 0, 1) := by decide +kernel
theorem dX8_fewestRows_6 : decode cX8_fewestRows 6 = .ok (.bipush 8, 2) := by decide +kernel
theorem dX8_fewestRows_8 : decode cX8_fewestRows 8 = .ok (.aload_n 0, 1) := by decide +kernel
theorem dX8_fewestRows_9 : decode cX8_fewestRows 9 = .ok (.getfield 12, 3) := by decide +kernel
theorem dX8_fewestRows_12 : decode cX8_fewestRows 12 = .ok (.getfield 118, 3) := by decide +kernel
theorem dX8_fewestRows_15 : decode cX8_fewestRows 15 = .ok (.aload_n 0, 1) := by decide +kernel
theorem dX8_fewestRows_16 : decode cX8_fewestRows 16 = .ok (.getfield 12, 3) := by decide +kernel
theorem dX8_fewestRows_19 : decode cX8_fewestRows 19 = .ok (.getfield 98, 3) := by decide +kernel
theorem dX8_fewestRows_22 : decode cX8_fewestRows 22 = .ok (.invokevirtual 268, 3) := by decide +kernel
theorem dX8_fewestRows_25 : decode cX8_fewestRows 25 = .ok (.iconst 0, 1) := by decide +kernel
theorem dX8_fewestRows_26 : decode cX8_fewestRows 26 = .ok (.istore_n 1, 1) := by decide +kernel
theorem dX8_fewestRows_27 : decode cX8_fewestRows 27 = .ok (.iload_n 1, 1) := by decide +kernel
theorem dX8_fewestRows_28 : decode cX8_fewestRows 28 = .ok (.aload_n 0, 1) := by decide +kernel
theorem dX8_fewestRows_29 : decode cX8_fewestRows 29 = .ok (.getfield 12, 3) := by decide +kernel
theorem dX8_fewestRows_32 : decode cX8_fewestRows 32 = .ok (.getfield 98, 3) := by decide +kernel
theorem dX8_fewestRows_35 : decode cX8_fewestRows 35 = .ok (.if_icmp .ge 18, 3) := by decide +kernel
theorem dX8_fewestRows_38 : decode cX8_fewestRows 38 = .ok (.aload_n 0, 1) := by decide +kernel
theorem dX8_fewestRows_39 : decode cX8_fewestRows 39 = .ok (.getfield 57, 3) := by decide +kernel
theorem dX8_fewestRows_42 : decode cX8_fewestRows 42 = .ok (.iload_n 1, 1) := by decide +kernel
theorem dX8_fewestRows_43 : decode cX8_fewestRows 43 = .ok (.iconst 1, 1) := by decide +kernel
theorem dX8_fewestRows_44 : decode cX8_fewestRows 44 = .ok (.invokevirtual 164, 3) := by decide +kernel
theorem dX8_fewestRows_47 : decode cX8_fewestRows 47 = .ok (.iinc 1 1, 3) := by decide +kernel
theorem dX8_fewestRows_50 : decode cX8_fewestRows 50 = .ok (.goto (-23), 3) := by decide +kernel
theorem dX8_fewestRows_53 : decode cX8_fewestRows 53 = .ok (.aload_n 0, 1) := by decide +kernel
theorem dX8_fewestRows_54 : decode cX8_fewestRows 54 = .ok (.getfield 57, 3) := by decide +kernel
theorem dX8_fewestRows_57 : decode cX8_fewestRows 57 = .ok (.iconst 0, 1) := by decide +kernel
theorem dX8_fewestRows_58 : decode cX8_fewestRows 58 = .ok (.invokevirtual 167, 3) := by decide +kernel
theorem dX8_fewestRows_61 : decode cX8_fewestRows 61 = .ok (.ifCond .eq 13, 3) := by decide +kernel
theorem dX8_fewestRows_64 : decode cX8_fewestRows 64 = .ok (.aload_n 0, 1) := by decide +kernel
theorem dX8_fewestRows_65 : decode cX8_fewestRows 65 = .ok (.getfield 57, 3) := by decide +kernel
theorem dX8_fewestRows_68 : decode cX8_fewestRows 68 = .ok (.invokevirtual 170, 3) := by decide +kernel
theorem dX8_fewestRows_71 : decode cX8_fewestRows 71 = .ok (.goto 4, 3) := by decide +kernel
theorem dX8_fewestRows_74 : decode cX8_fewestRows 74 = .ok (.iconst 0, 1) := by decide +kernel
theorem dX8_fewestRows_75 : decode cX8_fewestRows 75 = .ok (.ireturn, 1) := by decide +kernel
set_option maxRecDepth 20000 in
theorem ggX8_longestRow_J6_bitCount_0f7a4 : GoodIn wsX8_longestRow wsJ6_bitCount_0f7a4 := goodIn_r _ [12, 13, 14, 15] (by decide +kernel) (by decide +kernel)
set_option maxRecDepth 20000 in
theorem gX8_longestRow_J6_bitCount_0f7a4 : GoodIn wsX8_longestRow (va_wsS RX8 151 yJ6_bitCount_0f7a4 wsJ6_bitCount_0f7a4) := goodIn_app (goodIn_of _ (by decide +kernel)) ggX8_longestRow_J6_bitCount_0f7a4
set_option maxRecDepth 20000 in
theorem ggX8_longestRow_X8_longestBelow : GoodIn wsX8_longestRow wsX8_longestBelow := goodIn_r _ [20, 1, 2, 3, 4, 5, 6, 7, 8, 21, 22, 19, 23, 24, 25, 26, 27, 28, 29, 30, 31, 32, 33, 34, 35, 36, 37, 38, 39, 40, 41, 42, 43, 44, 45, 46] (by decide +kernel) (by decide +kernel)
set_option maxRecDepth 20000 in
theorem gX8_longestRow_X8_longestBelow : GoodIn wsX8_longestRow (wsV RX8 278 RX8 yX8_longestBelow wsX8_longestBelow) := goodIn_app (goodIn_of _ (by decide +kernel)) ggX8_longestRow_X8_longestBelow
theorem dX8_longestRow_0 : decode cX8_longestRow 0 = .ok (.iconst 0, 1) := by decide +kernel
theorem dX8_longestRow_1 : decode cX8_longestRow 1 = .ok (.istore_n 1, 1) := by decide +kernel
theorem dX8_longestRow_2 : decode cX8_longestRow 2 = .ok (.iconst 0, 1) := by decide +kernel
theorem dX8_longestRow_3 : decode cX8_longestRow 3 = .ok (.istore_n 2, 1) := by decide +kernel
theorem dX8_longestRow_4 : decode cX8_longestRow 4 = .ok (.iload_n 2, 1) := by decide +kernel
theorem dX8_longestRow_5 : decode cX8_longestRow 5 = .ok (.bipush 8, 2) := by decide +kernel
theorem dX8_longestRow_7 : decode cX8_longestRow 7 = .ok (.if_icmp .gt 68, 3) := by decide +kernel
theorem dX8_longestRow_10 : decode cX8_longestRow 10 = .ok (.iconst 0, 1) := by decide +kernel
theorem dX8_longestRow_11 : decode cX8_longestRow 11 = .ok (.istore_n 3, 1) := by decide +kernel
theorem dX8_longestRow_12 : decode cX8_longestRow 12 = .ok (.iload_n 3, 1) := by decide +kernel
theorem dX8_longestRow_13 : decode cX8_longestRow 13 = .ok (.aload_n 0, 1) := by decide +kernel
theorem dX8_longestRow_14 : decode cX8_longestRow 14 = .ok (.getfield 12, 3) := by decide +kernel
theorem dX8_longestRow_17 : decode cX8_longestRow 17 = .ok (.getfield 98, 3) := by decide +kernel
theorem dX8_longestRow_20 : decode cX8_longestRow 20 = .ok (.if_icmp .ge 49, 3) := by decide +kernel
theorem dX8_longestRow_23 : decode cX8_longestRow 23 = .ok (.aload_n 0, 1) := by decide +kernel
theorem dX8_longestRow_24 : decode cX8_longestRow 24 = .ok (.getfield 12, 3) := by decide +kernel
theorem dX8_longestRow_27 : decode cX8_longestRow 27 = .ok (.getfield 118, 3) := by decide +kernel
theorem dX8_longestRow_30 : decode cX8_longestRow 30 = .ok (.iload_n 3, 1) := by decide +kernel
theorem dX8_longestRow_31 : decode cX8_longestRow 31 = .ok (.iaload, 1) := by decide +kernel
theorem dX8_longestRow_32 : decode cX8_longestRow 32 = .ok (.invokestatic 151, 3) := by decide +kernel
theorem dX8_longestRow_35 : decode cX8_longestRow 35 = .ok (.iload_n 2, 1) := by decide +kernel
theorem dX8_longestRow_36 : decode cX8_longestRow 36 = .ok (.if_icmp .ne 27, 3) := by decide +kernel
theorem dX8_longestRow_39 : decode cX8_longestRow 39 = .ok (.aload_n 0, 1) := by decide +kernel
theorem dX8_longestRow_40 : decode cX8_longestRow 40 = .ok (.getfield 78, 3) := by decide +kernel
theorem dX8_longestRow_43 : decode cX8_longestRow 43 = .ok (.iload_n 3, 1) := by decide +kernel
theorem dX8_longestRow_44 : decode cX8_longestRow 44 = .ok (.iconst 1, 1) := by decide +kernel
theorem dX8_longestRow_45 : decode cX8_longestRow 45 = .ok (.aload_n 0, 1) := by decide +kernel
theorem dX8_longestRow_46 : decode cX8_longestRow 46 = .ok (.iload_n 3, 1) := by decide +kernel
theorem dX8_longestRow_47 : decode cX8_longestRow 47 = .ok (.invokevirtual 278, 3) := by decide +kernel
theorem dX8_longestRow_50 : decode cX8_longestRow 50 = .ok (.iadd, 1) := by decide +kernel
theorem dX8_longestRow_51 : decode cX8_longestRow 51 = .ok (.iastore, 1) := by decide +kernel
theorem dX8_longestRow_52 : decode cX8_longestRow 52 = .ok (.iload_n 1, 1) := by decide +kernel
theorem dX8_longestRow_53 : decode cX8_longestRow 53 = .ok (.aload_n 0, 1) := by decide +kernel
theorem dX8_longestRow_54 : decode cX8_longestRow 54 = .ok (.getfield 78, 3) := by decide +kernel
theorem dX8_longestRow_57 : decode cX8_longestRow 57 = .ok (.iload_n 3, 1) := by decide +kernel
theorem dX8_longestRow_58 : decode cX8_longestRow 58 = .ok (.iaload, 1) := by decide +kernel
theorem dX8_longestRow_59 : decode cX8_longestRow 59 = .ok (.invokestatic 281, 3) := by decide +kernel
theorem dX8_longestRow_62 : decode cX8_longestRow 62 = .ok (.istore_n 1, 1) := by decide +kernel
theorem dX8_longestRow_63 : decode cX8_longestRow 63 = .ok (.iinc 3 1, 3) := by decide +kernel
theorem dX8_longestRow_66 : decode cX8_longestRow 66 = .ok (.goto (-54), 3) := by decide +kernel
theorem dX8_longestRow_69 : decode cX8_longestRow 69 = .ok (.iinc 2 1, 3) := by decide +kernel
theorem dX8_longestRow_72 : decode cX8_longestRow 72 = .ok (.goto (-68), 3) := by decide +kernel
theorem dX8_longestRow_75 : decode cX8_longestRow 75 = .ok (.iload_n 1, 1) := by decide +kernel
theorem dX8_longestRow_76 : decode cX8_longestRow 76 = .ok (.ireturn, 1) := by decide +kernel
set_option maxRecDepth 20000 in
theorem ggX8_longestBelow_X8_within : GoodIn wsX8_longestBelow wsX8_within := goodIn_r _ [12] (by decide +kernel) (by decide +kernel)
set_option maxRecDepth 20000 in
theorem gX8_longestBelow_X8_within : GoodIn wsX8_longestBelow (va_wsS RX8 286 yX8_within wsX8_within) := goodIn_app (goodIn_of _ (by decide +kernel)) ggX8_longestBelow_X8_within
theorem dX8_longestBelow_0 : decode cX8_longestBelow 0 = .ok (.iconst 0, 1) := by decide +kernel
theorem dX8_longestBelow_1 : decode cX8_longestBelow 1 = .ok (.istore_n 2, 1) := by decide +kernel
theorem dX8_longestBelow_2 : decode cX8_longestBelow 2 = .ok (.iconst 0, 1) := by decide +kernel
theorem dX8_longestBelow_3 : decode cX8_longestBelow 3 = .ok (.istore_n 3, 1) := by decide +kernel
theorem dX8_longestBelow_4 : decode cX8_longestBelow 4 = .ok (.iload_n 3, 1) := by decide +kernel
theorem dX8_longestBelow_5 : decode cX8_longestBelow 5 = .ok (.aload_n 0, 1) := by decide +kernel
theorem dX8_longestBelow_6 : decode cX8_longestBelow 6 = .ok (.getfield 12, 3) := by decide +kernel
theorem dX8_longestBelow_9 : decode cX8_longestBelow 9 = .ok (.getfield 98, 3) := by decide +kernel
theorem dX8_longestBelow_12 : decode cX8_longestBelow 12 = .ok (.if_icmp .ge 44, 3) := by decide +kernel
theorem dX8_longestBelow_15 : decode cX8_longestBelow 15 = .ok (.aload_n 0, 1) := by decide +kernel
theorem dX8_longestBelow_16 : decode cX8_longestBelow 16 = .ok (.getfield 12, 3) := by decide +kernel
theorem dX8_longestBelow_19 : decode cX8_longestBelow 19 = .ok (.getfield 118, 3) := by decide +kernel
theorem dX8_longestBelow_22 : decode cX8_longestBelow 22 = .ok (.iload_n 3, 1) := by decide +kernel
theorem dX8_longestBelow_23 : decode cX8_longestBelow 23 = .ok (.iaload, 1) := by decide +kernel
theorem dX8_longestBelow_24 : decode cX8_longestBelow 24 = .ok (.aload_n 0, 1) := by decide +kernel
theorem dX8_longestBelow_25 : decode cX8_longestBelow 25 = .ok (.getfield 12, 3) := by decide +kernel
theorem dX8_longestBelow_28 : decode cX8_longestBelow 28 = .ok (.getfield 118, 3) := by decide +kernel
theorem dX8_longestBelow_31 : decode cX8_longestBelow 31 = .ok (.iload_n 1, 1) := by decide +kernel
theorem dX8_longestBelow_32 : decode cX8_longestBelow 32 = .ok (.iaload, 1) := by decide +kernel
theorem dX8_longestBelow_33 : decode cX8_longestBelow 33 = .ok (.invokestatic 286, 3) := by decide +kernel
theorem dX8_longestBelow_36 : decode cX8_longestBelow 36 = .ok (.ifCond .eq 14, 3) := by decide +kernel
theorem dX8_longestBelow_39 : decode cX8_longestBelow 39 = .ok (.iload_n 2, 1) := by decide +kernel
theorem dX8_longestBelow_40 : decode cX8_longestBelow 40 = .ok (.aload_n 0, 1) := by decide +kernel
theorem dX8_longestBelow_41 : decode cX8_longestBelow 41 = .ok (.getfield 78, 3) := by decide +kernel
theorem dX8_longestBelow_44 : decode cX8_longestBelow 44 = .ok (.iload_n 3, 1) := by decide +kernel
theorem dX8_longestBelow_45 : decode cX8_longestBelow 45 = .ok (.iaload, 1) := by decide +kernel
theorem dX8_longestBelow_46 : decode cX8_longestBelow 46 = .ok (.invokestatic 281, 3) := by decide +kernel
theorem dX8_longestBelow_49 : decode cX8_longestBelow 49 = .ok (.istore_n 2, 1) := by decide +kernel
theorem dX8_longestBelow_50 : decode cX8_longestBelow 50 = .ok (.iinc 3 1, 3) := by decide +kernel
theorem dX8_longestBelow_53 : decode cX8_longestBelow 53 = .ok (.goto (-49), 3) := by decide +kernel
theorem dX8_longestBelow_56 : decode cX8_longestBelow 56 = .ok (.iload_n 2, 1) := by decide +kernel
theorem dX8_longestBelow_57 : decode cX8_longestBelow 57 = .ok (.ireturn, 1) := by decide +kernel
set_option maxRecDepth 20000 in
theorem ggX8_fewestOpening_J7_fill_53178 : GoodIn wsX8_fewestOpening wsJ7_fill_53178 := goodIn_r _ [10] (by decide +kernel) (by decide +kernel)
set_option maxRecDepth 20000 in
theorem gX8_fewestOpening_J7_fill_53178 : GoodIn wsX8_fewestOpening (va_wsS RX8 291 yJ7_fill_53178 wsJ7_fill_53178) := goodIn_app (goodIn_of _ (by decide +kernel)) ggX8_fewestOpening_J7_fill_53178
theorem dX8_fewestOpening_0 : decode cX8_fewestOpening 0 = .ok (.aload_n 0, 1) := by decide +kernel
theorem dX8_fewestOpening_1 : decode cX8_fewestOpening 1 = .ok (.getfield 75, 3) := by decide +kernel
theorem dX8_fewestOpening_4 : decode cX8_fewestOpening 4 = .ok (.ldc_w 290, 3) := by decide +kernel
theorem dX8_fewestOpening_7 : decode cX8_fewestOpening 7 = .ok (.invokestatic 291, 3) := by decide +kernel
theorem dX8_fewestOpening_10 : decode cX8_fewestOpening 10 = .ok (.aload_n 0, 1) := by decide +kernel
theorem dX8_fewestOpening_11 : decode cX8_fewestOpening 11 = .ok (.getfield 75, 3) := by decide +kernel
theorem dX8_fewestOpening_14 : decode cX8_fewestOpening 14 = .ok (.iconst 0, 1) := by decide +kernel
theorem dX8_fewestOpening_15 : decode cX8_fewestOpening 15 = .ok (.iconst 0, 1) := by decide +kernel
theorem dX8_fewestOpening_16 : decode cX8_fewestOpening 16 = .ok (.iastore, 1) := by decide +kernel
theorem dX8_fewestOpening_17 : decode cX8_fewestOpening 17 = .ok (.iconst 0, 1) := by decide +kernel
theorem dX8_fewestOpening_18 : decode cX8_fewestOpening 18 = .ok (.istore_n 2, 1) := by decide +kernel
theorem dX8_fewestOpening_19 : decode cX8_fewestOpening 19 = .ok (.iload_n 2, 1) := by decide +kernel
theorem dX8_fewestOpening_20 : decode cX8_fewestOpening 20 = .ok (.aload_n 0, 1) := by decide +kernel
theorem dX8_fewestOpening_21 : decode cX8_fewestOpening 21 = .ok (.getfield 12, 3) := by decide +kernel
theorem dX8_fewestOpening_24 : decode cX8_fewestOpening 24 = .ok (.getfield 98, 3) := by decide +kernel
theorem dX8_fewestOpening_27 : decode cX8_fewestOpening 27 = .ok (.if_icmp .ge 95, 3) := by decide +kernel
theorem dX8_fewestOpening_30 : decode cX8_fewestOpening 30 = .ok (.ldc_w 297, 3) := by decide +kernel
theorem dX8_fewestOpening_33 : decode cX8_fewestOpening 33 = .ok (.iconst 1, 1) := by decide +kernel
theorem dX8_fewestOpening_34 : decode cX8_fewestOpening 34 = .ok (.iload_n 2, 1) := by decide +kernel
theorem dX8_fewestOpening_35 : decode cX8_fewestOpening 35 = .ok (.ishl, 1) := by decide +kernel
theorem dX8_fewestOpening_36 : decode cX8_fewestOpening 36 = .ok (.iadd, 1) := by decide +kernel
theorem dX8_fewestOpening_37 : decode cX8_fewestOpening 37 = .ok (.istore_n 3, 1) := by decide +kernel
theorem dX8_fewestOpening_38 : decode cX8_fewestOpening 38 = .ok (.iconst 1, 1) := by decide +kernel
theorem dX8_fewestOpening_39 : decode cX8_fewestOpening 39 = .ok (.istore 4, 2) := by decide +kernel
theorem dX8_fewestOpening_41 : decode cX8_fewestOpening 41 = .ok (.iload 4, 2) := by decide +kernel
theorem dX8_fewestOpening_43 : decode cX8_fewestOpening 43 = .ok (.iload_n 1, 1) := by decide +kernel
theorem dX8_fewestOpening_44 : decode cX8_fewestOpening 44 = .ok (.if_icmp .gt 72, 3) := by decide +kernel
theorem dX8_fewestOpening_47 : decode cX8_fewestOpening 47 = .ok (.aload_n 0, 1) := by decide +kernel
theorem dX8_fewestOpening_48 : decode cX8_fewestOpening 48 = .ok (.getfield 75, 3) := by decide +kernel
theorem dX8_fewestOpening_51 : decode cX8_fewestOpening 51 = .ok (.iload 4, 2) := by decide +kernel
theorem dX8_fewestOpening_53 : decode cX8_fewestOpening 53 = .ok (.aload_n 0, 1) := by decide +kernel
theorem dX8_fewestOpening_54 : decode cX8_fewestOpening 54 = .ok (.getfield 12, 3) := by decide +kernel
theorem dX8_fewestOpening_57 : decode cX8_fewestOpening 57 = .ok (.getfield 118, 3) := by decide +kernel
theorem dX8_fewestOpening_60 : decode cX8_fewestOpening 60 = .ok (.iload_n 2, 1) := by decide +kernel
theorem dX8_fewestOpening_61 : decode cX8_fewestOpening 61 = .ok (.iaload, 1) := by decide +kernel
theorem dX8_fewestOpening_62 : decode cX8_fewestOpening 62 = .ok (.iconst (-1), 1) := by decide +kernel
theorem dX8_fewestOpening_63 : decode cX8_fewestOpening 63 = .ok (.ixor, 1) := by decide +kernel
theorem dX8_fewestOpening_64 : decode cX8_fewestOpening 64 = .ok (.iand, 1) := by decide +kernel
theorem dX8_fewestOpening_65 : decode cX8_fewestOpening 65 = .ok (.iaload, 1) := by decide +kernel
theorem dX8_fewestOpening_66 : decode cX8_fewestOpening 66 = .ok (.istore 5, 2) := by decide +kernel
theorem dX8_fewestOpening_68 : decode cX8_fewestOpening 68 = .ok (.iload 4, 2) := by decide +kernel
theorem dX8_fewestOpening_70 : decode cX8_fewestOpening 70 = .ok (.iload_n 1, 1) := by decide +kernel
theorem dX8_fewestOpening_71 : decode cX8_fewestOpening 71 = .ok (.iconst (-1), 1) := by decide +kernel
theorem dX8_fewestOpening_72 : decode cX8_fewestOpening 72 = .ok (.ixor, 1) := by decide +kernel
theorem dX8_fewestOpening_73 : decode cX8_fewestOpening 73 = .ok (.iand, 1) := by decide +kernel
theorem dX8_fewestOpening_74 : decode cX8_fewestOpening 74 = .ok (.ifCond .ne 36, 3) := by decide +kernel
theorem dX8_fewestOpening_77 : decode cX8_fewestOpening 77 = .ok (.iload 5, 2) := by decide +kernel
theorem dX8_fewestOpening_79 : decode cX8_fewestOpening 79 = .ok (.ldc_w 290, 3) := by decide +kernel
theorem dX8_fewestOpening_82 : decode cX8_fewestOpening 82 = .ok (.if_icmp .eq 28, 3) := by decide +kernel
theorem dX8_fewestOpening_85 : decode cX8_fewestOpening 85 = .ok (.iload 5, 2) := by decide +kernel
theorem dX8_fewestOpening_87 : decode cX8_fewestOpening 87 = .ok (.iload_n 3, 1) := by decide +kernel
theorem dX8_fewestOpening_88 : decode cX8_fewestOpening 88 = .ok (.iadd, 1) := by decide +kernel
theorem dX8_fewestOpening_89 : decode cX8_fewestOpening 89 = .ok (.aload_n 0, 1) := by decide +kernel
theorem dX8_fewestOpening_90 : decode cX8_fewestOpening 90 = .ok (.getfield 75, 3) := by decide +kernel
theorem dX8_fewestOpening_93 : decode cX8_fewestOpening 93 = .ok (.iload 4, 2) := by decide +kernel
theorem dX8_fewestOpening_95 : decode cX8_fewestOpening 95 = .ok (.iaload, 1) := by decide +kernel
theorem dX8_fewestOpening_96 : decode cX8_fewestOpening 96 = .ok (.if_icmp .ge 14, 3) := by decide +kernel
theorem dX8_fewestOpening_99 : decode cX8_fewestOpening 99 = .ok (.aload_n 0, 1) := by decide +kernel
theorem dX8_fewestOpening_100 : decode cX8_fewestOpening 100 = .ok (.getfield 75, 3) := by decide +kernel
theorem dX8_fewestOpening_103 : decode cX8_fewestOpening 103 = .ok (.iload 4, 2) := by decide +kernel
theorem dX8_fewestOpening_105 : decode cX8_fewestOpening 105 = .ok (.iload 5, 2) := by decide +kernel
theorem dX8_fewestOpening_107 : decode cX8_fewestOpening 107 = .ok (.iload_n 3, 1) := by decide +kernel
theorem dX8_fewestOpening_108 : decode cX8_fewestOpening 108 = .ok (.iadd, 1) := by decide +kernel
theorem dX8_fewestOpening_109 : decode cX8_fewestOpening 109 = .ok (.iastore, 1) := by decide +kernel
theorem dX8_fewestOpening_110 : decode cX8_fewestOpening 110 = .ok (.iinc 4 1, 3) := by decide +kernel
theorem dX8_fewestOpening_113 : decode cX8_fewestOpening 113 = .ok (.goto (-72), 3) := by decide +kernel
theorem dX8_fewestOpening_116 : decode cX8_fewestOpening 116 = .ok (.iinc 2 1, 3) := by decide +kernel
theorem dX8_fewestOpening_119 : decode cX8_fewestOpening 119 = .ok (.goto (-100), 3) := by decide +kernel
theorem dX8_fewestOpening_122 : decode cX8_fewestOpening 122 = .ok (.aload_n 0, 1) := by decide +kernel
theorem dX8_fewestOpening_123 : decode cX8_fewestOpening 123 = .ok (.getfield 75, 3) := by decide +kernel
theorem dX8_fewestOpening_126 : decode cX8_fewestOpening 126 = .ok (.iload_n 1, 1) := by decide +kernel
theorem dX8_fewestOpening_127 : decode cX8_fewestOpening 127 = .ok (.iaload, 1) := by decide +kernel
theorem dX8_fewestOpening_128 : decode cX8_fewestOpening 128 = .ok (.ldc_w 290, 3) := by decide +kernel
theorem dX8_fewestOpening_131 : decode cX8_fewestOpening 131 = .ok (.if_icmp .ne 7, 3) := by decide +kernel
theorem dX8_fewestOpening_134 : decode cX8_fewestOpening 134 = .ok (.iconst (-1), 1) := by decide +kernel
theorem dX8_fewestOpening_135 : decode cX8_fewestOpening 135 = .ok (.goto 9, 3) := by decide +kernel
theorem dX8_fewestOpening_138 : decode cX8_fewestOpening 138 = .ok (.aload_n 0, 1) := by decide +kernel
theorem dX8_fewestOpening_139 : decode cX8_fewestOpening 139 = .ok (.getfield 75, 3) := by decide +kernel
theorem dX8_fewestOpening_142 : decode cX8_fewestOpening 142 = .ok (.iload_n 1, 1) := by decide +kernel
theorem dX8_fewestOpening_143 : decode cX8_fewestOpening 143 = .ok (.iaload, 1) := by decide +kernel
theorem dX8_fewestOpening_144 : decode cX8_fewestOpening 144 = .ok (.ireturn, 1) := by decide +kernel
set_option maxRecDepth 20000 in
theorem ggX8_matchedSorts_X8_has : GoodIn wsX8_matchedSorts wsX8_has := goodIn_r _ [4] (by decide +kernel) (by decide +kernel)
set_option maxRecDepth 20000 in
theorem gX8_matchedSorts_X8_has : GoodIn wsX8_matchedSorts (va_wsS RX8 298 yX8_has wsX8_has) := goodIn_app (goodIn_of _ (by decide +kernel)) ggX8_matchedSorts_X8_has
set_option maxRecDepth 20000 in
theorem ggX8_matchedSorts_J6_highestOneBit_0f7a4 : GoodIn wsX8_matchedSorts wsJ6_highestOneBit_0f7a4 := goodIn_r _ [8, 9, 10, 11, 7, 12, 13] (by decide +kernel) (by decide +kernel)
set_option maxRecDepth 20000 in
theorem gX8_matchedSorts_J6_highestOneBit_0f7a4 : GoodIn wsX8_matchedSorts (va_wsS RX8 301 yJ6_highestOneBit_0f7a4 wsJ6_highestOneBit_0f7a4) := goodIn_app (goodIn_of _ (by decide +kernel)) ggX8_matchedSorts_J6_highestOneBit_0f7a4
theorem dX8_matchedSorts_0 : decode cX8_matchedSorts 0 = .ok (.iconst 0, 1) := by decide +kernel
theorem dX8_matchedSorts_1 : decode cX8_matchedSorts 1 = .ok (.istore_n 2, 1) := by decide +kernel
theorem dX8_matchedSorts_2 : decode cX8_matchedSorts 2 = .ok (.iconst 0, 1) := by decide +kernel
theorem dX8_matchedSorts_3 : decode cX8_matchedSorts 3 = .ok (.istore_n 3, 1) := by decide +kernel
theorem dX8_matchedSorts_4 : decode cX8_matchedSorts 4 = .ok (.iconst 0, 1) := by decide +kernel
theorem dX8_matchedSorts_5 : decode cX8_matchedSorts 5 = .ok (.istore 4, 2) := by decide +kernel
theorem dX8_matchedSorts_7 : decode cX8_matchedSorts 7 = .ok (.iload 4, 2) := by decide +kernel
theorem dX8_matchedSorts_9 : decode cX8_matchedSorts 9 = .ok (.iload_n 1, 1) := by decide +kernel
theorem dX8_matchedSorts_10 : decode cX8_matchedSorts 10 = .ok (.if_icmp .ge 55, 3) := by decide +kernel
theorem dX8_matchedSorts_13 : decode cX8_matchedSorts 13 = .ok (.iload_n 0, 1) := by decide +kernel
theorem dX8_matchedSorts_14 : decode cX8_matchedSorts 14 = .ok (.iload 4, 2) := by decide +kernel
theorem dX8_matchedSorts_16 : decode cX8_matchedSorts 16 = .ok (.invokestatic 298, 3) := by decide +kernel
theorem dX8_matchedSorts_19 : decode cX8_matchedSorts 19 = .ok (.ifCond .ne 13, 3) := by decide +kernel
theorem dX8_matchedSorts_22 : decode cX8_matchedSorts 22 = .ok (.iload_n 2, 1) := by decide +kernel
theorem dX8_matchedSorts_23 : decode cX8_matchedSorts 23 = .ok (.iconst 1, 1) := by decide +kernel
theorem dX8_matchedSorts_24 : decode cX8_matchedSorts 24 = .ok (.iload 4, 2) := by decide +kernel
theorem dX8_matchedSorts_26 : decode cX8_matchedSorts 26 = .ok (.ishl, 1) := by decide +kernel
theorem dX8_matchedSorts_27 : decode cX8_matchedSorts 27 = .ok (.ior, 1) := by decide +kernel
theorem dX8_matchedSorts_28 : decode cX8_matchedSorts 28 = .ok (.istore_n 2, 1) := by decide +kernel
theorem dX8_matchedSorts_29 : decode cX8_matchedSorts 29 = .ok (.goto 30, 3) := by decide +kernel
theorem dX8_matchedSorts_32 : decode cX8_matchedSorts 32 = .ok (.iload_n 2, 1) := by decide +kernel
theorem dX8_matchedSorts_33 : decode cX8_matchedSorts 33 = .ok (.ifCond .eq 26, 3) := by decide +kernel
theorem dX8_matchedSorts_36 : decode cX8_matchedSorts 36 = .ok (.iload_n 2, 1) := by decide +kernel
theorem dX8_matchedSorts_37 : decode cX8_matchedSorts 37 = .ok (.invokestatic 301, 3) := by decide +kernel
theorem dX8_matchedSorts_40 : decode cX8_matchedSorts 40 = .ok (.istore 5, 2) := by decide +kernel
theorem dX8_matchedSorts_42 : decode cX8_matchedSorts 42 = .ok (.iload_n 2, 1) := by decide +kernel
theorem dX8_matchedSorts_43 : decode cX8_matchedSorts 43 = .ok (.iload 5, 2) := by decide +kernel
theorem dX8_matchedSorts_45 : decode cX8_matchedSorts 45 = .ok (.iconst (-1), 1) := by decide +kernel
theorem dX8_matchedSorts_46 : decode cX8_matchedSorts 46 = .ok (.ixor, 1) := by decide +kernel
theorem dX8_matchedSorts_47 : decode cX8_matchedSorts 47 = .ok (.iand, 1) := by decide +kernel
theorem dX8_matchedSorts_48 : decode cX8_matchedSorts 48 = .ok (.istore_n 2, 1) := by decide +kernel
theorem dX8_matchedSorts_49 : decode cX8_matchedSorts 49 = .ok (.iload_n 3, 1) := by decide +kernel
theorem dX8_matchedSorts_50 : decode cX8_matchedSorts 50 = .ok (.iload 5, 2) := by decide +kernel
theorem dX8_matchedSorts_52 : decode cX8_matchedSorts 52 = .ok (.iconst 1, 1) := by decide +kernel
theorem dX8_matchedSorts_53 : decode cX8_matchedSorts 53 = .ok (.iload 4, 2) := by decide +kernel
theorem dX8_matchedSorts_55 : decode cX8_matchedSorts 55 = .ok (.ishl, 1) := by decide +kernel
theorem dX8_matchedSorts_56 : decode cX8_matchedSorts 56 = .ok (.ior, 1) := by decide +kernel
theorem dX8_matchedSorts_57 : decode cX8_matchedSorts 57 = .ok (.ior, 1) := by decide +kernel
theorem dX8_matchedSorts_58 : decode cX8_matchedSorts 58 = .ok (.istore_n 3, 1) := by decide +kernel
theorem dX8_matchedSorts_59 : decode cX8_matchedSorts 59 = .ok (.iinc 4 1, 3) := by decide +kernel
theorem dX8_matchedSorts_62 : decode cX8_matchedSorts 62 = .ok (.goto (-55), 3) := by decide +kernel
theorem dX8_matchedSorts_65 : decode cX8_matchedSorts 65 = .ok (.iload_n 3, 1) := by decide +kernel
theorem dX8_matchedSorts_66 : decode cX8_matchedSorts 66 = .ok (.ireturn, 1) := by decide +kernel
set_option maxRecDepth 20000 in
theorem ggX8_lowestBits_J6_lowestOneBit_0f7a4 : GoodIn wsX8_lowestBits wsJ6_lowestOneBit_0f7a4 := goodIn_r _ [4] (by decide +kernel) (by decide +kernel)
set_option maxRecDepth 20000 in
theorem gX8_lowestBits_J6_lowestOneBit_0f7a4 : GoodIn wsX8_lowestBits (va_wsS RX8 189 yJ6_lowestOneBit_0f7a4 wsJ6_lowestOneBit_0f7a4) := goodIn_app (goodIn_of _ (by decide +kernel)) ggX8_lowestBits_J6_lowestOneBit_0f7a4
theorem dX8_lowestBits_0 : decode cX8_lowestBits 0 = .ok (.iload_n 0, 1) := by decide +kernel
theorem dX8_lowestBits_1 : decode cX8_lowestBits 1 = .ok (.istore_n 2, 1) := by decide +kernel
theorem dX8_lowestBits_2 : decode cX8_lowestBits 2 = .ok (.iconst 0, 1) := by decide +kernel
theorem dX8_lowestBits_3 : decode cX8_lowestBits 3 = .ok (.istore_n 3, 1) := by decide +kernel
theorem dX8_lowestBits_4 : decode cX8_lowestBits 4 = .ok (.iload_n 3, 1) := by decide +kernel
theorem dX8_lowestBits_5 : decode cX8_lowestBits 5 = .ok (.iload_n 1, 1) := by decide +kernel
theorem dX8_lowestBits_6 : decode cX8_lowestBits 6 = .ok (.if_icmp .ge 18, 3) := by decide +kernel
theorem dX8_lowestBits_9 : decode cX8_lowestBits 9 = .ok (.iload_n 2, 1) := by decide +kernel
theorem dX8_lowestBits_10 : decode cX8_lowestBits 10 = .ok (.iload_n 2, 1) := by decide +kernel
theorem dX8_lowestBits_11 : decode cX8_lowestBits 11 = .ok (.invokestatic 189, 3) := by decide +kernel
theorem dX8_lowestBits_14 : decode cX8_lowestBits 14 = .ok (.iconst (-1), 1) := by decide +kernel
theorem dX8_lowestBits_15 : decode cX8_lowestBits 15 = .ok (.ixor, 1) := by decide +kernel
theorem dX8_lowestBits_16 : decode cX8_lowestBits 16 = .ok (.iand, 1) := by decide +kernel
theorem dX8_lowestBits_17 : decode cX8_lowestBits 17 = .ok (.istore_n 2, 1) := by decide +kernel
theorem dX8_lowestBits_18 : decode cX8_lowestBits 18 = .ok (.iinc 3 1, 3) := by decide +kernel
theorem dX8_lowestBits_21 : decode cX8_lowestBits 21 = .ok (.goto (-17), 3) := by decide +kernel
theorem dX8_lowestBits_24 : decode cX8_lowestBits 24 = .ok (.iload_n 0, 1) := by decide +kernel
theorem dX8_lowestBits_25 : decode cX8_lowestBits 25 = .ok (.iload_n 2, 1) := by decide +kernel
theorem dX8_lowestBits_26 : decode cX8_lowestBits 26 = .ok (.iconst (-1), 1) := by decide +kernel
theorem dX8_lowestBits_27 : decode cX8_lowestBits 27 = .ok (.ixor, 1) := by decide +kernel
theorem dX8_lowestBits_28 : decode cX8_lowestBits 28 = .ok (.iand, 1) := by decide +kernel
theorem dX8_lowestBits_29 : decode cX8_lowestBits 29 = .ok (.ireturn, 1) := by decide +kernel
theorem dX8_choose_0 : decode cX8_choose 0 = .ok (.lconst 1, 1) := by decide +kernel
theorem dX8_choose_1 : decode cX8_choose 1 = .ok (.lstore_n 2, 1) := by decide +kernel
theorem dX8_choose_2 : decode cX8_choose 2 = .ok (.iconst 1, 1) := by decide +kernel
theorem dX8_choose_3 : decode cX8_choose 3 = .ok (.istore 4, 2) := by decide +kernel
theorem dX8_choose_5 : decode cX8_choose 5 = .ok (.iload 4, 2) := by decide +kernel
theorem dX8_choose_7 : decode cX8_choose 7 = .ok (.iload_n 1, 1) := by decide +kernel
theorem dX8_choose_8 : decode cX8_choose 8 = .ok (.if_icmp .gt 23, 3) := by decide +kernel
theorem dX8_choose_11 : decode cX8_choose 11 = .ok (.lload_n 2, 1) := by decide +kernel
theorem dX8_choose_12 : decode cX8_choose 12 = .ok (.iload_n 0, 1) := by decide +kernel
theorem dX8_choose_13 : decode cX8_choose 13 = .ok (.iload_n 1, 1) := by decide +kernel
theorem dX8_choose_14 : decode cX8_choose 14 = .ok (.isub, 1) := by decide +kernel
theorem dX8_choose_15 : decode cX8_choose 15 = .ok (.iload 4, 2) := by decide +kernel
theorem dX8_choose_17 : decode cX8_choose 17 = .ok (.iadd, 1) := by decide +kernel
theorem dX8_choose_18 : decode cX8_choose 18 = .ok (.i2l, 1) := by decide +kernel
theorem dX8_choose_19 : decode cX8_choose 19 = .ok (.lmul, 1) := by decide +kernel
theorem dX8_choose_20 : decode cX8_choose 20 = .ok (.iload 4, 2) := by decide +kernel
theorem dX8_choose_22 : decode cX8_choose 22 = .ok (.i2l, 1) := by decide +kernel
theorem dX8_choose_23 : decode cX8_choose 23 = .ok (.ldiv, 1) := by decide +kernel
theorem dX8_choose_24 : decode cX8_choose 24 = .ok (.lstore_n 2, 1) := by decide +kernel
theorem dX8_choose_25 : decode cX8_choose 25 = .ok (.iinc 4 1, 3) := by decide +kernel
theorem dX8_choose_28 : decode cX8_choose 28 = .ok (.goto (-23), 3) := by decide +kernel
theorem dX8_choose_31 : decode cX8_choose 31 = .ok (.lload_n 2, 1) := by decide +kernel
theorem dX8_choose_32 : decode cX8_choose 32 = .ok (.lreturn, 1) := by decide +kernel
set_option maxRecDepth 20000 in
theorem ggX8_countWays_J7_fill_d0a16 : GoodIn wsX8_countWays wsJ7_fill_d0a16 := goodIn_r _ [10] (by decide +kernel) (by decide +kernel)
set_option maxRecDepth 20000 in
theorem gX8_countWays_J7_fill_d0a16 : GoodIn wsX8_countWays (va_wsS RX8 304 yJ7_fill_d0a16 wsJ7_fill_d0a16) := goodIn_app (goodIn_of _ (by decide +kernel)) ggX8_countWays_J7_fill_d0a16
theorem dX8_countWays_0 : decode cX8_countWays 0 = .ok (.aload_n 0, 1) := by decide +kernel
theorem dX8_countWays_1 : decode cX8_countWays 1 = .ok (.getfield 81, 3) := by decide +kernel
theorem dX8_countWays_4 : decode cX8_countWays 4 = .ok (.lconst 0, 1) := by decide +kernel
theorem dX8_countWays_5 : decode cX8_countWays 5 = .ok (.invokestatic 304, 3) := by decide +kernel
theorem dX8_countWays_8 : decode cX8_countWays 8 = .ok (.aload_n 0, 1) := by decide +kernel
theorem dX8_countWays_9 : decode cX8_countWays 9 = .ok (.getfield 81, 3) := by decide +kernel
theorem dX8_countWays_12 : decode cX8_countWays 12 = .ok (.iconst 0, 1) := by decide +kernel
theorem dX8_countWays_13 : decode cX8_countWays 13 = .ok (.lconst 1, 1) := by decide +kernel
theorem dX8_countWays_14 : decode cX8_countWays 14 = .ok (.lastore, 1) := by decide +kernel
theorem dX8_countWays_15 : decode cX8_countWays 15 = .ok (.iconst 0, 1) := by decide +kernel
theorem dX8_countWays_16 : decode cX8_countWays 16 = .ok (.istore_n 1, 1) := by decide +kernel
theorem dX8_countWays_17 : decode cX8_countWays 17 = .ok (.iconst 0, 1) := by decide +kernel
theorem dX8_countWays_18 : decode cX8_countWays 18 = .ok (.istore_n 2, 1) := by decide +kernel
theorem dX8_countWays_19 : decode cX8_countWays 19 = .ok (.iload_n 2, 1) := by decide +kernel
theorem dX8_countWays_20 : decode cX8_countWays 20 = .ok (.bipush 8, 2) := by decide +kernel
theorem dX8_countWays_22 : decode cX8_countWays 22 = .ok (.if_icmp .ge 76, 3) := by decide +kernel
theorem dX8_countWays_25 : decode cX8_countWays 25 = .ok (.iload_n 1, 1) := by decide +kernel
theorem dX8_countWays_26 : decode cX8_countWays 26 = .ok (.aload_n 0, 1) := by decide +kernel
theorem dX8_countWays_27 : decode cX8_countWays 27 = .ok (.getfield 16, 3) := by decide +kernel
theorem dX8_countWays_30 : decode cX8_countWays 30 = .ok (.iload_n 2, 1) := by decide +kernel
theorem dX8_countWays_31 : decode cX8_countWays 31 = .ok (.iaload, 1) := by decide +kernel
theorem dX8_countWays_32 : decode cX8_countWays 32 = .ok (.iadd, 1) := by decide +kernel
theorem dX8_countWays_33 : decode cX8_countWays 33 = .ok (.istore_n 1, 1) := by decide +kernel
theorem dX8_countWays_34 : decode cX8_countWays 34 = .ok (.iload_n 1, 1) := by decide +kernel
theorem dX8_countWays_35 : decode cX8_countWays 35 = .ok (.istore_n 3, 1) := by decide +kernel
theorem dX8_countWays_36 : decode cX8_countWays 36 = .ok (.iload_n 3, 1) := by decide +kernel
theorem dX8_countWays_37 : decode cX8_countWays 37 = .ok (.ifCond .lt 55, 3) := by decide +kernel
theorem dX8_countWays_40 : decode cX8_countWays 40 = .ok (.iload_n 3, 1) := by decide +kernel
theorem dX8_countWays_41 : decode cX8_countWays 41 = .ok (.aload_n 0, 1) := by decide +kernel
theorem dX8_countWays_42 : decode cX8_countWays 42 = .ok (.getfield 16, 3) := by decide +kernel
theorem dX8_countWays_45 : decode cX8_countWays 45 = .ok (.iload_n 2, 1) := by decide +kernel
theorem dX8_countWays_46 : decode cX8_countWays 46 = .ok (.iaload, 1) := by decide +kernel
theorem dX8_countWays_47 : decode cX8_countWays 47 = .ok (.invokestatic 307, 3) := by decide +kernel
theorem dX8_countWays_50 : decode cX8_countWays 50 = .ok (.istore 4, 2) := by decide +kernel
theorem dX8_countWays_52 : decode cX8_countWays 52 = .ok (.iconst 1, 1) := by decide +kernel
theorem dX8_countWays_53 : decode cX8_countWays 53 = .ok (.istore 5, 2) := by decide +kernel
theorem dX8_countWays_55 : decode cX8_countWays 55 = .ok (.iload 5, 2) := by decide +kernel
theorem dX8_countWays_57 : decode cX8_countWays 57 = .ok (.iload 4, 2) := by decide +kernel
theorem dX8_countWays_59 : decode cX8_countWays 59 = .ok (.if_icmp .gt 27, 3) := by decide +kernel
theorem dX8_countWays_62 : decode cX8_countWays 62 = .ok (.aload_n 0, 1) := by decide +kernel
theorem dX8_countWays_63 : decode cX8_countWays 63 = .ok (.getfield 81, 3) := by decide +kernel
theorem dX8_countWays_66 : decode cX8_countWays 66 = .ok (.iload_n 3, 1) := by decide +kernel
theorem dX8_countWays_67 : decode cX8_countWays 67 = .ok (.dup2, 1) := by decide +kernel
theorem dX8_countWays_68 : decode cX8_countWays 68 = .ok (.laload, 1) := by decide +kernel
theorem dX8_countWays_69 : decode cX8_countWays 69 = .ok (.aload_n 0, 1) := by decide +kernel
theorem dX8_countWays_70 : decode cX8_countWays 70 = .ok (.getfield 81, 3) := by decide +kernel
theorem dX8_countWays_73 : decode cX8_countWays 73 = .ok (.iload_n 3, 1) := by decide +kernel
theorem dX8_countWays_74 : decode cX8_countWays 74 = .ok (.iload 5, 2) := by decide +kernel
theorem dX8_countWays_76 : decode cX8_countWays 76 = .ok (.isub, 1) := by decide +kernel
theorem dX8_countWays_77 : decode cX8_countWays 77 = .ok (.laload, 1) := by decide +kernel
theorem dX8_countWays_78 : decode cX8_countWays 78 = .ok (.ladd, 1) := by decide +kernel
theorem dX8_countWays_79 : decode cX8_countWays 79 = .ok (.lastore, 1) := by decide +kernel
theorem dX8_countWays_80 : decode cX8_countWays 80 = .ok (.iinc 5 1, 3) := by decide +kernel
theorem dX8_countWays_83 : decode cX8_countWays 83 = .ok (.goto (-28), 3) := by decide +kernel
theorem dX8_countWays_86 : decode cX8_countWays 86 = .ok (.iinc 3 (-1), 3) := by decide +kernel
theorem dX8_countWays_89 : decode cX8_countWays 89 = .ok (.goto (-53), 3) := by decide +kernel
theorem dX8_countWays_92 : decode cX8_countWays 92 = .ok (.iinc 2 1, 3) := by decide +kernel
theorem dX8_countWays_95 : decode cX8_countWays 95 = .ok (.goto (-76), 3) := by decide +kernel
theorem dX8_countWays_98 : decode cX8_countWays 98 = .ok (.iload_n 1, 1) := by decide +kernel
theorem dX8_countWays_99 : decode cX8_countWays 99 = .ok (.ireturn, 1) := by decide +kernel
