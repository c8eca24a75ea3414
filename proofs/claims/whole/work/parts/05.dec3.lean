theorem dX8_init_0 : decode cX8_init 0 = .ok (.aload_n 0, 1) := by decide +kernel
theorem dX8_init_1 : decode cX8_init 1 = .ok (.invokespecial 3, 3) := by decide +kernel
theorem dX8_init_4 : decode cX8_init 4 = .ok (.aload_n 0, 1) := by decide +kernel
theorem dX8_init_5 : decode cX8_init 5 = .ok (.new 9, 3) := by decide +kernel
theorem dX8_init_8 : decode cX8_init 8 = .ok (.dup, 1) := by decide +kernel
theorem dX8_init_9 : decode cX8_init 9 = .ok (.invokespecial 11, 3) := by decide +kernel
theorem dX8_init_12 : decode cX8_init 12 = .ok (.putfield 12, 3) := by decide +kernel
theorem dX8_init_15 : decode cX8_init 15 = .ok (.aload_n 0, 1) := by decide +kernel
theorem dX8_init_16 : decode cX8_init 16 = .ok (.bipush 8, 2) := by decide +kernel
theorem dX8_init_18 : decode cX8_init 18 = .ok (.newarray .int, 2) := by decide +kernel
theorem dX8_init_20 : decode cX8_init 20 = .ok (.putfield 16, 3) := by decide +kernel
theorem dX8_init_23 : decode cX8_init 23 = .ok (.aload_n 0, 1) := by decide +kernel
theorem dX8_init_24 : decode cX8_init 24 = .ok (.iconst 2, 1) := by decide +kernel
theorem dX8_init_25 : decode cX8_init 25 = .ok (.anewarray 20, 3) := by decide +kernel
theorem dX8_init_28 : decode cX8_init 28 = .ok (.putfield 22, 3) := by decide +kernel
theorem dX8_init_31 : decode cX8_init 31 = .ok (.aload_n 0, 1) := by decide +kernel
theorem dX8_init_32 : decode cX8_init 32 = .ok (.sipush 200, 3) := by decide +kernel
theorem dX8_init_35 : decode cX8_init 35 = .ok (.newarray .int, 2) := by decide +kernel
theorem dX8_init_37 : decode cX8_init 37 = .ok (.putfield 26, 3) := by decide +kernel
theorem dX8_init_40 : decode cX8_init 40 = .ok (.aload_n 0, 1) := by decide +kernel
theorem dX8_init_41 : decode cX8_init 41 = .ok (.new 29, 3) := by decide +kernel
theorem dX8_init_44 : decode cX8_init 44 = .ok (.dup, 1) := by decide +kernel
theorem dX8_init_45 : decode cX8_init 45 = .ok (.invokespecial 31, 3) := by decide +kernel
theorem dX8_init_48 : decode cX8_init 48 = .ok (.putfield 32, 3) := by decide +kernel
theorem dX8_init_51 : decode cX8_init 51 = .ok (.aload_n 0, 1) := by decide +kernel
theorem dX8_init_52 : decode cX8_init 52 = .ok (.new 36, 3) := by decide +kernel
theorem dX8_init_55 : decode cX8_init 55 = .ok (.dup, 1) := by decide +kernel
theorem dX8_init_56 : decode cX8_init 56 = .ok (.aload_n 0, 1) := by decide +kernel
theorem dX8_init_57 : decode cX8_init 57 = .ok (.getfield 26, 3) := by decide +kernel
theorem dX8_init_60 : decode cX8_init 60 = .ok (.invokespecial 38, 3) := by decide +kernel
theorem dX8_init_63 : decode cX8_init 63 = .ok (.putfield 41, 3) := by decide +kernel
theorem dX8_init_66 : decode cX8_init 66 = .ok (.aload_n 0, 1) := by decide +kernel
theorem dX8_init_67 : decode cX8_init 67 = .ok (.new 45, 3) := by decide +kernel
theorem dX8_init_70 : decode cX8_init 70 = .ok (.dup, 1) := by decide +kernel
theorem dX8_init_71 : decode cX8_init 71 = .ok (.invokespecial 47, 3) := by decide +kernel
theorem dX8_init_74 : decode cX8_init 74 = .ok (.putfield 48, 3) := by decide +kernel
theorem dX8_init_77 : decode cX8_init 77 = .ok (.aload_n 0, 1) := by decide +kernel
theorem dX8_init_78 : decode cX8_init 78 = .ok (.new 52, 3) := by decide +kernel
theorem dX8_init_81 : decode cX8_init 81 = .ok (.dup, 1) := by decide +kernel
theorem dX8_init_82 : decode cX8_init 82 = .ok (.aload_n 0, 1) := by decide +kernel
theorem dX8_init_83 : decode cX8_init 83 = .ok (.getfield 48, 3) := by decide +kernel
theorem dX8_init_86 : decode cX8_init 86 = .ok (.invokespecial 54, 3) := by decide +kernel
theorem dX8_init_89 : decode cX8_init 89 = .ok (.putfield 57, 3) := by decide +kernel
theorem dX8_init_92 : decode cX8_init 92 = .ok (.aload_n 0, 1) := by decide +kernel
theorem dX8_init_93 : decode cX8_init 93 = .ok (.new 61, 3) := by decide +kernel
theorem dX8_init_96 : decode cX8_init 96 = .ok (.dup, 1) := by decide +kernel
theorem dX8_init_97 : decode cX8_init 97 = .ok (.aload_n 0, 1) := by decide +kernel
theorem dX8_init_98 : decode cX8_init 98 = .ok (.getfield 48, 3) := by decide +kernel
theorem dX8_init_101 : decode cX8_init 101 = .ok (.invokespecial 63, 3) := by decide +kernel
theorem dX8_init_104 : decode cX8_init 104 = .ok (.putfield 64, 3) := by decide +kernel
theorem dX8_init_107 : decode cX8_init 107 = .ok (.aload_n 0, 1) := by decide +kernel
theorem dX8_init_108 : decode cX8_init 108 = .ok (.new 68, 3) := by decide +kernel
theorem dX8_init_111 : decode cX8_init 111 = .ok (.dup, 1) := by decide +kernel
theorem dX8_init_112 : decode cX8_init 112 = .ok (.aload_n 0, 1) := by decide +kernel
theorem dX8_init_113 : decode cX8_init 113 = .ok (.getfield 48, 3) := by decide +kernel
theorem dX8_init_116 : decode cX8_init 116 = .ok (.invokespecial 70, 3) := by decide +kernel
theorem dX8_init_119 : decode cX8_init 119 = .ok (.putfield 71, 3) := by decide +kernel
theorem dX8_init_122 : decode cX8_init 122 = .ok (.aload_n 0, 1) := by decide +kernel
theorem dX8_init_123 : decode cX8_init 123 = .ok (.sipush 256, 3) := by decide +kernel
theorem dX8_init_126 : decode cX8_init 126 = .ok (.newarray .int, 2) := by decide +kernel
theorem dX8_init_128 : decode cX8_init 128 = .ok (.putfield 75, 3) := by decide +kernel
theorem dX8_init_131 : decode cX8_init 131 = .ok (.aload_n 0, 1) := by decide +kernel
theorem dX8_init_132 : decode cX8_init 132 = .ok (.bipush 16, 2) := by decide +kernel
theorem dX8_init_134 : decode cX8_init 134 = .ok (.newarray .int, 2) := by decide +kernel
theorem dX8_init_136 : decode cX8_init 136 = .ok (.putfield 78, 3) := by decide +kernel
theorem dX8_init_139 : decode cX8_init 139 = .ok (.aload_n 0, 1) := by decide +kernel
theorem dX8_init_140 : decode cX8_init 140 = .ok (.bipush 73, 2) := by decide +kernel
theorem dX8_init_142 : decode cX8_init 142 = .ok (.newarray .long, 2) := by decide +kernel
theorem dX8_init_144 : decode cX8_init 144 = .ok (.putfield 81, 3) := by decide +kernel
theorem dX8_init_147 : decode cX8_init 147 = .ok (.iconst 0, 1) := by decide +kernel
theorem dX8_init_148 : decode cX8_init 148 = .ok (.istore_n 1, 1) := by decide +kernel
theorem dX8_init_149 : decode cX8_init 149 = .ok (.iload_n 1, 1) := by decide +kernel
theorem dX8_init_150 : decode cX8_init 150 = .ok (.iconst 2, 1) := by decide +kernel
theorem dX8_init_151 : decode cX8_init 151 = .ok (.if_icmp .ge 22, 3) := by decide +kernel
theorem dX8_init_154 : decode cX8_init 154 = .ok (.aload_n 0, 1) := by decide +kernel
theorem dX8_init_155 : decode cX8_init 155 = .ok (.getfield 22, 3) := by decide +kernel
theorem dX8_init_158 : decode cX8_init 158 = .ok (.iload_n 1, 1) := by decide +kernel
theorem dX8_init_159 : decode cX8_init 159 = .ok (.new 20, 3) := by decide +kernel
theorem dX8_init_162 : decode cX8_init 162 = .ok (.dup, 1) := by decide +kernel
theorem dX8_init_163 : decode cX8_init 163 = .ok (.invokespecial 85, 3) := by decide +kernel
theorem dX8_init_166 : decode cX8_init 166 = .ok (.aastore, 1) := by decide +kernel
theorem dX8_init_167 : decode cX8_init 167 = .ok (.iinc 1 1, 3) := by decide +kernel
theorem dX8_init_170 : decode cX8_init 170 = .ok (.goto (-21), 3) := by decide +kernel
theorem dX8_init_173 : decode cX8_init 173 = .ok (.return_, 1) := by decide +kernel
set_option maxRecDepth 20000 in
theorem ggX8_sorts_X8_between : GoodIn wsX8_sorts wsX8_between := goodIn_r _ [7] (by decide +kernel) (by decide +kernel)
set_option maxRecDepth 20000 in
theorem gX8_sorts_X8_between : GoodIn wsX8_sorts (va_wsS RX8 86 yX8_between wsX8_between) := goodIn_app (goodIn_of _ (by decide +kernel)) ggX8_sorts_X8_between
set_option maxRecDepth 20000 in
theorem ggX8_sorts_X8_refuse : GoodIn wsX8_sorts wsX8_refuse := goodIn_r _ [11, 12, 13, 14, 15, 16, 17, 18, 19, 20, 21, 22, 23, 24, 25, 26, 27, 28, 29, 30, 31] (by decide +kernel) (by decide +kernel)
set_option maxRecDepth 20000 in
theorem gX8_sorts_X8_refuse : GoodIn wsX8_sorts (wsV RX8 90 RX8 yX8_refuse wsX8_refuse) := goodIn_app (goodIn_of _ (by decide +kernel)) ggX8_sorts_X8_refuse
theorem dX8_sorts_0 : decode cX8_sorts 0 = .ok (.iload_n 1, 1) := by decide +kernel
theorem dX8_sorts_1 : decode cX8_sorts 1 = .ok (.iconst 1, 1) := by decide +kernel
theorem dX8_sorts_2 : decode cX8_sorts 2 = .ok (.bipush 8, 2) := by decide +kernel
theorem dX8_sorts_4 : decode cX8_sorts 4 = .ok (.invokestatic 86, 3) := by decide +kernel
theorem dX8_sorts_7 : decode cX8_sorts 7 = .ok (.ifCond .ne 12, 3) := by decide +kernel
theorem dX8_sorts_10 : decode cX8_sorts 10 = .ok (.aload_n 0, 1) := by decide +kernel
theorem dX8_sorts_11 : decode cX8_sorts 11 = .ok (.bipush (-2), 2) := by decide +kernel
theorem dX8_sorts_13 : decode cX8_sorts 13 = .ok (.bipush (-2), 2) := by decide +kernel
theorem dX8_sorts_15 : decode cX8_sorts 15 = .ok (.invokevirtual 90, 3) := by decide +kernel
theorem dX8_sorts_18 : decode cX8_sorts 18 = .ok (.ireturn, 1) := by decide +kernel
theorem dX8_sorts_19 : decode cX8_sorts 19 = .ok (.aload_n 0, 1) := by decide +kernel
theorem dX8_sorts_20 : decode cX8_sorts 20 = .ok (.getfield 12, 3) := by decide +kernel
theorem dX8_sorts_23 : decode cX8_sorts 23 = .ok (.getfield 94, 3) := by decide +kernel
theorem dX8_sorts_26 : decode cX8_sorts 26 = .ok (.istore_n 2, 1) := by decide +kernel
theorem dX8_sorts_27 : decode cX8_sorts 27 = .ok (.aload_n 0, 1) := by decide +kernel
theorem dX8_sorts_28 : decode cX8_sorts 28 = .ok (.getfield 12, 3) := by decide +kernel
theorem dX8_sorts_31 : decode cX8_sorts 31 = .ok (.iload_n 1, 1) := by decide +kernel
theorem dX8_sorts_32 : decode cX8_sorts 32 = .ok (.putfield 94, 3) := by decide +kernel
theorem dX8_sorts_35 : decode cX8_sorts 35 = .ok (.aload_n 0, 1) := by decide +kernel
theorem dX8_sorts_36 : decode cX8_sorts 36 = .ok (.getfield 12, 3) := by decide +kernel
theorem dX8_sorts_39 : decode cX8_sorts 39 = .ok (.iconst 0, 1) := by decide +kernel
theorem dX8_sorts_40 : decode cX8_sorts 40 = .ok (.putfield 98, 3) := by decide +kernel
theorem dX8_sorts_43 : decode cX8_sorts 43 = .ok (.iload_n 2, 1) := by decide +kernel
theorem dX8_sorts_44 : decode cX8_sorts 44 = .ok (.ireturn, 1) := by decide +kernel
set_option maxRecDepth 20000 in
theorem ggX8_sizes_X8_between : GoodIn wsX8_sizes wsX8_between := goodIn_r _ [7] (by decide +kernel) (by decide +kernel)
set_option maxRecDepth 20000 in
theorem gX8_sizes_X8_between : GoodIn wsX8_sizes (va_wsS RX8 86 yX8_between wsX8_between) := goodIn_app (goodIn_of _ (by decide +kernel)) ggX8_sizes_X8_between
set_option maxRecDepth 20000 in
theorem ggX8_sizes_X8_refuse : GoodIn wsX8_sizes wsX8_refuse := goodIn_r _ [11, 12, 13, 14, 15, 16, 17, 18, 19, 20, 21, 22, 23, 24, 25, 26, 27, 28, 29, 30, 31] (by decide +kernel) (by decide +kernel)
set_option maxRecDepth 20000 in
theorem gX8_sizes_X8_refuse : GoodIn wsX8_sizes (wsV RX8 90 RX8 yX8_refuse wsX8_refuse) := goodIn_app (goodIn_of _ (by decide +kernel)) ggX8_sizes_X8_refuse
theorem dX8_sizes_0 : decode cX8_sizes 0 = .ok (.iload_n 1, 1) := by decide +kernel
theorem dX8_sizes_1 : decode cX8_sizes 1 = .ok (.iconst 0, 1) := by decide +kernel
theorem dX8_sizes_2 : decode cX8_sizes 2 = .ok (.bipush 8, 2) := by decide +kernel
theorem dX8_sizes_4 : decode cX8_sizes 4 = .ok (.invokestatic 86, 3) := by decide +kernel
theorem dX8_sizes_7 : decode cX8_sizes 7 = .ok (.ifCond .eq 13, 3) := by decide +kernel
theorem dX8_sizes_10 : decode cX8_sizes 10 = .ok (.iload_n 2, 1) := by decide +kernel
theorem dX8_sizes_11 : decode cX8_sizes 11 = .ok (.iload_n 1, 1) := by decide +kernel
theorem dX8_sizes_12 : decode cX8_sizes 12 = .ok (.bipush 8, 2) := by decide +kernel
theorem dX8_sizes_14 : decode cX8_sizes 14 = .ok (.invokestatic 86, 3) := by decide +kernel
theorem dX8_sizes_17 : decode cX8_sizes 17 = .ok (.ifCond .ne 12, 3) := by decide +kernel
theorem dX8_sizes_20 : decode cX8_sizes 20 = .ok (.aload_n 0, 1) := by decide +kernel
theorem dX8_sizes_21 : decode cX8_sizes 21 = .ok (.bipush (-2), 2) := by decide +kernel
theorem dX8_sizes_23 : decode cX8_sizes 23 = .ok (.bipush (-2), 2) := by decide +kernel
theorem dX8_sizes_25 : decode cX8_sizes 25 = .ok (.invokevirtual 90, 3) := by decide +kernel
theorem dX8_sizes_28 : decode cX8_sizes 28 = .ok (.ireturn, 1) := by decide +kernel
theorem dX8_sizes_29 : decode cX8_sizes 29 = .ok (.aload_n 0, 1) := by decide +kernel
theorem dX8_sizes_30 : decode cX8_sizes 30 = .ok (.getfield 12, 3) := by decide +kernel
theorem dX8_sizes_33 : decode cX8_sizes 33 = .ok (.iload_n 1, 1) := by decide +kernel
theorem dX8_sizes_34 : decode cX8_sizes 34 = .ok (.putfield 101, 3) := by decide +kernel
theorem dX8_sizes_37 : decode cX8_sizes 37 = .ok (.aload_n 0, 1) := by decide +kernel
theorem dX8_sizes_38 : decode cX8_sizes 38 = .ok (.getfield 12, 3) := by decide +kernel
theorem dX8_sizes_41 : decode cX8_sizes 41 = .ok (.iload_n 2, 1) := by decide +kernel
theorem dX8_sizes_42 : decode cX8_sizes 42 = .ok (.putfield 104, 3) := by decide +kernel
theorem dX8_sizes_45 : decode cX8_sizes 45 = .ok (.iconst 1, 1) := by decide +kernel
theorem dX8_sizes_46 : decode cX8_sizes 46 = .ok (.ireturn, 1) := by decide +kernel
set_option maxRecDepth 20000 in
theorem ggX8_box_X8_isBox : GoodIn wsX8_box wsX8_isBox := goodIn_r _ [7, 1, 8, 9, 10, 6, 11, 31, 32, 33, 34, 35, 36, 37, 38, 39, 40, 41, 42, 43, 44, 45, 46, 47, 48, 49, 50, 51, 52, 53] (by decide +kernel) (by decide +kernel)
set_option maxRecDepth 20000 in
theorem gX8_box_X8_isBox : GoodIn wsX8_box (wsV RX8 107 RX8 yX8_isBox wsX8_isBox) := goodIn_app (goodIn_of _ (by decide +kernel)) ggX8_box_X8_isBox
set_option maxRecDepth 20000 in
theorem ggX8_box_X8_between : GoodIn wsX8_box wsX8_between := goodIn_r _ [11] (by decide +kernel) (by decide +kernel)
set_option maxRecDepth 20000 in
theorem gX8_box_X8_between : GoodIn wsX8_box (va_wsS RX8 86 yX8_between wsX8_between) := goodIn_app (goodIn_of _ (by decide +kernel)) ggX8_box_X8_between
set_option maxRecDepth 20000 in
theorem ggX8_box_X6_holds : GoodIn wsX8_box wsX6_holds := goodIn_r _ [16, 17, 18, 48, 49, 50, 51, 52, 53] (by decide +kernel) (by decide +kernel)
set_option maxRecDepth 20000 in
theorem gX8_box_X6_holds : GoodIn wsX8_box (wsV RX8 111 RX6 yX6_holds wsX6_holds) := goodIn_app (goodIn_of _ (by decide +kernel)) ggX8_box_X6_holds
set_option maxRecDepth 20000 in
theorem ggX8_box_X8_refuse : GoodIn wsX8_box wsX8_refuse := goodIn_r _ [22, 23, 24, 25, 31, 32, 33, 34, 35, 36, 37, 38, 39, 40, 41, 42, 43, 44, 45, 46, 47] (by decide +kernel) (by decide +kernel)
set_option maxRecDepth 20000 in
theorem gX8_box_X8_refuse : GoodIn wsX8_box (wsV RX8 90 RX8 yX8_refuse wsX8_refuse) := goodIn_app (goodIn_of _ (by decide +kernel)) ggX8_box_X8_refuse
set_option maxRecDepth 20000 in
theorem ggX8_box_X6_put : GoodIn wsX8_box wsX6_put := goodIn_r _ [29, 17, 18, 30, 48, 49, 50, 51, 52, 53] (by decide +kernel) (by decide +kernel)
set_option maxRecDepth 20000 in
theorem gX8_box_X6_put : GoodIn wsX8_box (wsV RX8 114 RX6 yX6_put wsX6_put) := goodIn_app (goodIn_of _ (by decide +kernel)) ggX8_box_X6_put
theorem dX8_box_0 : decode cX8_box 0 = .ok (.aload_n 0, 1) := by decide +kernel
theorem dX8_box_1 : decode cX8_box 1 = .ok (.iload_n 1, 1) := by decide +kernel
theorem dX8_box_2 : decode cX8_box 2 = .ok (.invokevirtual 107, 3) := by decide +kernel
theorem dX8_box_5 : decode cX8_box 5 = .ok (.ifCond .eq 24, 3) := by decide +kernel
theorem dX8_box_8 : decode cX8_box 8 = .ok (.iload_n 2, 1) := by decide +kernel
theorem dX8_box_9 : decode cX8_box 9 = .ok (.iconst 0, 1) := by decide +kernel
theorem dX8_box_10 : decode cX8_box 10 = .ok (.bipush 99, 2) := by decide +kernel
theorem dX8_box_12 : decode cX8_box 12 = .ok (.invokestatic 86, 3) := by decide +kernel
theorem dX8_box_15 : decode cX8_box 15 = .ok (.ifCond .eq 14, 3) := by decide +kernel
theorem dX8_box_18 : decode cX8_box 18 = .ok (.aload_n 0, 1) := by decide +kernel
theorem dX8_box_19 : decode cX8_box 19 = .ok (.getfield 12, 3) := by decide +kernel
theorem dX8_box_22 : decode cX8_box 22 = .ok (.iload_n 1, 1) := by decide +kernel
theorem dX8_box_23 : decode cX8_box 23 = .ok (.invokevirtual 111, 3) := by decide +kernel
theorem dX8_box_26 : decode cX8_box 26 = .ok (.ifCond .eq 12, 3) := by decide +kernel
theorem dX8_box_29 : decode cX8_box 29 = .ok (.aload_n 0, 1) := by decide +kernel
theorem dX8_box_30 : decode cX8_box 30 = .ok (.bipush (-2), 2) := by decide +kernel
theorem dX8_box_32 : decode cX8_box 32 = .ok (.bipush (-2), 2) := by decide +kernel
theorem dX8_box_34 : decode cX8_box 34 = .ok (.invokevirtual 90, 3) := by decide +kernel
theorem dX8_box_37 : decode cX8_box 37 = .ok (.ireturn, 1) := by decide +kernel
theorem dX8_box_38 : decode cX8_box 38 = .ok (.aload_n 0, 1) := by decide +kernel
theorem dX8_box_39 : decode cX8_box 39 = .ok (.getfield 12, 3) := by decide +kernel
theorem dX8_box_42 : decode cX8_box 42 = .ok (.getfield 98, 3) := by decide +kernel
theorem dX8_box_45 : decode cX8_box 45 = .ok (.bipush 16, 2) := by decide +kernel
theorem dX8_box_47 : decode cX8_box 47 = .ok (.if_icmp .lt 12, 3) := by decide +kernel
theorem dX8_box_50 : decode cX8_box 50 = .ok (.aload_n 0, 1) := by decide +kernel
theorem dX8_box_51 : decode cX8_box 51 = .ok (.bipush (-4), 2) := by decide +kernel
theorem dX8_box_53 : decode cX8_box 53 = .ok (.bipush (-4), 2) := by decide +kernel
theorem dX8_box_55 : decode cX8_box 55 = .ok (.invokevirtual 90, 3) := by decide +kernel
theorem dX8_box_58 : decode cX8_box 58 = .ok (.ireturn, 1) := by decide +kernel
theorem dX8_box_59 : decode cX8_box 59 = .ok (.aload_n 0, 1) := by decide +kernel
theorem dX8_box_60 : decode cX8_box 60 = .ok (.getfield 12, 3) := by decide +kernel
theorem dX8_box_63 : decode cX8_box 63 = .ok (.iload_n 1, 1) := by decide +kernel
theorem dX8_box_64 : decode cX8_box 64 = .ok (.iload_n 2, 1) := by decide +kernel
theorem dX8_box_65 : decode cX8_box 65 = .ok (.invokevirtual 114, 3) := by decide +kernel
theorem dX8_box_68 : decode cX8_box 68 = .ok (.aload_n 0, 1) := by decide +kernel
theorem dX8_box_69 : decode cX8_box 69 = .ok (.getfield 12, 3) := by decide +kernel
theorem dX8_box_72 : decode cX8_box 72 = .ok (.getfield 98, 3) := by decide +kernel
theorem dX8_box_75 : decode cX8_box 75 = .ok (.iconst 1, 1) := by decide +kernel
theorem dX8_box_76 : decode cX8_box 76 = .ok (.isub, 1) := by decide +kernel
theorem dX8_box_77 : decode cX8_box 77 = .ok (.ireturn, 1) := by decide +kernel
set_option maxRecDepth 20000 in
theorem ggX8_pop_X8_refuse : GoodIn wsX8_pop wsX8_refuse := goodIn_r _ [8, 9, 10, 11, 12, 13, 14, 15, 16, 17, 18, 19, 20, 21, 22, 23, 24, 25, 26, 27, 28] (by decide +kernel) (by decide +kernel)
set_option maxRecDepth 20000 in
theorem gX8_pop_X8_refuse : GoodIn wsX8_pop (wsV RX8 90 RX8 yX8_refuse wsX8_refuse) := goodIn_app (goodIn_of _ (by decide +kernel)) ggX8_pop_X8_refuse
theorem dX8_pop_0 : decode cX8_pop 0 = .ok (.aload_n 0, 1) := by decide +kernel
theorem dX8_pop_1 : decode cX8_pop 1 = .ok (.getfield 12, 3) := by decide +kernel
theorem dX8_pop_4 : decode cX8_pop 4 = .ok (.getfield 98, 3) := by decide +kernel
theorem dX8_pop_7 : decode cX8_pop 7 = .ok (.iconst 1, 1) := by decide +kernel
theorem dX8_pop_8 : decode cX8_pop 8 = .ok (.if_icmp .ge 12, 3) := by decide +kernel
theorem dX8_pop_11 : decode cX8_pop 11 = .ok (.aload_n 0, 1) := by decide +kernel
theorem dX8_pop_12 : decode cX8_pop 12 = .ok (.bipush (-3), 2) := by decide +kernel
theorem dX8_pop_14 : decode cX8_pop 14 = .ok (.bipush (-3), 2) := by decide +kernel
theorem dX8_pop_16 : decode cX8_pop 16 = .ok (.invokevirtual 90, 3) := by decide +kernel
theorem dX8_pop_19 : decode cX8_pop 19 = .ok (.ireturn, 1) := by decide +kernel
theorem dX8_pop_20 : decode cX8_pop 20 = .ok (.aload_n 0, 1) := by decide +kernel
theorem dX8_pop_21 : decode cX8_pop 21 = .ok (.getfield 12, 3) := by decide +kernel
theorem dX8_pop_24 : decode cX8_pop 24 = .ok (.dup, 1) := by decide +kernel
theorem dX8_pop_25 : decode cX8_pop 25 = .ok (.getfield 98, 3) := by decide +kernel
theorem dX8_pop_28 : decode cX8_pop 28 = .ok (.iconst 1, 1) := by decide +kernel
theorem dX8_pop_29 : decode cX8_pop 29 = .ok (.isub, 1) := by decide +kernel
theorem dX8_pop_30 : decode cX8_pop 30 = .ok (.putfield 98, 3) := by decide +kernel
theorem dX8_pop_33 : decode cX8_pop 33 = .ok (.aload_n 0, 1) := by decide +kernel
theorem dX8_pop_34 : decode cX8_pop 34 = .ok (.getfield 12, 3) := by decide +kernel
theorem dX8_pop_37 : decode cX8_pop 37 = .ok (.getfield 118, 3) := by decide +kernel
theorem dX8_pop_40 : decode cX8_pop 40 = .ok (.aload_n 0, 1) := by decide +kernel
theorem dX8_pop_41 : decode cX8_pop 41 = .ok (.getfield 12, 3) := by decide +kernel
theorem dX8_pop_44 : decode cX8_pop 44 = .ok (.getfield 98, 3) := by decide +kernel
theorem dX8_pop_47 : decode cX8_pop 47 = .ok (.iaload, 1) := by decide +kernel
theorem dX8_pop_48 : decode cX8_pop 48 = .ok (.ireturn, 1) := by decide +kernel
set_option maxRecDepth 20000 in
theorem ggX8_told_X8_between : GoodIn wsX8_told wsX8_between := goodIn_r _ [8] (by decide +kernel) (by decide +kernel)
set_option maxRecDepth 20000 in
theorem gX8_told_X8_between : GoodIn wsX8_told (va_wsS RX8 86 yX8_between wsX8_between) := goodIn_app (goodIn_of _ (by decide +kernel)) ggX8_told_X8_between
set_option maxRecDepth 20000 in
theorem ggX8_told_X8_refuse : GoodIn wsX8_told wsX8_refuse := goodIn_r _ [12, 13, 14, 15, 16, 17, 18, 19, 20, 21, 22, 23, 24, 25, 26, 27, 28, 29, 30, 31, 32] (by decide +kernel) (by decide +kernel)
set_option maxRecDepth 20000 in
theorem gX8_told_X8_refuse : GoodIn wsX8_told (wsV RX8 90 RX8 yX8_refuse wsX8_refuse) := goodIn_app (goodIn_of _ (by decide +kernel)) ggX8_told_X8_refuse
theorem dX8_told_0 : decode cX8_told 0 = .ok (.iload_n 1, 1) := by decide +kernel
theorem dX8_told_1 : decode cX8_told 1 = .ok (.iconst 0, 1) := by decide +kernel
theorem dX8_told_2 : decode cX8_told 2 = .ok (.aload_n 0, 1) := by decide +kernel
theorem dX8_told_3 : decode cX8_told 3 = .ok (.getfield 12, 3) := by decide +kernel
theorem dX8_told_6 : decode cX8_told 6 = .ok (.getfield 98, 3) := by decide +kernel
theorem dX8_told_9 : decode cX8_told 9 = .ok (.iconst 1, 1) := by decide +kernel
theorem dX8_told_10 : decode cX8_told 10 = .ok (.isub, 1) := by decide +kernel
theorem dX8_told_11 : decode cX8_told 11 = .ok (.invokestatic 86, 3) := by decide +kernel
theorem dX8_told_14 : decode cX8_told 14 = .ok (.ifCond .eq 12, 3) := by decide +kernel
theorem dX8_told_17 : decode cX8_told 17 = .ok (.iload_n 2, 1) := by decide +kernel
theorem dX8_told_18 : decode cX8_told 18 = .ok (.iconst 0, 1) := by decide +kernel
theorem dX8_told_19 : decode cX8_told 19 = .ok (.iconst 1, 1) := by decide +kernel
theorem dX8_told_20 : decode cX8_told 20 = .ok (.invokestatic 86, 3) := by decide +kernel
theorem dX8_told_23 : decode cX8_told 23 = .ok (.ifCond .ne 12, 3) := by decide +kernel
theorem dX8_told_26 : decode cX8_told 26 = .ok (.aload_n 0, 1) := by decide +kernel
theorem dX8_told_27 : decode cX8_told 27 = .ok (.bipush (-2), 2) := by decide +kernel
theorem dX8_told_29 : decode cX8_told 29 = .ok (.bipush (-2), 2) := by decide +kernel
theorem dX8_told_31 : decode cX8_told 31 = .ok (.invokevirtual 90, 3) := by decide +kernel
theorem dX8_told_34 : decode cX8_told 34 = .ok (.ireturn, 1) := by decide +kernel
theorem dX8_told_35 : decode cX8_told 35 = .ok (.iload_n 2, 1) := by decide +kernel
theorem dX8_told_36 : decode cX8_told 36 = .ok (.ifCond .ne 15, 3) := by decide +kernel
theorem dX8_told_39 : decode cX8_told 39 = .ok (.aload_n 0, 1) := by decide +kernel
theorem dX8_told_40 : decode cX8_told 40 = .ok (.getfield 12, 3) := by decide +kernel
theorem dX8_told_43 : decode cX8_told 43 = .ok (.getfield 118, 3) := by decide +kernel
theorem dX8_told_46 : decode cX8_told 46 = .ok (.iload_n 1, 1) := by decide +kernel
theorem dX8_told_47 : decode cX8_told 47 = .ok (.iaload, 1) := by decide +kernel
theorem dX8_told_48 : decode cX8_told 48 = .ok (.goto 12, 3) := by decide +kernel
theorem dX8_told_51 : decode cX8_told 51 = .ok (.aload_n 0, 1) := by decide +kernel
theorem dX8_told_52 : decode cX8_told 52 = .ok (.getfield 12, 3) := by decide +kernel
theorem dX8_told_55 : decode cX8_told 55 = .ok (.getfield 121, 3) := by decide +kernel
theorem dX8_told_58 : decode cX8_told 58 = .ok (.iload_n 1, 1) := by decide +kernel
theorem dX8_told_59 : decode cX8_told 59 = .ok (.iaload, 1) := by decide +kernel
theorem dX8_told_60 : decode cX8_told 60 = .ok (.ireturn, 1) := by decide +kernel
set_option maxRecDepth 20000 in
theorem ggX8_type_X8_between : GoodIn wsX8_type wsX8_between := goodIn_r _ [6] (by decide +kernel) (by decide +kernel)
set_option maxRecDepth 20000 in
theorem gX8_type_X8_between : GoodIn wsX8_type (va_wsS RX8 86 yX8_between wsX8_between) := goodIn_app (goodIn_of _ (by decide +kernel)) ggX8_type_X8_between
set_option maxRecDepth 20000 in
theorem ggX8_type_X8_refuse : GoodIn wsX8_type wsX8_refuse := goodIn_r _ [10, 11, 12, 13, 14, 15, 16, 17, 18, 19, 20, 21, 22, 23, 24, 25, 26, 27, 28, 29, 30] (by decide +kernel) (by decide +kernel)
set_option maxRecDepth 20000 in
theorem gX8_type_X8_refuse : GoodIn wsX8_type (wsV RX8 90 RX8 yX8_refuse wsX8_refuse) := goodIn_app (goodIn_of _ (by decide +kernel)) ggX8_type_X8_refuse
theorem dX8_type_0 : decode cX8_type 0 = .ok (.iload_n 3, 1) := by decide +kernel
theorem dX8_type_1 : decode cX8_type 1 = .ok (.iconst 1, 1) := by decide +kernel
theorem dX8_type_2 : decode cX8_type 2 = .ok (.bipush 8, 2) := by decide +kernel
theorem dX8_type_4 : decode cX8_type 4 = .ok (.invokestatic 86, 3) := by decide +kernel
theorem dX8_type_7 : decode cX8_type 7 = .ok (.ifCond .ne 12, 3) := by decide +kernel
theorem dX8_type_10 : decode cX8_type 10 = .ok (.aload_n 0, 1) := by decide +kernel
theorem dX8_type_11 : decode cX8_type 11 = .ok (.bipush (-2), 2) := by decide +kernel
theorem dX8_type_13 : decode cX8_type 13 = .ok (.bipush (-2), 2) := by decide +kernel
theorem dX8_type_15 : decode cX8_type 15 = .ok (.invokevirtual 90, 3) := by decide +kernel
theorem dX8_type_18 : decode cX8_type 18 = .ok (.ireturn, 1) := by decide +kernel
theorem dX8_type_19 : decode cX8_type 19 = .ok (.aload_n 0, 1) := by decide +kernel
theorem dX8_type_20 : decode cX8_type 20 = .ok (.getfield 124, 3) := by decide +kernel
theorem dX8_type_23 : decode cX8_type 23 = .ok (.iload_n 3, 1) := by decide +kernel
theorem dX8_type_24 : decode cX8_type 24 = .ok (.iadd, 1) := by decide +kernel
theorem dX8_type_25 : decode cX8_type 25 = .ok (.sipush 200, 3) := by decide +kernel
theorem dX8_type_28 : decode cX8_type 28 = .ok (.if_icmp .le 12, 3) := by decide +kernel
theorem dX8_type_31 : decode cX8_type 31 = .ok (.aload_n 0, 1) := by decide +kernel
theorem dX8_type_32 : decode cX8_type 32 = .ok (.bipush (-4), 2) := by decide +kernel
theorem dX8_type_34 : decode cX8_type 34 = .ok (.bipush (-4), 2) := by decide +kernel
theorem dX8_type_36 : decode cX8_type 36 = .ok (.invokevirtual 90, 3) := by decide +kernel
theorem dX8_type_39 : decode cX8_type 39 = .ok (.ireturn, 1) := by decide +kernel
theorem dX8_type_40 : decode cX8_type 40 = .ok (.iload_n 3, 1) := by decide +kernel
theorem dX8_type_41 : decode cX8_type 41 = .ok (.iconst 1, 1) := by decide +kernel
theorem dX8_type_42 : decode cX8_type 42 = .ok (.isub, 1) := by decide +kernel
theorem dX8_type_43 : decode cX8_type 43 = .ok (.istore 4, 2) := by decide +kernel
theorem dX8_type_45 : decode cX8_type 45 = .ok (.iload 4, 2) := by decide +kernel
theorem dX8_type_47 : decode cX8_type 47 = .ok (.ifCond .lt 40, 3) := by decide +kernel
theorem dX8_type_50 : decode cX8_type 50 = .ok (.aload_n 0, 1) := by decide +kernel
theorem dX8_type_51 : decode cX8_type 51 = .ok (.getfield 26, 3) := by decide +kernel
theorem dX8_type_54 : decode cX8_type 54 = .ok (.aload_n 0, 1) := by decide +kernel
theorem dX8_type_55 : decode cX8_type 55 = .ok (.getfield 124, 3) := by decide +kernel
theorem dX8_type_58 : decode cX8_type 58 = .ok (.lload_n 1, 1) := by decide +kernel
theorem dX8_type_59 : decode cX8_type 59 = .ok (.bipush 8, 2) := by decide +kernel
theorem dX8_type_61 : decode cX8_type 61 = .ok (.iload 4, 2) := by decide +kernel
theorem dX8_type_63 : decode cX8_type 63 = .ok (.imul, 1) := by decide +kernel
theorem dX8_type_64 : decode cX8_type 64 = .ok (.lushr, 1) := by decide +kernel
theorem dX8_type_65 : decode cX8_type 65 = .ok (.l2i, 1) := by decide +kernel
theorem dX8_type_66 : decode cX8_type 66 = .ok (.sipush 255, 3) := by decide +kernel
theorem dX8_type_69 : decode cX8_type 69 = .ok (.iand, 1) := by decide +kernel
theorem dX8_type_70 : decode cX8_type 70 = .ok (.iastore, 1) := by decide +kernel
theorem dX8_type_71 : decode cX8_type 71 = .ok (.aload_n 0, 1) := by decide +kernel
theorem dX8_type_72 : decode cX8_type 72 = .ok (.dup, 1) := by decide +kernel
theorem dX8_type_73 : decode cX8_type 73 = .ok (.getfield 124, 3) := by decide +kernel
theorem dX8_type_76 : decode cX8_type 76 = .ok (.iconst 1, 1) := by decide +kernel
theorem dX8_type_77 : decode cX8_type 77 = .ok (.iadd, 1) := by decide +kernel
theorem dX8_type_78 : decode cX8_type 78 = .ok (.putfield 124, 3) := by decide +kernel
theorem dX8_type_81 : decode cX8_type 81 = .ok (.iinc 4 (-1), 3) := by decide +kernel
theorem dX8_type_84 : decode cX8_type 84 = .ok (.goto (-39), 3) := by decide +kernel
theorem dX8_type_87 : decode cX8_type 87 = .ok (.aload_n 0, 1) := by decide +kernel
theorem dX8_type_88 : decode cX8_type 88 = .ok (.getfield 124, 3) := by decide +kernel
theorem dX8_type_91 : decode cX8_type 91 = .ok (.ireturn, 1) := by decide +kernel
theorem dX8_clear_0 : decode cX8_clear 0 = .ok (.aload_n 0, 1) := by decide +kernel
theorem dX8_clear_1 : decode cX8_clear 1 = .ok (.getfield 124, 3) := by decide +kernel
theorem dX8_clear_4 : decode cX8_clear 4 = .ok (.istore_n 1, 1) := by decide +kernel
theorem dX8_clear_5 : decode cX8_clear 5 = .ok (.aload_n 0, 1) := by decide +kernel
theorem dX8_clear_6 : decode cX8_clear 6 = .ok (.iconst 0, 1) := by decide +kernel
theorem dX8_clear_7 : decode cX8_clear 7 = .ok (.putfield 124, 3) := by decide +kernel
theorem dX8_clear_10 : decode cX8_clear 10 = .ok (.iload_n 1, 1) := by decide +kernel
theorem dX8_clear_11 : decode cX8_clear 11 = .ok (.ireturn, 1) := by decide +kernel
set_option maxRecDepth 20000 in
theorem ggX8_read_X7_parse : GoodIn wsX8_read wsX7_parse := goodIn_r _ [10, 11, 12, 13, 14, 15, 16, 17, 18, 19, 20, 21, 22, 9, 23, 24, 25, 26, 27, 28, 29, 30, 31, 32, 33, 34, 35, 36, 37, 38, 39, 40, 41, 42, 43, 44, 45, 46, 47, 48, 49, 50, 51, 52, 53, 54, 55, 56, 57, 58, 59, 60, 61, 62, 63, 64, 65, 66, 67, 68, 69, 70, 71, 72, 73, 74, 75, 76, 77, 78, 79, 80, 81, 82, 83, 84, 85, 86, 87, 88, 89, 90, 91, 92, 93, 94, 95, 96, 97, 98, 99, 100, 101, 102, 103, 104, 105, 106, 107, 108, 109, 110, 111, 112, 113, 114, 115, 116, 117, 118, 119, 120, 121, 122, 123, 124, 125, 126, 127, 128, 129, 130, 131, 132, 133, 134, 135, 136, 137, 138, 164, 165, 166, 167, 168, 169, 170, 171, 172, 173, 174, 175] (by decide +kernel) (by decide +kernel)
set_option maxRecDepth 20000 in
theorem gX8_read_X7_parse : GoodIn wsX8_read (wsV RX8 127 RX7 yX7_parse wsX7_parse) := goodIn_app (goodIn_of _ (by decide +kernel)) ggX8_read_X7_parse
set_option maxRecDepth 20000 in
theorem ggX8_read_X6_take : GoodIn wsX8_read wsX6_take := goodIn_r _ [142, 101, 102, 103, 104, 133, 143, 144, 145, 146, 138, 170, 171, 172, 173, 174, 175] (by decide +kernel) (by decide +kernel)
set_option maxRecDepth 20000 in
theorem gX8_read_X6_take : GoodIn wsX8_read (wsV RX8 132 RX6 yX6_take wsX6_take) := goodIn_app (goodIn_of _ (by decide +kernel)) ggX8_read_X6_take
theorem dX8_read_0 : decode cX8_read 0 = .ok (.aload_n 0, 1) := by decide +kernel
theorem dX8_read_1 : decode cX8_read 1 = .ok (.getfield 41, 3) := by decide +kernel
theorem dX8_read_4 : decode cX8_read 4 = .ok (.aload_n 0, 1) := by decide +kernel
theorem dX8_read_5 : decode cX8_read 5 = .ok (.getfield 124, 3) := by decide +kernel
theorem dX8_read_8 : decode cX8_read 8 = .ok (.invokevirtual 127, 3) := by decide +kernel
theorem dX8_read_11 : decode cX8_read 11 = .ok (.istore_n 1, 1) := by decide +kernel
theorem dX8_read_12 : decode cX8_read 12 = .ok (.iload_n 1, 1) := by decide +kernel
theorem dX8_read_13 : decode cX8_read 13 = .ok (.iconst (-1), 1) := by decide +kernel
theorem dX8_read_14 : decode cX8_read 14 = .ok (.if_icmp .eq 8, 3) := by decide +kernel
theorem dX8_read_17 : decode cX8_read 17 = .ok (.bipush (-10), 2) := by decide +kernel
theorem dX8_read_19 : decode cX8_read 19 = .ok (.iload_n 1, 1) := by decide +kernel
theorem dX8_read_20 : decode cX8_read 20 = .ok (.isub, 1) := by decide +kernel
theorem dX8_read_21 : decode cX8_read 21 = .ok (.ireturn, 1) := by decide +kernel
theorem dX8_read_22 : decode cX8_read 22 = .ok (.aload_n 0, 1) := by decide +kernel
theorem dX8_read_23 : decode cX8_read 23 = .ok (.getfield 12, 3) := by decide +kernel
theorem dX8_read_26 : decode cX8_read 26 = .ok (.aload_n 0, 1) := by decide +kernel
theorem dX8_read_27 : decode cX8_read 27 = .ok (.getfield 41, 3) := by decide +kernel
theorem dX8_read_30 : decode cX8_read 30 = .ok (.getfield 131, 3) := by decide +kernel
theorem dX8_read_33 : decode cX8_read 33 = .ok (.invokevirtual 132, 3) := by decide +kernel
theorem dX8_read_36 : decode cX8_read 36 = .ok (.aload_n 0, 1) := by decide +kernel
theorem dX8_read_37 : decode cX8_read 37 = .ok (.getfield 12, 3) := by decide +kernel
theorem dX8_read_40 : decode cX8_read 40 = .ok (.getfield 98, 3) := by decide +kernel
theorem dX8_read_43 : decode cX8_read 43 = .ok (.ireturn, 1) := by decide +kernel
set_option maxRecDepth 20000 in
theorem ggX8_judge_X8_isLaw : GoodIn wsX8_judge wsX8_isLaw := goodIn_r _ [6, 7, 8, 5, 9] (by decide +kernel) (by decide +kernel)
set_option maxRecDepth 20000 in
theorem gX8_judge_X8_isLaw : GoodIn wsX8_judge (va_wsS RX8 136 yX8_isLaw wsX8_isLaw) := goodIn_app (goodIn_of _ (by decide +kernel)) ggX8_judge_X8_isLaw
set_option maxRecDepth 20000 in
theorem ggX8_judge_X8_between : GoodIn wsX8_judge wsX8_between := goodIn_r _ [9] (by decide +kernel) (by decide +kernel)
set_option maxRecDepth 20000 in
theorem gX8_judge_X8_between : GoodIn wsX8_judge (va_wsS RX8 86 yX8_between wsX8_between) := goodIn_app (goodIn_of _ (by decide +kernel)) ggX8_judge_X8_between
set_option maxRecDepth 20000 in
theorem ggX8_judge_X8_refuse : GoodIn wsX8_judge wsX8_refuse := goodIn_r _ [13, 14, 15, 16, 85, 86, 87, 88, 89, 90, 91, 92, 93, 94, 95, 96, 97, 98, 99, 100, 101] (by decide +kernel) (by decide +kernel)
set_option maxRecDepth 20000 in
theorem gX8_judge_X8_refuse : GoodIn wsX8_judge (wsV RX8 90 RX8 yX8_refuse wsX8_refuse) := goodIn_app (goodIn_of _ (by decide +kernel)) ggX8_judge_X8_refuse
set_option maxRecDepth 20000 in
theorem ggX8_judge_X8_layOverList : GoodIn wsX8_judge wsX8_layOverList := goodIn_r _ [20, 1, 21, 22, 23, 24, 25, 26, 27, 28, 29, 30, 31, 32, 33, 34, 35, 36, 37, 38, 39, 40, 41, 42, 43, 44, 45, 46, 47, 48, 49, 50, 51, 52, 53, 54, 55, 56, 57, 8, 5, 9, 58, 59, 60, 61, 62, 63, 64, 65, 66, 67, 68, 69, 70, 71, 85, 86, 87, 88, 89, 90, 91, 92, 93, 94, 95, 96, 97, 98, 99, 100, 101, 102, 103, 104, 105, 106, 107, 108, 109, 110, 111, 112, 113, 114, 115] (by decide +kernel) (by decide +kernel)
set_option maxRecDepth 20000 in
theorem gX8_judge_X8_layOverList : GoodIn wsX8_judge (wsV RX8 139 RX8 yX8_layOverList wsX8_layOverList) := goodIn_app (goodIn_of _ (by decide +kernel)) ggX8_judge_X8_layOverList
set_option maxRecDepth 20000 in
theorem ggX8_judge_X3_firstBreak : GoodIn wsX8_judge wsX3_firstBreak := goodIn_r _ [75, 38, 44, 76, 45, 77, 46, 78, 79, 5, 80, 81, 82, 53, 83, 84, 108, 109, 110, 111, 112, 113, 114, 115] (by decide +kernel) (by decide +kernel)
set_option maxRecDepth 20000 in
theorem gX8_judge_X3_firstBreak : GoodIn wsX8_judge (wsV RX8 143 RX3 yX3_firstBreak wsX3_firstBreak) := goodIn_app (goodIn_of _ (by decide +kernel)) ggX8_judge_X3_firstBreak
theorem dX8_judge_0 : decode cX8_judge 0 = .ok (.iload_n 1, 1) := by decide +kernel
theorem dX8_judge_1 : decode cX8_judge 1 = .ok (.invokestatic 136, 3) := by decide +kernel
theorem dX8_judge_4 : decode cX8_judge 4 = .ok (.ifCond .eq 12, 3) := by decide +kernel
theorem dX8_judge_7 : decode cX8_judge 7 = .ok (.iload_n 2, 1) := by decide +kernel
theorem dX8_judge_8 : decode cX8_judge 8 = .ok (.iconst 0, 1) := by decide +kernel
theorem dX8_judge_9 : decode cX8_judge 9 = .ok (.iconst 1, 1) := by decide +kernel
theorem dX8_judge_10 : decode cX8_judge 10 = .ok (.invokestatic 86, 3) := by decide +kernel
theorem dX8_judge_13 : decode cX8_judge 13 = .ok (.ifCond .ne 12, 3) := by decide +kernel
theorem dX8_judge_16 : decode cX8_judge 16 = .ok (.aload_n 0, 1) := by decide +kernel
theorem dX8_judge_17 : decode cX8_judge 17 = .ok (.bipush (-2), 2) := by decide +kernel
theorem dX8_judge_19 : decode cX8_judge 19 = .ok (.bipush (-2), 2) := by decide +kernel
theorem dX8_judge_21 : decode cX8_judge 21 = .ok (.invokevirtual 90, 3) := by decide +kernel
theorem dX8_judge_24 : decode cX8_judge 24 = .ok (.ireturn, 1) := by decide +kernel
theorem dX8_judge_25 : decode cX8_judge 25 = .ok (.aload_n 0, 1) := by decide +kernel
theorem dX8_judge_26 : decode cX8_judge 26 = .ok (.iload_n 1, 1) := by decide +kernel
theorem dX8_judge_27 : decode cX8_judge 27 = .ok (.invokevirtual 139, 3) := by decide +kernel
theorem dX8_judge_30 : decode cX8_judge 30 = .ok (.aload_n 0, 1) := by decide +kernel
theorem dX8_judge_31 : decode cX8_judge 31 = .ok (.getfield 48, 3) := by decide +kernel
theorem dX8_judge_34 : decode cX8_judge 34 = .ok (.invokevirtual 143, 3) := by decide +kernel
theorem dX8_judge_37 : decode cX8_judge 37 = .ok (.istore_n 3, 1) := by decide +kernel
theorem dX8_judge_38 : decode cX8_judge 38 = .ok (.iload_n 3, 1) := by decide +kernel
theorem dX8_judge_39 : decode cX8_judge 39 = .ok (.iconst (-1), 1) := by decide +kernel
theorem dX8_judge_40 : decode cX8_judge 40 = .ok (.if_icmp .ne 5, 3) := by decide +kernel
theorem dX8_judge_43 : decode cX8_judge 43 = .ok (.iconst (-1), 1) := by decide +kernel
theorem dX8_judge_44 : decode cX8_judge 44 = .ok (.ireturn, 1) := by decide +kernel
theorem dX8_judge_45 : decode cX8_judge 45 = .ok (.iload_n 2, 1) := by decide +kernel
theorem dX8_judge_46 : decode cX8_judge 46 = .ok (.ifCond .ne 10, 3) := by decide +kernel
theorem dX8_judge_49 : decode cX8_judge 49 = .ok (.iload_n 3, 1) := by decide +kernel
theorem dX8_judge_50 : decode cX8_judge 50 = .ok (.ldc 147, 2) := by decide +kernel
theorem dX8_judge_52 : decode cX8_judge 52 = .ok (.irem, 1) := by decide +kernel
theorem dX8_judge_53 : decode cX8_judge 53 = .ok (.goto 7, 3) := by decide +kernel
theorem dX8_judge_56 : decode cX8_judge 56 = .ok (.iload_n 3, 1) := by decide +kernel
theorem dX8_judge_57 : decode cX8_judge 57 = .ok (.ldc 147, 2) := by decide +kernel
theorem dX8_judge_59 : decode cX8_judge 59 = .ok (.idiv, 1) := by decide +kernel
theorem dX8_judge_60 : decode cX8_judge 60 = .ok (.ireturn, 1) := by decide +kernel
set_option maxRecDepth 20000 in
theorem ggX8_fullness_X0_put : GoodIn wsX8_fullness wsX0_put := goodIn_r _ [10, 11, 12, 13, 14, 9, 15, 55, 56] (by decide +kernel) (by decide +kernel)
set_option maxRecDepth 20000 in
theorem gX8_fullness_X0_put : GoodIn wsX8_fullness (wsV RX8 148 RX0 yX0_put wsX0_put) := goodIn_app (goodIn_of _ (by decide +kernel)) ggX8_fullness_X0_put
set_option maxRecDepth 20000 in
theorem ggX8_fullness_J6_bitCount_0f7a4 : GoodIn wsX8_fullness wsJ6_bitCount_0f7a4 := goodIn_r _ [19, 20, 21, 22] (by decide +kernel) (by decide +kernel)
set_option maxRecDepth 20000 in
theorem gX8_fullness_J6_bitCount_0f7a4 : GoodIn wsX8_fullness (va_wsS RX8 151 yJ6_bitCount_0f7a4 wsJ6_bitCount_0f7a4) := goodIn_app (goodIn_of _ (by decide +kernel)) ggX8_fullness_J6_bitCount_0f7a4
set_option maxRecDepth 20000 in
theorem ggX8_fullness_X8_choose : GoodIn wsX8_fullness wsX8_choose := goodIn_r _ [26] (by decide +kernel) (by decide +kernel)
set_option maxRecDepth 20000 in
theorem gX8_fullness_X8_choose : GoodIn wsX8_fullness (va_wsS RX8 156 yX8_choose wsX8_choose) := goodIn_app (goodIn_of _ (by decide +kernel)) ggX8_fullness_X8_choose
set_option maxRecDepth 20000 in
theorem ggX8_fullness_X0_addOneBy : GoodIn wsX8_fullness wsX0_addOneBy := goodIn_r _ [30, 11, 12, 31, 7, 8, 9, 10, 13, 14, 15, 55, 56] (by decide +kernel) (by decide +kernel)
set_option maxRecDepth 20000 in
theorem gX8_fullness_X0_addOneBy : GoodIn wsX8_fullness (wsV RX8 160 RX0 yX0_addOneBy wsX0_addOneBy) := goodIn_app (goodIn_of _ (by decide +kernel)) ggX8_fullness_X0_addOneBy
theorem dX8_fullness_0 : decode cX8_fullness 0 = .ok (.aload_n 0, 1) := by decide +kernel
theorem dX8_fullness_1 : decode cX8_fullness 1 = .ok (.getfield 32, 3) := by decide +kernel
theorem dX8_fullness_4 : decode cX8_fullness 4 = .ok (.lconst 0, 1) := by decide +kernel
theorem dX8_fullness_5 : decode cX8_fullness 5 = .ok (.lconst 1, 1) := by decide +kernel
theorem dX8_fullness_6 : decode cX8_fullness 6 = .ok (.invokevirtual 148, 3) := by decide +kernel
theorem dX8_fullness_9 : decode cX8_fullness 9 = .ok (.iconst 0, 1) := by decide +kernel
theorem dX8_fullness_10 : decode cX8_fullness 10 = .ok (.istore_n 1, 1) := by decide +kernel
theorem dX8_fullness_11 : decode cX8_fullness 11 = .ok (.iload_n 1, 1) := by decide +kernel
theorem dX8_fullness_12 : decode cX8_fullness 12 = .ok (.aload_n 0, 1) := by decide +kernel
theorem dX8_fullness_13 : decode cX8_fullness 13 = .ok (.getfield 12, 3) := by decide +kernel
theorem dX8_fullness_16 : decode cX8_fullness 16 = .ok (.getfield 98, 3) := by decide +kernel
theorem dX8_fullness_19 : decode cX8_fullness 19 = .ok (.if_icmp .ge 38, 3) := by decide +kernel
theorem dX8_fullness_22 : decode cX8_fullness 22 = .ok (.aload_n 0, 1) := by decide +kernel
theorem dX8_fullness_23 : decode cX8_fullness 23 = .ok (.getfield 32, 3) := by decide +kernel
theorem dX8_fullness_26 : decode cX8_fullness 26 = .ok (.aload_n 0, 1) := by decide +kernel
theorem dX8_fullness_27 : decode cX8_fullness 27 = .ok (.getfield 12, 3) := by decide +kernel
theorem dX8_fullness_30 : decode cX8_fullness 30 = .ok (.getfield 94, 3) := by decide +kernel
theorem dX8_fullness_33 : decode cX8_fullness 33 = .ok (.aload_n 0, 1) := by decide +kernel
theorem dX8_fullness_34 : decode cX8_fullness 34 = .ok (.getfield 12, 3) := by decide +kernel
theorem dX8_fullness_37 : decode cX8_fullness 37 = .ok (.getfield 118, 3) := by decide +kernel
theorem dX8_fullness_40 : decode cX8_fullness 40 = .ok (.iload_n 1, 1) := by decide +kernel
theorem dX8_fullness_41 : decode cX8_fullness 41 = .ok (.iaload, 1) := by decide +kernel
theorem dX8_fullness_42 : decode cX8_fullness 42 = .ok (.invokestatic 151, 3) := by decide +kernel
theorem dX8_fullness_45 : decode cX8_fullness 45 = .ok (.invokestatic 156, 3) := by decide +kernel
theorem dX8_fullness_48 : decode cX8_fullness 48 = .ok (.invokevirtual 160, 3) := by decide +kernel
theorem dX8_fullness_51 : decode cX8_fullness 51 = .ok (.iinc 1 1, 3) := by decide +kernel
theorem dX8_fullness_54 : decode cX8_fullness 54 = .ok (.goto (-43), 3) := by decide +kernel
theorem dX8_fullness_57 : decode cX8_fullness 57 = .ok (.iconst 1, 1) := by decide +kernel
theorem dX8_fullness_58 : decode cX8_fullness 58 = .ok (.ireturn, 1) := by decide +kernel
set_option maxRecDepth 20000 in
theorem ggX8_kept_X8_isLaw : GoodIn wsX8_kept wsX8_isLaw := goodIn_r _ [8, 9, 10, 7, 11] (by decide +kernel) (by decide +kernel)
set_option maxRecDepth 20000 in
theorem gX8_kept_X8_isLaw : GoodIn wsX8_kept (va_wsS RX8 136 yX8_isLaw wsX8_isLaw) := goodIn_app (goodIn_of _ (by decide +kernel)) ggX8_kept_X8_isLaw
set_option maxRecDepth 20000 in
theorem ggX8_kept_X8_between : GoodIn wsX8_kept wsX8_between := goodIn_r _ [11] (by decide +kernel) (by decide +kernel)
set_option maxRecDepth 20000 in
theorem gX8_kept_X8_between : GoodIn wsX8_kept (va_wsS RX8 86 yX8_between wsX8_between) := goodIn_app (goodIn_of _ (by decide +kernel)) ggX8_kept_X8_between
set_option maxRecDepth 20000 in
theorem ggX8_kept_X8_refuse : GoodIn wsX8_kept wsX8_refuse := goodIn_r _ [15, 16, 17, 18, 132, 133, 134, 135, 136, 137, 138, 139, 140, 141, 142, 143, 144, 145, 146, 147, 148] (by decide +kernel) (by decide +kernel)
set_option maxRecDepth 20000 in
theorem gX8_kept_X8_refuse : GoodIn wsX8_kept (wsV RX8 90 RX8 yX8_refuse wsX8_refuse) := goodIn_app (goodIn_of _ (by decide +kernel)) ggX8_kept_X8_refuse
set_option maxRecDepth 20000 in
theorem ggX8_kept_X8_layOverList : GoodIn wsX8_kept wsX8_layOverList := goodIn_r _ [22, 23, 1, 24, 25, 26, 2, 27, 28, 29, 30, 31, 32, 33, 34, 35, 36, 37, 38, 39, 40, 41, 42, 43, 44, 45, 46, 47, 48, 49, 50, 51, 52, 53, 54, 55, 56, 57, 58, 10, 7, 11, 59, 60, 61, 62, 63, 64, 65, 66, 67, 68, 69, 70, 71, 72, 132, 133, 134, 135, 136, 137, 138, 139, 140, 141, 142, 143, 144, 145, 146, 147, 148, 149, 150, 151, 152, 153, 154, 155, 156, 157, 158, 159, 160, 161, 162] (by decide +kernel) (by decide +kernel)
set_option maxRecDepth 20000 in
theorem gX8_kept_X8_layOverList : GoodIn wsX8_kept (wsV RX8 139 RX8 yX8_layOverList wsX8_layOverList) := goodIn_app (goodIn_of _ (by decide +kernel)) ggX8_kept_X8_layOverList
set_option maxRecDepth 20000 in
theorem ggX8_kept_X2_value : GoodIn wsX8_kept wsX2_value := goodIn_r _ [77, 78, 10, 7, 11, 163, 164, 165, 166] (by decide +kernel) (by decide +kernel)
set_option maxRecDepth 20000 in
theorem gX8_kept_X2_value : GoodIn wsX8_kept (wsV RX8 164 RX2 yX2_value wsX2_value) := goodIn_app (goodIn_of _ (by decide +kernel)) ggX8_kept_X2_value
set_option maxRecDepth 20000 in
theorem ggX8_kept_X2_keep : GoodIn wsX8_kept wsX2_keep := goodIn_r _ [82, 83, 84, 85, 86, 87, 88, 89, 30, 90, 45, 39, 91, 92, 93, 94, 95, 7, 96, 97, 98, 99, 100, 46, 47, 101, 102, 103, 104, 76, 105, 106, 78, 107, 108, 109, 110, 111, 112, 113, 114, 115, 116, 117, 118, 119, 120, 121, 122, 123, 163, 164, 165, 166, 155, 156, 157, 158, 159, 160, 161, 162] (by decide +kernel) (by decide +kernel)
set_option maxRecDepth 20000 in
theorem gX8_kept_X2_keep : GoodIn wsX8_kept (wsV RX8 167 RX2 yX2_keep wsX2_keep) := goodIn_app (goodIn_of _ (by decide +kernel)) ggX8_kept_X2_keep
set_option maxRecDepth 20000 in
theorem ggX8_kept_X2_bestSum : GoodIn wsX8_kept wsX2_bestSum := goodIn_r _ [127, 85, 86, 163, 164, 165, 166] (by decide +kernel) (by decide +kernel)
set_option maxRecDepth 20000 in
theorem gX8_kept_X2_bestSum : GoodIn wsX8_kept (wsV RX8 170 RX2 yX2_bestSum wsX2_bestSum) := goodIn_app (goodIn_of _ (by decide +kernel)) ggX8_kept_X2_bestSum
set_option maxRecDepth 20000 in
theorem ggX8_kept_X2_bestBits : GoodIn wsX8_kept wsX2_bestBits := goodIn_r _ [131, 86, 163, 164, 165, 166] (by decide +kernel) (by decide +kernel)
set_option maxRecDepth 20000 in
theorem gX8_kept_X2_bestBits : GoodIn wsX8_kept (wsV RX8 173 RX2 yX2_bestBits wsX2_bestBits) := goodIn_app (goodIn_of _ (by decide +kernel)) ggX8_kept_X2_bestBits
theorem dX8_kept_0 : decode cX8_kept 0 = .ok (.iload_n 1, 1) := by decide +kernel
theorem dX8_kept_1 : decode cX8_kept 1 = .ok (.invokestatic 136, 3) := by decide +kernel
theorem dX8_kept_4 : decode cX8_kept 4 = .ok (.ifCond .eq 31, 3) := by decide +kernel
theorem dX8_kept_7 : decode cX8_kept 7 = .ok (.iload_n 2, 1) := by decide +kernel
theorem dX8_kept_8 : decode cX8_kept 8 = .ok (.iconst 0, 1) := by decide +kernel
theorem dX8_kept_9 : decode cX8_kept 9 = .ok (.iconst 1, 1) := by decide +kernel
theorem dX8_kept_10 : decode cX8_kept 10 = .ok (.aload_n 0, 1) := by decide +kernel
theorem dX8_kept_11 : decode cX8_kept 11 = .ok (.getfield 12, 3) := by decide +kernel
theorem dX8_kept_14 : decode cX8_kept 14 = .ok (.getfield 98, 3) := by decide +kernel
theorem dX8_kept_17 : decode cX8_kept 17 = .ok (.ishl, 1) := by decide +kernel
theorem dX8_kept_18 : decode cX8_kept 18 = .ok (.iconst 1, 1) := by decide +kernel
theorem dX8_kept_19 : decode cX8_kept 19 = .ok (.isub, 1) := by decide +kernel
theorem dX8_kept_20 : decode cX8_kept 20 = .ok (.invokestatic 86, 3) := by decide +kernel
theorem dX8_kept_23 : decode cX8_kept 23 = .ok (.ifCond .eq 12, 3) := by decide +kernel
theorem dX8_kept_26 : decode cX8_kept 26 = .ok (.iload_n 3, 1) := by decide +kernel
theorem dX8_kept_27 : decode cX8_kept 27 = .ok (.iconst 0, 1) := by decide +kernel
theorem dX8_kept_28 : decode cX8_kept 28 = .ok (.iconst 3, 1) := by decide +kernel
theorem dX8_kept_29 : decode cX8_kept 29 = .ok (.invokestatic 86, 3) := by decide +kernel
theorem dX8_kept_32 : decode cX8_kept 32 = .ok (.ifCond .ne 12, 3) := by decide +kernel
theorem dX8_kept_35 : decode cX8_kept 35 = .ok (.aload_n 0, 1) := by decide +kernel
theorem dX8_kept_36 : decode cX8_kept 36 = .ok (.bipush (-2), 2) := by decide +kernel
theorem dX8_kept_38 : decode cX8_kept 38 = .ok (.bipush (-2), 2) := by decide +kernel
theorem dX8_kept_40 : decode cX8_kept 40 = .ok (.invokevirtual 90, 3) := by decide +kernel
theorem dX8_kept_43 : decode cX8_kept 43 = .ok (.ireturn, 1) := by decide +kernel
theorem dX8_kept_44 : decode cX8_kept 44 = .ok (.aload_n 0, 1) := by decide +kernel
theorem dX8_kept_45 : decode cX8_kept 45 = .ok (.iload_n 1, 1) := by decide +kernel
theorem dX8_kept_46 : decode cX8_kept 46 = .ok (.invokevirtual 139, 3) := by decide +kernel
theorem dX8_kept_49 : decode cX8_kept 49 = .ok (.iload_n 3, 1) := by decide +kernel
theorem dX8_kept_50 : decode cX8_kept 50 = .ok (.iconst 2, 1) := by decide +kernel
theorem dX8_kept_51 : decode cX8_kept 51 = .ok (.if_icmp .lt 7, 3) := by decide +kernel
theorem dX8_kept_54 : decode cX8_kept 54 = .ok (.iconst 1, 1) := by decide +kernel
theorem dX8_kept_55 : decode cX8_kept 55 = .ok (.goto 4, 3) := by decide +kernel
theorem dX8_kept_58 : decode cX8_kept 58 = .ok (.iconst 0, 1) := by decide +kernel
theorem dX8_kept_59 : decode cX8_kept 59 = .ok (.istore 4, 2) := by decide +kernel
theorem dX8_kept_61 : decode cX8_kept 61 = .ok (.iconst 0, 1) := by decide +kernel
theorem dX8_kept_62 : decode cX8_kept 62 = .ok (.istore 5, 2) := by decide +kernel
theorem dX8_kept_64 : decode cX8_kept 64 = .ok (.iload 5, 2) := by decide +kernel
theorem dX8_kept_66 : decode cX8_kept 66 = .ok (.aload_n 0, 1) := by decide +kernel
theorem dX8_kept_67 : decode cX8_kept 67 = .ok (.getfield 12, 3) := by decide +kernel
theorem dX8_kept_70 : decode cX8_kept 70 = .ok (.getfield 98, 3) := by decide +kernel
theorem dX8_kept_73 : decode cX8_kept 73 = .ok (.if_icmp .ge 37, 3) := by decide +kernel
theorem dX8_kept_76 : decode cX8_kept 76 = .ok (.aload_n 0, 1) := by decide +kernel
theorem dX8_kept_77 : decode cX8_kept 77 = .ok (.getfield 57, 3) := by decide +kernel
theorem dX8_kept_80 : decode cX8_kept 80 = .ok (.iload 5, 2) := by decide +kernel
theorem dX8_kept_82 : decode cX8_kept 82 = .ok (.iload 4, 2) := by decide +kernel
theorem dX8_kept_84 : decode cX8_kept 84 = .ok (.ifCond .eq 16, 3) := by decide +kernel
theorem dX8_kept_87 : decode cX8_kept 87 = .ok (.aload_n 0, 1) := by decide +kernel
theorem dX8_kept_88 : decode cX8_kept 88 = .ok (.getfield 12, 3) := by decide +kernel
theorem dX8_kept_91 : decode cX8_kept 91 = .ok (.getfield 121, 3) := by decide +kernel
theorem dX8_kept_94 : decode cX8_kept 94 = .ok (.iload 5, 2) := by decide +kernel
theorem dX8_kept_96 : decode cX8_kept 96 = .ok (.iaload, 1) := by decide +kernel
theorem dX8_kept_97 : decode cX8_kept 97 = .ok (.goto 4, 3) := by decide +kernel
theorem dX8_kept_100 : decode cX8_kept 100 = .ok (.iconst 1, 1) := by decide +kernel
theorem dX8_kept_101 : decode cX8_kept 101 = .ok (.invokevirtual 164, 3) := by decide +kernel
theorem dX8_kept_104 : decode cX8_kept 104 = .ok (.iinc 5 1, 3) := by decide +kernel
theorem dX8_kept_107 : decode cX8_kept 107 = .ok (.goto (-43), 3) := by decide +kernel
theorem dX8_kept_110 : decode cX8_kept 110 = .ok (.aload_n 0, 1) := by decide +kernel
theorem dX8_kept_111 : decode cX8_kept 111 = .ok (.getfield 57, 3) := by decide +kernel
theorem dX8_kept_114 : decode cX8_kept 114 = .ok (.iload_n 2, 1) := by decide +kernel
theorem dX8_kept_115 : decode cX8_kept 115 = .ok (.invokevirtual 167, 3) := by decide +kernel
theorem dX8_kept_118 : decode cX8_kept 118 = .ok (.ifCond .ne 5, 3) := by decide +kernel
theorem dX8_kept_121 : decode cX8_kept 121 = .ok (.iconst (-1), 1) := by decide +kernel
theorem dX8_kept_122 : decode cX8_kept 122 = .ok (.ireturn, 1) := by decide +kernel
theorem dX8_kept_123 : decode cX8_kept 123 = .ok (.iload_n 3, 1) := by decide +kernel
theorem dX8_kept_124 : decode cX8_kept 124 = .ok (.ifCond .eq 8, 3) := by decide +kernel
theorem dX8_kept_127 : decode cX8_kept 127 = .ok (.iload_n 3, 1) := by decide +kernel
theorem dX8_kept_128 : decode cX8_kept 128 = .ok (.iconst 2, 1) := by decide +kernel
theorem dX8_kept_129 : decode cX8_kept 129 = .ok (.if_icmp .ne 13, 3) := by decide +kernel
theorem dX8_kept_132 : decode cX8_kept 132 = .ok (.aload_n 0, 1) := by decide +kernel
theorem dX8_kept_133 : decode cX8_kept 133 = .ok (.getfield 57, 3) := by decide +kernel
theorem dX8_kept_136 : decode cX8_kept 136 = .ok (.invokevirtual 170, 3) := by decide +kernel
theorem dX8_kept_139 : decode cX8_kept 139 = .ok (.goto 10, 3) := by decide +kernel
theorem dX8_kept_142 : decode cX8_kept 142 = .ok (.aload_n 0, 1) := by decide +kernel
theorem dX8_kept_143 : decode cX8_kept 143 = .ok (.getfield 57, 3) := by decide +kernel
theorem dX8_kept_146 : decode cX8_kept 146 = .ok (.invokevirtual 173, 3) := by decide +kernel
theorem dX8_kept_149 : decode cX8_kept 149 = .ok (.ireturn, 1) := by decide +kernel
set_option maxRecDepth 20000 in
theorem ggX8_rows_X8_between : GoodIn wsX8_rows wsX8_between := goodIn_r _ [4] (by decide +kernel) (by decide +kernel)
set_option maxRecDepth 20000 in
theorem gX8_rows_X8_between : GoodIn wsX8_rows (va_wsS RX8 86 yX8_between wsX8_between) := goodIn_app (goodIn_of _ (by decide +kernel)) ggX8_rows_X8_between
set_option maxRecDepth 20000 in
theorem ggX8_rows_X8_refuse : GoodIn wsX8_rows wsX8_refuse := goodIn_r _ [8, 9, 10, 11, 136, 137, 138, 139, 140, 141, 142, 143, 144, 145, 146, 147, 148, 149, 150, 151, 152] (by decide +kernel) (by decide +kernel)
set_option maxRecDepth 20000 in
theorem gX8_rows_X8_refuse : GoodIn wsX8_rows (wsV RX8 90 RX8 yX8_refuse wsX8_refuse) := goodIn_app (goodIn_of _ (by decide +kernel)) ggX8_rows_X8_refuse
set_option maxRecDepth 20000 in
theorem ggX8_rows_X8_fewestRows : GoodIn wsX8_rows wsX8_fewestRows := goodIn_r _ [15, 16, 17, 18, 19, 20, 21, 22, 23, 24, 25, 26, 27, 28, 29, 30, 31, 32, 33, 34, 35, 36, 37, 38, 39, 40, 41, 42, 43, 44, 45, 46, 47, 48, 49, 50, 51, 52, 2, 3, 4, 53, 54, 55, 56, 57, 58, 59, 60, 61, 62, 63, 64, 65, 66, 67, 68, 69, 70, 71, 72, 73, 74, 75, 76, 77, 78, 79, 80, 81, 82, 83, 84, 85, 86, 87, 88, 89, 90, 91, 92, 93, 94, 95, 96, 97, 98, 99, 100, 101, 102, 103, 104, 105, 106, 107, 108, 109, 110, 111, 112, 113, 114, 115, 116, 117, 118, 119, 120, 121, 136, 137, 138, 139, 140, 141, 142, 143, 144, 145, 146, 147, 148, 149, 150, 151, 152, 153, 154, 155, 156, 157, 158, 159, 160, 161, 162, 163, 164, 165, 166, 167, 168, 169, 170] (by decide +kernel) (by decide +kernel)
set_option maxRecDepth 20000 in
theorem gX8_rows_X8_fewestRows : GoodIn wsX8_rows (wsV RX8 176 RX8 yX8_fewestRows wsX8_fewestRows) := goodIn_app (goodIn_of _ (by decide +kernel)) ggX8_rows_X8_fewestRows
set_option maxRecDepth 20000 in
theorem ggX8_rows_X8_longestRow : GoodIn wsX8_rows wsX8_longestRow := goodIn_r _ [125, 17, 19, 18, 126, 127, 128, 31, 129, 130, 47, 48, 49, 50, 51, 52, 131, 132, 133, 3, 134, 135, 61, 62, 136, 137, 138, 139, 140, 141, 142, 143, 144, 145, 146, 147, 148, 149, 150, 151, 152, 153, 154, 155, 156, 157, 158] (by decide +kernel) (by decide +kernel)
set_option maxRecDepth 20000 in
theorem gX8_rows_X8_longestRow : GoodIn wsX8_rows (wsV RX8 179 RX8 yX8_longestRow wsX8_longestRow) := goodIn_app (goodIn_of _ (by decide +kernel)) ggX8_rows_X8_longestRow
theorem dX8_rows_0 : decode cX8_rows 0 = .ok (.iload_n 1, 1) := by decide +kernel
theorem dX8_rows_1 : decode cX8_rows 1 = .ok (.iconst 0, 1) := by decide +kernel
theorem dX8_rows_2 : decode cX8_rows 2 = .ok (.iconst 1, 1) := by decide +kernel
theorem dX8_rows_3 : decode cX8_rows 3 = .ok (.invokestatic 86, 3) := by decide +kernel
theorem dX8_rows_6 : decode cX8_rows 6 = .ok (.ifCond .ne 12, 3) := by decide +kernel
theorem dX8_rows_9 : decode cX8_rows 9 = .ok (.aload_n 0, 1) := by decide +kernel
theorem dX8_rows_10 : decode cX8_rows 10 = .ok (.bipush (-2), 2) := by decide +kernel
theorem dX8_rows_12 : decode cX8_rows 12 = .ok (.bipush (-2), 2) := by decide +kernel
theorem dX8_rows_14 : decode cX8_rows 14 = .ok (.invokevirtual 90, 3) := by decide +kernel
theorem dX8_rows_17 : decode cX8_rows 17 = .ok (.ireturn, 1) := by decide +kernel
theorem dX8_rows_18 : decode cX8_rows 18 = .ok (.iload_n 1, 1) := by decide +kernel
theorem dX8_rows_19 : decode cX8_rows 19 = .ok (.ifCond .ne 10, 3) := by decide +kernel
theorem dX8_rows_22 : decode cX8_rows 22 = .ok (.aload_n 0, 1) := by decide +kernel
theorem dX8_rows_23 : decode cX8_rows 23 = .ok (.invokevirtual 176, 3) := by decide +kernel
theorem dX8_rows_26 : decode cX8_rows 26 = .ok (.goto 7, 3) := by decide +kernel
theorem dX8_rows_29 : decode cX8_rows 29 = .ok (.aload_n 0, 1) := by decide +kernel
theorem dX8_rows_30 : decode cX8_rows 30 = .ok (.invokevirtual 179, 3) := by decide +kernel
theorem dX8_rows_33 : decode cX8_rows 33 = .ok (.ireturn, 1) := by decide +kernel
set_option maxRecDepth 20000 in
theorem ggX8_opens_X8_isBox : GoodIn wsX8_opens wsX8_isBox := goodIn_r _ [6, 7, 8, 9, 10, 5, 11, 32, 33, 34, 35, 36, 37, 38, 39, 40, 41, 42, 43, 44, 45, 46, 47, 48, 49, 50, 51, 52, 53, 54] (by decide +kernel) (by decide +kernel)
set_option maxRecDepth 20000 in
theorem gX8_opens_X8_isBox : GoodIn wsX8_opens (wsV RX8 107 RX8 yX8_isBox wsX8_isBox) := goodIn_app (goodIn_of _ (by decide +kernel)) ggX8_opens_X8_isBox
set_option maxRecDepth 20000 in
theorem ggX8_opens_X8_between : GoodIn wsX8_opens wsX8_between := goodIn_r _ [11] (by decide +kernel) (by decide +kernel)
set_option maxRecDepth 20000 in
theorem gX8_opens_X8_between : GoodIn wsX8_opens (va_wsS RX8 86 yX8_between wsX8_between) := goodIn_app (goodIn_of _ (by decide +kernel)) ggX8_opens_X8_between
set_option maxRecDepth 20000 in
theorem ggX8_opens_X8_refuse : GoodIn wsX8_opens wsX8_refuse := goodIn_r _ [15, 16, 17, 18, 32, 33, 34, 35, 36, 37, 38, 39, 40, 41, 42, 43, 44, 45, 46, 47, 48] (by decide +kernel) (by decide +kernel)
set_option maxRecDepth 20000 in
theorem gX8_opens_X8_refuse : GoodIn wsX8_opens (wsV RX8 90 RX8 yX8_refuse wsX8_refuse) := goodIn_app (goodIn_of _ (by decide +kernel)) ggX8_opens_X8_refuse
set_option maxRecDepth 20000 in
theorem ggX8_opens_X8_fewestOpening : GoodIn wsX8_opens wsX8_fewestOpening := goodIn_r _ [22, 23, 24, 7, 25, 26, 27, 28, 29, 30, 31, 32, 33, 34, 35, 36, 37, 38, 39, 40, 41, 42, 43, 44, 45, 46, 47, 48, 49, 50, 51, 52, 53, 54] (by decide +kernel) (by decide +kernel)
set_option maxRecDepth 20000 in
theorem gX8_opens_X8_fewestOpening : GoodIn wsX8_opens (wsV RX8 182 RX8 yX8_fewestOpening wsX8_fewestOpening) := goodIn_app (goodIn_of _ (by decide +kernel)) ggX8_opens_X8_fewestOpening
theorem dX8_opens_0 : decode cX8_opens 0 = .ok (.aload_n 0, 1) := by decide +kernel
theorem dX8_opens_1 : decode cX8_opens 1 = .ok (.iload_n 1, 1) := by decide +kernel
theorem dX8_opens_2 : decode cX8_opens 2 = .ok (.invokevirtual 107, 3) := by decide +kernel
theorem dX8_opens_5 : decode cX8_opens 5 = .ok (.ifCond .eq 12, 3) := by decide +kernel
theorem dX8_opens_8 : decode cX8_opens 8 = .ok (.iload_n 2, 1) := by decide +kernel
theorem dX8_opens_9 : decode cX8_opens 9 = .ok (.iconst 0, 1) := by decide +kernel
theorem dX8_opens_10 : decode cX8_opens 10 = .ok (.iconst 1, 1) := by decide +kernel
theorem dX8_opens_11 : decode cX8_opens 11 = .ok (.invokestatic 86, 3) := by decide +kernel
theorem dX8_opens_14 : decode cX8_opens 14 = .ok (.ifCond .ne 12, 3) := by decide +kernel
theorem dX8_opens_17 : decode cX8_opens 17 = .ok (.aload_n 0, 1) := by decide +kernel
theorem dX8_opens_18 : decode cX8_opens 18 = .ok (.bipush (-2), 2) := by decide +kernel
theorem dX8_opens_20 : decode cX8_opens 20 = .ok (.bipush (-2), 2) := by decide +kernel
theorem dX8_opens_22 : decode cX8_opens 22 = .ok (.invokevirtual 90, 3) := by decide +kernel
theorem dX8_opens_25 : decode cX8_opens 25 = .ok (.ireturn, 1) := by decide +kernel
theorem dX8_opens_26 : decode cX8_opens 26 = .ok (.aload_n 0, 1) := by decide +kernel
theorem dX8_opens_27 : decode cX8_opens 27 = .ok (.iload_n 1, 1) := by decide +kernel
theorem dX8_opens_28 : decode cX8_opens 28 = .ok (.invokevirtual 182, 3) := by decide +kernel
theorem dX8_opens_31 : decode cX8_opens 31 = .ok (.istore_n 3, 1) := by decide +kernel
theorem dX8_opens_32 : decode cX8_opens 32 = .ok (.iload_n 3, 1) := by decide +kernel
theorem dX8_opens_33 : decode cX8_opens 33 = .ok (.iconst (-1), 1) := by decide +kernel
theorem dX8_opens_34 : decode cX8_opens 34 = .ok (.if_icmp .ne 5, 3) := by decide +kernel
theorem dX8_opens_37 : decode cX8_opens 37 = .ok (.iconst (-1), 1) := by decide +kernel
theorem dX8_opens_38 : decode cX8_opens 38 = .ok (.ireturn, 1) := by decide +kernel
theorem dX8_opens_39 : decode cX8_opens 39 = .ok (.iload_n 2, 1) := by decide +kernel
theorem dX8_opens_40 : decode cX8_opens 40 = .ok (.ifCond .ne 10, 3) := by decide +kernel
theorem dX8_opens_43 : decode cX8_opens 43 = .ok (.iload_n 3, 1) := by decide +kernel
theorem dX8_opens_44 : decode cX8_opens 44 = .ok (.bipush 16, 2) := by decide +kernel
theorem dX8_opens_46 : decode cX8_opens 46 = .ok (.iushr, 1) := by decide +kernel
theorem dX8_opens_47 : decode cX8_opens 47 = .ok (.goto 7, 3) := by decide +kernel
theorem dX8_opens_50 : decode cX8_opens 50 = .ok (.iload_n 3, 1) := by decide +kernel
theorem dX8_opens_51 : decode cX8_opens 51 = .ok (.ldc 185, 2) := by decide +kernel
theorem dX8_opens_53 : decode cX8_opens 53 = .ok (.iand, 1) := by decide +kernel
theorem dX8_opens_54 : decode cX8_opens 54 = .ok (.ireturn, 1) := by decide +kernel
theorem dX8_alone_0 : decode cX8_alone 0 = .ok (.iconst 0, 1) := by decide +kernel
theorem dX8_alone_1 : decode cX8_alone 1 = .ok (.istore_n 1, 1) := by decide +kernel
theorem dX8_alone_2 : decode cX8_alone 2 = .ok (.iconst 0, 1) := by decide +kernel
theorem dX8_alone_3 : decode cX8_alone 3 = .ok (.istore_n 2, 1) := by decide +kernel
theorem dX8_alone_4 : decode cX8_alone 4 = .ok (.iconst 0, 1) := by decide +kernel
theorem dX8_alone_5 : decode cX8_alone 5 = .ok (.istore_n 3, 1) := by decide +kernel
theorem dX8_alone_6 : decode cX8_alone 6 = .ok (.iload_n 3, 1) := by decide +kernel
theorem dX8_alone_7 : decode cX8_alone 7 = .ok (.aload_n 0, 1) := by decide +kernel
theorem dX8_alone_8 : decode cX8_alone 8 = .ok (.getfield 12, 3) := by decide +kernel
theorem dX8_alone_11 : decode cX8_alone 11 = .ok (.getfield 98, 3) := by decide +kernel
theorem dX8_alone_14 : decode cX8_alone 14 = .ok (.if_icmp .ge 35, 3) := by decide +kernel
theorem dX8_alone_17 : decode cX8_alone 17 = .ok (.iload_n 2, 1) := by decide +kernel
theorem dX8_alone_18 : decode cX8_alone 18 = .ok (.iload_n 1, 1) := by decide +kernel
theorem dX8_alone_19 : decode cX8_alone 19 = .ok (.aload_n 0, 1) := by decide +kernel
theorem dX8_alone_20 : decode cX8_alone 20 = .ok (.getfield 12, 3) := by decide +kernel
theorem dX8_alone_23 : decode cX8_alone 23 = .ok (.getfield 118, 3) := by decide +kernel
theorem dX8_alone_26 : decode cX8_alone 26 = .ok (.iload_n 3, 1) := by decide +kernel
theorem dX8_alone_27 : decode cX8_alone 27 = .ok (.iaload, 1) := by decide +kernel
theorem dX8_alone_28 : decode cX8_alone 28 = .ok (.iand, 1) := by decide +kernel
theorem dX8_alone_29 : decode cX8_alone 29 = .ok (.ior, 1) := by decide +kernel
theorem dX8_alone_30 : decode cX8_alone 30 = .ok (.istore_n 2, 1) := by decide +kernel
theorem dX8_alone_31 : decode cX8_alone 31 = .ok (.iload_n 1, 1) := by decide +kernel
theorem dX8_alone_32 : decode cX8_alone 32 = .ok (.aload_n 0, 1) := by decide +kernel
theorem dX8_alone_33 : decode cX8_alone 33 = .ok (.getfield 12, 3) := by decide +kernel
theorem dX8_alone_36 : decode cX8_alone 36 = .ok (.getfield 118, 3) := by decide +kernel
theorem dX8_alone_39 : decode cX8_alone 39 = .ok (.iload_n 3, 1) := by decide +kernel
theorem dX8_alone_40 : decode cX8_alone 40 = .ok (.iaload, 1) := by decide +kernel
theorem dX8_alone_41 : decode cX8_alone 41 = .ok (.ior, 1) := by decide +kernel
theorem dX8_alone_42 : decode cX8_alone 42 = .ok (.istore_n 1, 1) := by decide +kernel
theorem dX8_alone_43 : decode cX8_alone 43 = .ok (.iinc 3 1, 3) := by decide +kernel
theorem dX8_alone_46 : decode cX8_alone 46 = .ok (.goto (-40), 3) := by decide +kernel
theorem dX8_alone_49 : decode cX8_alone 49 = .ok (.iload_n 1, 1) := by decide +kernel
theorem dX8_alone_50 : decode cX8_alone 50 = .ok (.iload_n 2, 1) := by decide +kernel
theorem dX8_alone_51 : decode cX8_alone 51 = .ok (.iconst (-1), 1) := by decide +kernel
theorem dX8_alone_52 : decode cX8_alone 52 = .ok (.ixor, 1) := by decide +kernel
theorem dX8_alone_53 : decode cX8_alone 53 = .ok (.iand, 1) := by decide +kernel
theorem dX8_alone_54 : decode cX8_alone 54 = .ok (.istore_n 3, 1) := by decide +kernel
theorem dX8_alone_55 : decode cX8_alone 55 = .ok (.iconst 0, 1) := by decide +kernel
theorem dX8_alone_56 : decode cX8_alone 56 = .ok (.istore 4, 2) := by decide +kernel
theorem dX8_alone_58 : decode cX8_alone 58 = .ok (.iconst 0, 1) := by decide +kernel
theorem dX8_alone_59 : decode cX8_alone 59 = .ok (.istore 5, 2) := by decide +kernel
theorem dX8_alone_61 : decode cX8_alone 61 = .ok (.iload 5, 2) := by decide +kernel
theorem dX8_alone_63 : decode cX8_alone 63 = .ok (.aload_n 0, 1) := by decide +kernel
theorem dX8_alone_64 : decode cX8_alone 64 = .ok (.getfield 12, 3) := by decide +kernel
theorem dX8_alone_67 : decode cX8_alone 67 = .ok (.getfield 98, 3) := by decide +kernel
theorem dX8_alone_70 : decode cX8_alone 70 = .ok (.if_icmp .ge 33, 3) := by decide +kernel
theorem dX8_alone_73 : decode cX8_alone 73 = .ok (.aload_n 0, 1) := by decide +kernel
theorem dX8_alone_74 : decode cX8_alone 74 = .ok (.getfield 12, 3) := by decide +kernel
theorem dX8_alone_77 : decode cX8_alone 77 = .ok (.getfield 118, 3) := by decide +kernel
theorem dX8_alone_80 : decode cX8_alone 80 = .ok (.iload 5, 2) := by decide +kernel
theorem dX8_alone_82 : decode cX8_alone 82 = .ok (.iaload, 1) := by decide +kernel
theorem dX8_alone_83 : decode cX8_alone 83 = .ok (.iload_n 3, 1) := by decide +kernel
theorem dX8_alone_84 : decode cX8_alone 84 = .ok (.iand, 1) := by decide +kernel
theorem dX8_alone_85 : decode cX8_alone 85 = .ok (.ifCond .eq 12, 3) := by decide +kernel
theorem dX8_alone_88 : decode cX8_alone 88 = .ok (.iload 4, 2) := by decide +kernel
theorem dX8_alone_90 : decode cX8_alone 90 = .ok (.iconst 1, 1) := by decide +kernel
theorem dX8_alone_91 : decode cX8_alone 91 = .ok (.iload 5, 2) := by decide +kernel
theorem dX8_alone_93 : decode cX8_alone 93 = .ok (.ishl, 1) := by decide +kernel
theorem dX8_alone_94 : decode cX8_alone 94 = .ok (.ior, 1) := by decide +kernel
theorem dX8_alone_95 : decode cX8_alone 95 = .ok (.istore 4, 2) := by decide +kernel
theorem dX8_alone_97 : decode cX8_alone 97 = .ok (.iinc 5 1, 3) := by decide +kernel
theorem dX8_alone_100 : decode cX8_alone 100 = .ok (.goto (-39), 3) := by decide +kernel
theorem dX8_alone_103 : decode cX8_alone 103 = .ok (.iload 4, 2) := by decide +kernel
theorem dX8_alone_105 : decode cX8_alone 105 = .ok (.ireturn, 1) := by decide +kernel
set_option maxRecDepth 20000 in
theorem ggX8_row_X8_isBox : GoodIn wsX8_row wsX8_isBox := goodIn_r _ [7, 1, 2, 8, 9, 6, 10, 45, 46, 47, 48, 49, 50, 51, 52, 53, 54, 55, 56, 57, 58, 59, 60, 61, 62, 63, 64, 65, 66, 67] (by decide +kernel) (by decide +kernel)
set_option maxRecDepth 20000 in
theorem gX8_row_X8_isBox : GoodIn wsX8_row (wsV RX8 107 RX8 yX8_isBox wsX8_isBox) := goodIn_app (goodIn_of _ (by decide +kernel)) ggX8_row_X8_isBox
set_option maxRecDepth 20000 in
theorem ggX8_row_X8_between : GoodIn wsX8_row wsX8_between := goodIn_r _ [10] (by decide +kernel) (by decide +kernel)
set_option maxRecDepth 20000 in
theorem gX8_row_X8_between : GoodIn wsX8_row (va_wsS RX8 86 yX8_between wsX8_between) := goodIn_app (goodIn_of _ (by decide +kernel)) ggX8_row_X8_between
set_option maxRecDepth 20000 in
theorem ggX8_row_X8_refuse : GoodIn wsX8_row wsX8_refuse := goodIn_r _ [14, 15, 16, 17, 45, 46, 47, 48, 49, 50, 51, 52, 53, 54, 55, 56, 57, 58, 59, 60, 61] (by decide +kernel) (by decide +kernel)
set_option maxRecDepth 20000 in
theorem gX8_row_X8_refuse : GoodIn wsX8_row (wsV RX8 90 RX8 yX8_refuse wsX8_refuse) := goodIn_app (goodIn_of _ (by decide +kernel)) ggX8_row_X8_refuse
set_option maxRecDepth 20000 in
theorem ggX8_row_X8_matchedSorts : GoodIn wsX8_row wsX8_matchedSorts := goodIn_r _ [20, 21, 22, 6, 23, 24, 25, 26, 27, 28, 29, 30, 31, 32] (by decide +kernel) (by decide +kernel)
set_option maxRecDepth 20000 in
theorem gX8_row_X8_matchedSorts : GoodIn wsX8_row (va_wsS RX8 186 yX8_matchedSorts wsX8_matchedSorts) := goodIn_app (goodIn_of _ (by decide +kernel)) ggX8_row_X8_matchedSorts
set_option maxRecDepth 20000 in
theorem ggX8_row_J6_lowestOneBit_0f7a4 : GoodIn wsX8_row wsJ6_lowestOneBit_0f7a4 := goodIn_r _ [35] (by decide +kernel) (by decide +kernel)
set_option maxRecDepth 20000 in
theorem gX8_row_J6_lowestOneBit_0f7a4 : GoodIn wsX8_row (va_wsS RX8 189 yJ6_lowestOneBit_0f7a4 wsJ6_lowestOneBit_0f7a4) := goodIn_app (goodIn_of _ (by decide +kernel)) ggX8_row_J6_lowestOneBit_0f7a4
set_option maxRecDepth 20000 in
theorem ggX8_row_J6_bitCount_0f7a4 : GoodIn wsX8_row wsJ6_bitCount_0f7a4 := goodIn_r _ [38, 39, 40, 41] (by decide +kernel) (by decide +kernel)
set_option maxRecDepth 20000 in
theorem gX8_row_J6_bitCount_0f7a4 : GoodIn wsX8_row (va_wsS RX8 151 yJ6_bitCount_0f7a4 wsJ6_bitCount_0f7a4) := goodIn_app (goodIn_of _ (by decide +kernel)) ggX8_row_J6_bitCount_0f7a4
set_option maxRecDepth 20000 in
theorem ggX8_row_X8_lowestBits : GoodIn wsX8_row wsX8_lowestBits := goodIn_r _ [44, 33, 34, 26, 35] (by decide +kernel) (by decide +kernel)
set_option maxRecDepth 20000 in
theorem gX8_row_X8_lowestBits : GoodIn wsX8_row (va_wsS RX8 192 yX8_lowestBits wsX8_lowestBits) := goodIn_app (goodIn_of _ (by decide +kernel)) ggX8_row_X8_lowestBits
theorem dX8_row_0 : decode cX8_row 0 = .ok (.aload_n 0, 1) := by decide +kernel
theorem dX8_row_1 : decode cX8_row 1 = .ok (.iload_n 1, 1) := by decide +kernel
theorem dX8_row_2 : decode cX8_row 2 = .ok (.invokevirtual 107, 3) := by decide +kernel
theorem dX8_row_5 : decode cX8_row 5 = .ok (.ifCond .eq 12, 3) := by decide +kernel
theorem dX8_row_8 : decode cX8_row 8 = .ok (.iload_n 2, 1) := by decide +kernel
theorem dX8_row_9 : decode cX8_row 9 = .ok (.iconst 0, 1) := by decide +kernel
theorem dX8_row_10 : decode cX8_row 10 = .ok (.iconst 3, 1) := by decide +kernel
theorem dX8_row_11 : decode cX8_row 11 = .ok (.invokestatic 86, 3) := by decide +kernel
theorem dX8_row_14 : decode cX8_row 14 = .ok (.ifCond .ne 12, 3) := by decide +kernel
theorem dX8_row_17 : decode cX8_row 17 = .ok (.aload_n 0, 1) := by decide +kernel
theorem dX8_row_18 : decode cX8_row 18 = .ok (.bipush (-2), 2) := by decide +kernel
theorem dX8_row_20 : decode cX8_row 20 = .ok (.bipush (-10), 2) := by decide +kernel
theorem dX8_row_22 : decode cX8_row 22 = .ok (.invokevirtual 90, 3) := by decide +kernel
theorem dX8_row_25 : decode cX8_row 25 = .ok (.ireturn, 1) := by decide +kernel
theorem dX8_row_26 : decode cX8_row 26 = .ok (.iload_n 1, 1) := by decide +kernel
theorem dX8_row_27 : decode cX8_row 27 = .ok (.aload_n 0, 1) := by decide +kernel
theorem dX8_row_28 : decode cX8_row 28 = .ok (.getfield 12, 3) := by decide +kernel
theorem dX8_row_31 : decode cX8_row 31 = .ok (.getfield 94, 3) := by decide +kernel
theorem dX8_row_34 : decode cX8_row 34 = .ok (.invokestatic 186, 3) := by decide +kernel
theorem dX8_row_37 : decode cX8_row 37 = .ok (.istore_n 3, 1) := by decide +kernel
theorem dX8_row_38 : decode cX8_row 38 = .ok (.iload_n 1, 1) := by decide +kernel
theorem dX8_row_39 : decode cX8_row 39 = .ok (.iload_n 3, 1) := by decide +kernel
theorem dX8_row_40 : decode cX8_row 40 = .ok (.iand, 1) := by decide +kernel
theorem dX8_row_41 : decode cX8_row 41 = .ok (.istore 4, 2) := by decide +kernel
theorem dX8_row_43 : decode cX8_row 43 = .ok (.iconst 1, 1) := by decide +kernel
theorem dX8_row_44 : decode cX8_row 44 = .ok (.aload_n 0, 1) := by decide +kernel
theorem dX8_row_45 : decode cX8_row 45 = .ok (.getfield 12, 3) := by decide +kernel
theorem dX8_row_48 : decode cX8_row 48 = .ok (.getfield 94, 3) := by decide +kernel
theorem dX8_row_51 : decode cX8_row 51 = .ok (.ishl, 1) := by decide +kernel
theorem dX8_row_52 : decode cX8_row 52 = .ok (.iconst 1, 1) := by decide +kernel
theorem dX8_row_53 : decode cX8_row 53 = .ok (.isub, 1) := by decide +kernel
theorem dX8_row_54 : decode cX8_row 54 = .ok (.iload_n 3, 1) := by decide +kernel
theorem dX8_row_55 : decode cX8_row 55 = .ok (.iconst (-1), 1) := by decide +kernel
theorem dX8_row_56 : decode cX8_row 56 = .ok (.ixor, 1) := by decide +kernel
theorem dX8_row_57 : decode cX8_row 57 = .ok (.iand, 1) := by decide +kernel
theorem dX8_row_58 : decode cX8_row 58 = .ok (.istore 5, 2) := by decide +kernel
theorem dX8_row_60 : decode cX8_row 60 = .ok (.iload_n 2, 1) := by decide +kernel
theorem dX8_row_61 : decode cX8_row 61 = .ok (.tableswitch 79 0 2 #[27, 52, 55], 27) := by decide +kernel
theorem dX8_row_88 : decode cX8_row 88 = .ok (.iload 5, 2) := by decide +kernel
theorem dX8_row_90 : decode cX8_row 90 = .ok (.iload_n 1, 1) := by decide +kernel
theorem dX8_row_91 : decode cX8_row 91 = .ok (.iconst (-1), 1) := by decide +kernel
theorem dX8_row_92 : decode cX8_row 92 = .ok (.ixor, 1) := by decide +kernel
theorem dX8_row_93 : decode cX8_row 93 = .ok (.iand, 1) := by decide +kernel
theorem dX8_row_94 : decode cX8_row 94 = .ok (.ifCond .ne 7, 3) := by decide +kernel
theorem dX8_row_97 : decode cX8_row 97 = .ok (.iconst (-1), 1) := by decide +kernel
theorem dX8_row_98 : decode cX8_row 98 = .ok (.goto 14, 3) := by decide +kernel
theorem dX8_row_101 : decode cX8_row 101 = .ok (.iload_n 1, 1) := by decide +kernel
theorem dX8_row_102 : decode cX8_row 102 = .ok (.iload 5, 2) := by decide +kernel
theorem dX8_row_104 : decode cX8_row 104 = .ok (.iload_n 1, 1) := by decide +kernel
theorem dX8_row_105 : decode cX8_row 105 = .ok (.iconst (-1), 1) := by decide +kernel
theorem dX8_row_106 : decode cX8_row 106 = .ok (.ixor, 1) := by decide +kernel
theorem dX8_row_107 : decode cX8_row 107 = .ok (.iand, 1) := by decide +kernel
theorem dX8_row_108 : decode cX8_row 108 = .ok (.invokestatic 189, 3) := by decide +kernel
theorem dX8_row_111 : decode cX8_row 111 = .ok (.ior, 1) := by decide +kernel
theorem dX8_row_112 : decode cX8_row 112 = .ok (.ireturn, 1) := by decide +kernel
theorem dX8_row_113 : decode cX8_row 113 = .ok (.iload 4, 2) := by decide +kernel
theorem dX8_row_115 : decode cX8_row 115 = .ok (.ireturn, 1) := by decide +kernel
theorem dX8_row_116 : decode cX8_row 116 = .ok (.iload 4, 2) := by decide +kernel
theorem dX8_row_118 : decode cX8_row 118 = .ok (.iload 5, 2) := by decide +kernel
theorem dX8_row_120 : decode cX8_row 120 = .ok (.aload_n 0, 1) := by decide +kernel
theorem dX8_row_121 : decode cX8_row 121 = .ok (.getfield 12, 3) := by decide +kernel
theorem dX8_row_124 : decode cX8_row 124 = .ok (.getfield 94, 3) := by decide +kernel
theorem dX8_row_127 : decode cX8_row 127 = .ok (.iconst 2, 1) := by decide +kernel
theorem dX8_row_128 : decode cX8_row 128 = .ok (.idiv, 1) := by decide +kernel
theorem dX8_row_129 : decode cX8_row 129 = .ok (.iload 4, 2) := by decide +kernel
theorem dX8_row_131 : decode cX8_row 131 = .ok (.invokestatic 151, 3) := by decide +kernel
theorem dX8_row_134 : decode cX8_row 134 = .ok (.isub, 1) := by decide +kernel
theorem dX8_row_135 : decode cX8_row 135 = .ok (.invokestatic 192, 3) := by decide +kernel
theorem dX8_row_138 : decode cX8_row 138 = .ok (.ior, 1) := by decide +kernel
theorem dX8_row_139 : decode cX8_row 139 = .ok (.ireturn, 1) := by decide +kernel
theorem dX8_row_140 : decode cX8_row 140 = .ok (.iload 5, 2) := by decide +kernel
theorem dX8_row_142 : decode cX8_row 142 = .ok (.invokestatic 151, 3) := by decide +kernel
theorem dX8_row_145 : decode cX8_row 145 = .ok (.iconst 1, 1) := by decide +kernel
theorem dX8_row_146 : decode cX8_row 146 = .ok (.iadd, 1) := by decide +kernel
theorem dX8_row_147 : decode cX8_row 147 = .ok (.ireturn, 1) := by decide +kernel
set_option maxRecDepth 20000 in
theorem ggX8_more_X8_isLaw : GoodIn wsX8_more wsX8_isLaw := goodIn_r _ [7, 8, 9, 6, 10] (by decide +kernel) (by decide +kernel)
set_option maxRecDepth 20000 in
theorem gX8_more_X8_isLaw : GoodIn wsX8_more (va_wsS RX8 136 yX8_isLaw wsX8_isLaw) := goodIn_app (goodIn_of _ (by decide +kernel)) ggX8_more_X8_isLaw
set_option maxRecDepth 20000 in
theorem ggX8_more_X8_refuse : GoodIn wsX8_more wsX8_refuse := goodIn_r _ [14, 15, 16, 17, 100, 101, 102, 103, 104, 105, 106, 107, 108, 109, 110, 111, 112, 113, 114, 115, 116] (by decide +kernel) (by decide +kernel)
set_option maxRecDepth 20000 in
theorem gX8_more_X8_refuse : GoodIn wsX8_more (wsV RX8 90 RX8 yX8_refuse wsX8_refuse) := goodIn_app (goodIn_of _ (by decide +kernel)) ggX8_more_X8_refuse
set_option maxRecDepth 20000 in
theorem ggX8_more_X8_layOverList : GoodIn wsX8_more wsX8_layOverList := goodIn_r _ [21, 1, 2, 22, 23, 24, 25, 26, 27, 28, 29, 30, 31, 32, 33, 34, 35, 36, 37, 38, 39, 40, 41, 42, 43, 44, 45, 46, 47, 48, 49, 50, 51, 52, 53, 54, 55, 56, 57, 9, 6, 10, 58, 59, 60, 61, 62, 63, 64, 65, 66, 67, 68, 69, 70, 71, 100, 101, 102, 103, 104, 105, 106, 107, 108, 109, 110, 111, 112, 113, 114, 115, 116, 117, 118, 119, 120, 121, 122, 123, 124, 125, 126, 127, 128, 129, 130] (by decide +kernel) (by decide +kernel)
set_option maxRecDepth 20000 in
theorem gX8_more_X8_layOverList : GoodIn wsX8_more (wsV RX8 139 RX8 yX8_layOverList wsX8_layOverList) := goodIn_app (goodIn_of _ (by decide +kernel)) ggX8_more_X8_layOverList
set_option maxRecDepth 20000 in
theorem ggX8_more_X3_firstBreak : GoodIn wsX8_more wsX3_firstBreak := goodIn_r _ [75, 38, 44, 76, 45, 77, 46, 78, 79, 6, 80, 81, 82, 53, 83, 84, 123, 124, 125, 126, 127, 128, 129, 130] (by decide +kernel) (by decide +kernel)
set_option maxRecDepth 20000 in
theorem gX8_more_X3_firstBreak : GoodIn wsX8_more (wsV RX8 143 RX3 yX3_firstBreak wsX3_firstBreak) := goodIn_app (goodIn_of _ (by decide +kernel)) ggX8_more_X3_firstBreak
set_option maxRecDepth 20000 in
theorem ggX8_more_X6_holds : GoodIn wsX8_more wsX6_holds := goodIn_r _ [89, 90, 91, 117, 118, 119, 120, 121, 122] (by decide +kernel) (by decide +kernel)
set_option maxRecDepth 20000 in
theorem gX8_more_X6_holds : GoodIn wsX8_more (wsV RX8 111 RX6 yX6_holds wsX6_holds) := goodIn_app (goodIn_of _ (by decide +kernel)) ggX8_more_X6_holds
set_option maxRecDepth 20000 in
theorem ggX8_more_X3_admits : GoodIn wsX8_more wsX3_admits := goodIn_r _ [95, 47, 48, 49, 29, 50, 32, 33, 31, 51, 52, 53, 54, 55, 56, 57, 9, 6, 10, 58, 59, 60, 61, 38, 39, 62, 63, 64, 65, 66, 67, 68, 69, 70, 71, 96, 97, 98, 99, 46, 79, 80, 123, 124, 125, 126, 127, 128, 129, 130] (by decide +kernel) (by decide +kernel)
set_option maxRecDepth 20000 in
theorem gX8_more_X3_admits : GoodIn wsX8_more (wsV RX8 195 RX3 yX3_admits wsX3_admits) := goodIn_app (goodIn_of _ (by decide +kernel)) ggX8_more_X3_admits
theorem dX8_more_0 : decode cX8_more 0 = .ok (.iload_n 1, 1) := by decide +kernel
theorem dX8_more_1 : decode cX8_more 1 = .ok (.invokestatic 136, 3) := by decide +kernel
theorem dX8_more_4 : decode cX8_more 4 = .ok (.ifCond .ne 12, 3) := by decide +kernel
theorem dX8_more_7 : decode cX8_more 7 = .ok (.aload_n 0, 1) := by decide +kernel
theorem dX8_more_8 : decode cX8_more 8 = .ok (.bipush (-2), 2) := by decide +kernel
theorem dX8_more_10 : decode cX8_more 10 = .ok (.bipush (-2), 2) := by decide +kernel
theorem dX8_more_12 : decode cX8_more 12 = .ok (.invokevirtual 90, 3) := by decide +kernel
theorem dX8_more_15 : decode cX8_more 15 = .ok (.ireturn, 1) := by decide +kernel
theorem dX8_more_16 : decode cX8_more 16 = .ok (.aload_n 0, 1) := by decide +kernel
theorem dX8_more_17 : decode cX8_more 17 = .ok (.iload_n 1, 1) := by decide +kernel
theorem dX8_more_18 : decode cX8_more 18 = .ok (.invokevirtual 139, 3) := by decide +kernel
theorem dX8_more_21 : decode cX8_more 21 = .ok (.aload_n 0, 1) := by decide +kernel
theorem dX8_more_22 : decode cX8_more 22 = .ok (.getfield 48, 3) := by decide +kernel
theorem dX8_more_25 : decode cX8_more 25 = .ok (.invokevirtual 143, 3) := by decide +kernel
theorem dX8_more_28 : decode cX8_more 28 = .ok (.iconst (-1), 1) := by decide +kernel
theorem dX8_more_29 : decode cX8_more 29 = .ok (.if_icmp .eq 5, 3) := by decide +kernel
theorem dX8_more_32 : decode cX8_more 32 = .ok (.iconst (-1), 1) := by decide +kernel
theorem dX8_more_33 : decode cX8_more 33 = .ok (.ireturn, 1) := by decide +kernel
theorem dX8_more_34 : decode cX8_more 34 = .ok (.iconst 1, 1) := by decide +kernel
theorem dX8_more_35 : decode cX8_more 35 = .ok (.aload_n 0, 1) := by decide +kernel
theorem dX8_more_36 : decode cX8_more 36 = .ok (.getfield 12, 3) := by decide +kernel
theorem dX8_more_39 : decode cX8_more 39 = .ok (.getfield 94, 3) := by decide +kernel
theorem dX8_more_42 : decode cX8_more 42 = .ok (.ishl, 1) := by decide +kernel
theorem dX8_more_43 : decode cX8_more 43 = .ok (.istore_n 2, 1) := by decide +kernel
theorem dX8_more_44 : decode cX8_more 44 = .ok (.iconst 0, 1) := by decide +kernel
theorem dX8_more_45 : decode cX8_more 45 = .ok (.istore_n 3, 1) := by decide +kernel
theorem dX8_more_46 : decode cX8_more 46 = .ok (.iload_n 3, 1) := by decide +kernel
theorem dX8_more_47 : decode cX8_more 47 = .ok (.iload_n 2, 1) := by decide +kernel
theorem dX8_more_48 : decode cX8_more 48 = .ok (.if_icmp .ge 33, 3) := by decide +kernel
theorem dX8_more_51 : decode cX8_more 51 = .ok (.aload_n 0, 1) := by decide +kernel
theorem dX8_more_52 : decode cX8_more 52 = .ok (.getfield 12, 3) := by decide +kernel
theorem dX8_more_55 : decode cX8_more 55 = .ok (.iload_n 3, 1) := by decide +kernel
theorem dX8_more_56 : decode cX8_more 56 = .ok (.invokevirtual 111, 3) := by decide +kernel
theorem dX8_more_59 : decode cX8_more 59 = .ok (.ifCond .ne 16, 3) := by decide +kernel
theorem dX8_more_62 : decode cX8_more 62 = .ok (.aload_n 0, 1) := by decide +kernel
theorem dX8_more_63 : decode cX8_more 63 = .ok (.getfield 48, 3) := by decide +kernel
theorem dX8_more_66 : decode cX8_more 66 = .ok (.iload_n 3, 1) := by decide +kernel
theorem dX8_more_67 : decode cX8_more 67 = .ok (.invokevirtual 195, 3) := by decide +kernel
theorem dX8_more_70 : decode cX8_more 70 = .ok (.ifCond .eq 5, 3) := by decide +kernel
theorem dX8_more_73 : decode cX8_more 73 = .ok (.iload_n 3, 1) := by decide +kernel
theorem dX8_more_74 : decode cX8_more 74 = .ok (.ireturn, 1) := by decide +kernel
theorem dX8_more_75 : decode cX8_more 75 = .ok (.iinc 3 1, 3) := by decide +kernel
theorem dX8_more_78 : decode cX8_more 78 = .ok (.goto (-32), 3) := by decide +kernel
theorem dX8_more_81 : decode cX8_more 81 = .ok (.iconst (-1), 1) := by decide +kernel
theorem dX8_more_82 : decode cX8_more 82 = .ok (.ireturn, 1) := by decide +kernel
set_option maxRecDepth 20000 in
theorem ggX8_lists_X8_isLaw : GoodIn wsX8_lists wsX8_isLaw := goodIn_r _ [11, 12, 13, 10, 14] (by decide +kernel) (by decide +kernel)
set_option maxRecDepth 20000 in
theorem gX8_lists_X8_isLaw : GoodIn wsX8_lists (va_wsS RX8 136 yX8_isLaw wsX8_isLaw) := goodIn_app (goodIn_of _ (by decide +kernel)) ggX8_lists_X8_isLaw
set_option maxRecDepth 20000 in
theorem ggX8_lists_X8_between : GoodIn wsX8_lists wsX8_between := goodIn_r _ [14] (by decide +kernel) (by decide +kernel)
set_option maxRecDepth 20000 in
theorem gX8_lists_X8_between : GoodIn wsX8_lists (va_wsS RX8 86 yX8_between wsX8_between) := goodIn_app (goodIn_of _ (by decide +kernel)) ggX8_lists_X8_between
set_option maxRecDepth 20000 in
theorem ggX8_lists_X8_refuse : GoodIn wsX8_lists wsX8_refuse := goodIn_r _ [18, 19, 20, 21, 112, 113, 114, 115, 116, 117, 118, 119, 120, 121, 122, 123, 124, 125, 126, 127, 128] (by decide +kernel) (by decide +kernel)
set_option maxRecDepth 20000 in
theorem gX8_lists_X8_refuse : GoodIn wsX8_lists (wsV RX8 90 RX8 yX8_refuse wsX8_refuse) := goodIn_app (goodIn_of _ (by decide +kernel)) ggX8_lists_X8_refuse
set_option maxRecDepth 20000 in
theorem ggX8_lists_X8_layOverAll : GoodIn wsX8_lists wsX8_layOverAll := goodIn_r _ [25, 26, 1, 27, 28, 29, 2, 30, 31, 32, 33, 34, 35, 36, 37, 38, 39, 40, 41, 42, 43, 44, 45, 46, 47, 48, 49, 50, 51, 52, 53, 54, 55, 56, 57, 58, 59, 60, 61, 13, 10, 14, 62, 63, 64, 65, 66, 67, 68, 69, 70, 71, 72, 73, 74, 75, 112, 113, 114, 115, 116, 117, 118, 119, 120, 121, 122, 123, 124, 125, 126, 127, 128, 129, 130, 131, 132, 133, 134, 140, 141, 142, 143, 144, 145, 146, 147] (by decide +kernel) (by decide +kernel)
set_option maxRecDepth 20000 in
theorem gX8_lists_X8_layOverAll : GoodIn wsX8_lists (wsV RX8 198 RX8 yX8_layOverAll wsX8_layOverAll) := goodIn_app (goodIn_of _ (by decide +kernel)) ggX8_lists_X8_layOverAll
set_option maxRecDepth 20000 in
theorem ggX8_lists_X4_tell : GoodIn wsX8_lists wsX4_tell := goodIn_r _ [80, 81, 82, 83, 84, 85, 86, 87, 88, 56, 57, 58, 59, 60, 61, 89, 90, 91, 79, 92, 93, 39, 40, 41, 94, 95, 96, 97, 98, 99, 33, 100, 42, 101, 102, 103, 104, 105, 106, 10, 107, 108, 109, 110, 111, 49, 50, 135, 136, 137, 138, 139, 140, 141, 142, 143, 144, 145, 146, 147] (by decide +kernel) (by decide +kernel)
set_option maxRecDepth 20000 in
theorem gX8_lists_X4_tell : GoodIn wsX8_lists (wsV RX8 201 RX4 yX4_tell wsX4_tell) := goodIn_app (goodIn_of _ (by decide +kernel)) ggX8_lists_X4_tell
theorem dX8_lists_0 : decode cX8_lists 0 = .ok (.iload_n 1, 1) := by decide +kernel
theorem dX8_lists_1 : decode cX8_lists 1 = .ok (.invokestatic 136, 3) := by decide +kernel
theorem dX8_lists_4 : decode cX8_lists 4 = .ok (.ifCond .eq 12, 3) := by decide +kernel
theorem dX8_lists_7 : decode cX8_lists 7 = .ok (.iload_n 2, 1) := by decide +kernel
theorem dX8_lists_8 : decode cX8_lists 8 = .ok (.iconst 0, 1) := by decide +kernel
theorem dX8_lists_9 : decode cX8_lists 9 = .ok (.iconst 3, 1) := by decide +kernel
theorem dX8_lists_10 : decode cX8_lists 10 = .ok (.invokestatic 86, 3) := by decide +kernel
theorem dX8_lists_13 : decode cX8_lists 13 = .ok (.ifCond .ne 12, 3) := by decide +kernel
theorem dX8_lists_16 : decode cX8_lists 16 = .ok (.aload_n 0, 1) := by decide +kernel
theorem dX8_lists_17 : decode cX8_lists 17 = .ok (.bipush (-2), 2) := by decide +kernel
theorem dX8_lists_19 : decode cX8_lists 19 = .ok (.bipush (-2), 2) := by decide +kernel
theorem dX8_lists_21 : decode cX8_lists 21 = .ok (.invokevirtual 90, 3) := by decide +kernel
theorem dX8_lists_24 : decode cX8_lists 24 = .ok (.ireturn, 1) := by decide +kernel
theorem dX8_lists_25 : decode cX8_lists 25 = .ok (.aload_n 0, 1) := by decide +kernel
theorem dX8_lists_26 : decode cX8_lists 26 = .ok (.getfield 12, 3) := by decide +kernel
theorem dX8_lists_29 : decode cX8_lists 29 = .ok (.getfield 94, 3) := by decide +kernel
theorem dX8_lists_32 : decode cX8_lists 32 = .ok (.iconst 4, 1) := by decide +kernel
theorem dX8_lists_33 : decode cX8_lists 33 = .ok (.if_icmp .le 12, 3) := by decide +kernel
theorem dX8_lists_36 : decode cX8_lists 36 = .ok (.aload_n 0, 1) := by decide +kernel
theorem dX8_lists_37 : decode cX8_lists 37 = .ok (.bipush (-3), 2) := by decide +kernel
theorem dX8_lists_39 : decode cX8_lists 39 = .ok (.bipush (-3), 2) := by decide +kernel
theorem dX8_lists_41 : decode cX8_lists 41 = .ok (.invokevirtual 90, 3) := by decide +kernel
theorem dX8_lists_44 : decode cX8_lists 44 = .ok (.ireturn, 1) := by decide +kernel
theorem dX8_lists_45 : decode cX8_lists 45 = .ok (.aload_n 0, 1) := by decide +kernel
theorem dX8_lists_46 : decode cX8_lists 46 = .ok (.iload_n 1, 1) := by decide +kernel
theorem dX8_lists_47 : decode cX8_lists 47 = .ok (.invokevirtual 198, 3) := by decide +kernel
theorem dX8_lists_50 : decode cX8_lists 50 = .ok (.aload_n 0, 1) := by decide +kernel
theorem dX8_lists_51 : decode cX8_lists 51 = .ok (.getfield 64, 3) := by decide +kernel
theorem dX8_lists_54 : decode cX8_lists 54 = .ok (.invokevirtual 201, 3) := by decide +kernel
theorem dX8_lists_57 : decode cX8_lists 57 = .ok (.iload_n 2, 1) := by decide +kernel
theorem dX8_lists_58 : decode cX8_lists 58 = .ok (.tableswitch 50 0 2 #[26, 34, 42], 26) := by decide +kernel
theorem dX8_lists_84 : decode cX8_lists 84 = .ok (.aload_n 0, 1) := by decide +kernel
theorem dX8_lists_85 : decode cX8_lists 85 = .ok (.getfield 64, 3) := by decide +kernel
theorem dX8_lists_88 : decode cX8_lists 88 = .ok (.getfield 204, 3) := by decide +kernel
theorem dX8_lists_91 : decode cX8_lists 91 = .ok (.ireturn, 1) := by decide +kernel
theorem dX8_lists_92 : decode cX8_lists 92 = .ok (.aload_n 0, 1) := by decide +kernel
theorem dX8_lists_93 : decode cX8_lists 93 = .ok (.getfield 64, 3) := by decide +kernel
theorem dX8_lists_96 : decode cX8_lists 96 = .ok (.getfield 207, 3) := by decide +kernel
theorem dX8_lists_99 : decode cX8_lists 99 = .ok (.ireturn, 1) := by decide +kernel
theorem dX8_lists_100 : decode cX8_lists 100 = .ok (.aload_n 0, 1) := by decide +kernel
theorem dX8_lists_101 : decode cX8_lists 101 = .ok (.getfield 64, 3) := by decide +kernel
theorem dX8_lists_104 : decode cX8_lists 104 = .ok (.getfield 210, 3) := by decide +kernel
theorem dX8_lists_107 : decode cX8_lists 107 = .ok (.ireturn, 1) := by decide +kernel
theorem dX8_lists_108 : decode cX8_lists 108 = .ok (.aload_n 0, 1) := by decide +kernel
theorem dX8_lists_109 : decode cX8_lists 109 = .ok (.getfield 64, 3) := by decide +kernel
theorem dX8_lists_112 : decode cX8_lists 112 = .ok (.getfield 213, 3) := by decide +kernel
theorem dX8_lists_115 : decode cX8_lists 115 = .ok (.ireturn, 1) := by decide +kernel
set_option maxRecDepth 20000 in
theorem ggX8_game_X8_isLaw : GoodIn wsX8_game wsX8_isLaw := goodIn_r _ [5, 6, 7, 4, 8] (by decide +kernel) (by decide +kernel)
set_option maxRecDepth 20000 in
theorem gX8_game_X8_isLaw : GoodIn wsX8_game (va_wsS RX8 136 yX8_isLaw wsX8_isLaw) := goodIn_app (goodIn_of _ (by decide +kernel)) ggX8_game_X8_isLaw
set_option maxRecDepth 20000 in
theorem ggX8_game_X8_between : GoodIn wsX8_game wsX8_between := goodIn_r _ [8] (by decide +kernel) (by decide +kernel)
set_option maxRecDepth 20000 in
theorem gX8_game_X8_between : GoodIn wsX8_game (va_wsS RX8 86 yX8_between wsX8_between) := goodIn_app (goodIn_of _ (by decide +kernel)) ggX8_game_X8_between
set_option maxRecDepth 20000 in
theorem ggX8_game_X8_refuse : GoodIn wsX8_game wsX8_refuse := goodIn_r _ [12, 13, 14, 15, 128, 129, 130, 131, 132, 133, 134, 135, 136, 137, 138, 139, 140, 141, 142, 143, 144] (by decide +kernel) (by decide +kernel)
set_option maxRecDepth 20000 in
theorem gX8_game_X8_refuse : GoodIn wsX8_game (wsV RX8 90 RX8 yX8_refuse wsX8_refuse) := goodIn_app (goodIn_of _ (by decide +kernel)) ggX8_game_X8_refuse
set_option maxRecDepth 20000 in
theorem ggX8_game_X8_beginGame : GoodIn wsX8_game wsX8_beginGame := goodIn_r _ [19, 20, 21, 22, 23, 1, 24, 25, 26, 4, 27, 28, 29, 30, 31, 32, 33, 34, 35, 36, 37, 38, 39, 40, 41, 42, 43, 44, 45, 46, 47, 48, 49, 50, 51, 52, 53, 54, 55, 56, 57, 58, 59, 60, 61, 62, 63, 7, 8, 64, 65, 66, 67, 68, 69, 70, 71, 72, 73, 74, 75, 76, 77, 78, 79, 80, 81, 82, 83, 84, 85, 86, 87, 88, 89, 90, 91, 92, 93, 94, 95, 96, 97, 98, 99, 128, 129, 130, 131, 132, 133, 134, 135, 136, 137, 138, 139, 140, 141, 142, 143, 144, 145, 146, 147, 148, 149, 150, 151, 152, 153, 154, 155, 156, 157, 158, 159, 160, 161, 162, 163, 164] (by decide +kernel) (by decide +kernel)
set_option maxRecDepth 20000 in
theorem gX8_game_X8_beginGame : GoodIn wsX8_game (wsV RX8 216 RX8 yX8_beginGame wsX8_beginGame) := goodIn_app (goodIn_of _ (by decide +kernel)) ggX8_game_X8_beginGame
set_option maxRecDepth 20000 in
theorem ggX8_game_X5_winningBox : GoodIn wsX8_game wsX5_winningBox := goodIn_r _ [103, 84, 104, 105, 106, 83, 85, 107, 108, 109, 81, 110, 111, 91, 92, 35, 93, 44, 112, 58, 59, 60, 61, 62, 63, 113, 114, 115, 116, 117, 118, 119, 120, 94, 4, 95, 121, 97, 98, 99, 51, 52, 122, 123, 124, 125, 126, 127, 159, 160, 161, 162, 163, 164, 151, 152, 153, 154, 155, 156, 157, 158] (by decide +kernel) (by decide +kernel)
set_option maxRecDepth 20000 in
theorem gX8_game_X5_winningBox : GoodIn wsX8_game (wsV RX8 219 RX5 yX5_winningBox wsX5_winningBox) := goodIn_app (goodIn_of _ (by decide +kernel)) ggX8_game_X5_winningBox
theorem dX8_game_0 : decode cX8_game 0 = .ok (.iload_n 1, 1) := by decide +kernel
theorem dX8_game_1 : decode cX8_game 1 = .ok (.invokestatic 136, 3) := by decide +kernel
theorem dX8_game_4 : decode cX8_game 4 = .ok (.ifCond .eq 12, 3) := by decide +kernel
theorem dX8_game_7 : decode cX8_game 7 = .ok (.iload_n 2, 1) := by decide +kernel
theorem dX8_game_8 : decode cX8_game 8 = .ok (.iconst 0, 1) := by decide +kernel
theorem dX8_game_9 : decode cX8_game 9 = .ok (.iconst 1, 1) := by decide +kernel
theorem dX8_game_10 : decode cX8_game 10 = .ok (.invokestatic 86, 3) := by decide +kernel
theorem dX8_game_13 : decode cX8_game 13 = .ok (.ifCond .ne 12, 3) := by decide +kernel
theorem dX8_game_16 : decode cX8_game 16 = .ok (.aload_n 0, 1) := by decide +kernel
theorem dX8_game_17 : decode cX8_game 17 = .ok (.bipush (-2), 2) := by decide +kernel
theorem dX8_game_19 : decode cX8_game 19 = .ok (.bipush (-10), 2) := by decide +kernel
theorem dX8_game_21 : decode cX8_game 21 = .ok (.invokevirtual 90, 3) := by decide +kernel
theorem dX8_game_24 : decode cX8_game 24 = .ok (.ireturn, 1) := by decide +kernel
theorem dX8_game_25 : decode cX8_game 25 = .ok (.aload_n 0, 1) := by decide +kernel
theorem dX8_game_26 : decode cX8_game 26 = .ok (.iload_n 1, 1) := by decide +kernel
theorem dX8_game_27 : decode cX8_game 27 = .ok (.invokevirtual 216, 3) := by decide +kernel
theorem dX8_game_30 : decode cX8_game 30 = .ok (.ifCond .ne 12, 3) := by decide +kernel
theorem dX8_game_33 : decode cX8_game 33 = .ok (.aload_n 0, 1) := by decide +kernel
theorem dX8_game_34 : decode cX8_game 34 = .ok (.bipush (-3), 2) := by decide +kernel
theorem dX8_game_36 : decode cX8_game 36 = .ok (.bipush (-20), 2) := by decide +kernel
theorem dX8_game_38 : decode cX8_game 38 = .ok (.invokevirtual 90, 3) := by decide +kernel
theorem dX8_game_41 : decode cX8_game 41 = .ok (.ireturn, 1) := by decide +kernel
