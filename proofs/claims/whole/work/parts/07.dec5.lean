theorem dX9_init_0 : decode cX9_init 0 = .ok (.aload_n 0, 1) := by decide +kernel
theorem dX9_init_1 : decode cX9_init 1 = .ok (.invokespecial 1, 3) := by decide +kernel
theorem dX9_init_4 : decode cX9_init 4 = .ok (.aload_n 0, 1) := by decide +kernel
theorem dX9_init_5 : decode cX9_init 5 = .ok (.iconst 4, 1) := by decide +kernel
theorem dX9_init_6 : decode cX9_init 6 = .ok (.putfield 7, 3) := by decide +kernel
theorem dX9_init_9 : decode cX9_init 9 = .ok (.aload_n 0, 1) := by decide +kernel
theorem dX9_init_10 : decode cX9_init 10 = .ok (.bipush 8, 2) := by decide +kernel
theorem dX9_init_12 : decode cX9_init 12 = .ok (.putfield 13, 3) := by decide +kernel
theorem dX9_init_15 : decode cX9_init 15 = .ok (.aload_n 0, 1) := by decide +kernel
theorem dX9_init_16 : decode cX9_init 16 = .ok (.bipush 16, 2) := by decide +kernel
theorem dX9_init_18 : decode cX9_init 18 = .ok (.newarray .int, 2) := by decide +kernel
theorem dX9_init_20 : decode cX9_init 20 = .ok (.putfield 16, 3) := by decide +kernel
theorem dX9_init_23 : decode cX9_init 23 = .ok (.aload_n 0, 1) := by decide +kernel
theorem dX9_init_24 : decode cX9_init 24 = .ok (.bipush 16, 2) := by decide +kernel
theorem dX9_init_26 : decode cX9_init 26 = .ok (.newarray .int, 2) := by decide +kernel
theorem dX9_init_28 : decode cX9_init 28 = .ok (.putfield 20, 3) := by decide +kernel
theorem dX9_init_31 : decode cX9_init 31 = .ok (.aload_n 0, 1) := by decide +kernel
theorem dX9_init_32 : decode cX9_init 32 = .ok (.bipush 8, 2) := by decide +kernel
theorem dX9_init_34 : decode cX9_init 34 = .ok (.newarray .int, 2) := by decide +kernel
theorem dX9_init_36 : decode cX9_init 36 = .ok (.putfield 23, 3) := by decide +kernel
theorem dX9_init_39 : decode cX9_init 39 = .ok (.aload_n 0, 1) := by decide +kernel
theorem dX9_init_40 : decode cX9_init 40 = .ok (.sipush 200, 3) := by decide +kernel
theorem dX9_init_43 : decode cX9_init 43 = .ok (.newarray .int, 2) := by decide +kernel
theorem dX9_init_45 : decode cX9_init 45 = .ok (.putfield 26, 3) := by decide +kernel
theorem dX9_init_48 : decode cX9_init 48 = .ok (.aload_n 0, 1) := by decide +kernel
theorem dX9_init_49 : decode cX9_init 49 = .ok (.lconst 1, 1) := by decide +kernel
theorem dX9_init_50 : decode cX9_init 50 = .ok (.putfield 29, 3) := by decide +kernel
theorem dX9_init_53 : decode cX9_init 53 = .ok (.aload_n 0, 1) := by decide +kernel
theorem dX9_init_54 : decode cX9_init 54 = .ok (.bipush 96, 2) := by decide +kernel
theorem dX9_init_56 : decode cX9_init 56 = .ok (.newarray .int, 2) := by decide +kernel
theorem dX9_init_58 : decode cX9_init 58 = .ok (.putfield 33, 3) := by decide +kernel
theorem dX9_init_61 : decode cX9_init 61 = .ok (.aload_n 0, 1) := by decide +kernel
theorem dX9_init_62 : decode cX9_init 62 = .ok (.iconst 3, 1) := by decide +kernel
theorem dX9_init_63 : decode cX9_init 63 = .ok (.newarray .int, 2) := by decide +kernel
theorem dX9_init_65 : decode cX9_init 65 = .ok (.putfield 36, 3) := by decide +kernel
theorem dX9_init_68 : decode cX9_init 68 = .ok (.aload_n 0, 1) := by decide +kernel
theorem dX9_init_69 : decode cX9_init 69 = .ok (.bipush 16, 2) := by decide +kernel
theorem dX9_init_71 : decode cX9_init 71 = .ok (.newarray .int, 2) := by decide +kernel
theorem dX9_init_73 : decode cX9_init 73 = .ok (.putfield 39, 3) := by decide +kernel
theorem dX9_init_76 : decode cX9_init 76 = .ok (.aload_n 0, 1) := by decide +kernel
theorem dX9_init_77 : decode cX9_init 77 = .ok (.bipush 16, 2) := by decide +kernel
theorem dX9_init_79 : decode cX9_init 79 = .ok (.newarray .int, 2) := by decide +kernel
theorem dX9_init_81 : decode cX9_init 81 = .ok (.putfield 42, 3) := by decide +kernel
theorem dX9_init_84 : decode cX9_init 84 = .ok (.aload_n 0, 1) := by decide +kernel
theorem dX9_init_85 : decode cX9_init 85 = .ok (.bipush 61, 2) := by decide +kernel
theorem dX9_init_87 : decode cX9_init 87 = .ok (.newarray .long, 2) := by decide +kernel
theorem dX9_init_89 : decode cX9_init 89 = .ok (.putfield 45, 3) := by decide +kernel
theorem dX9_init_92 : decode cX9_init 92 = .ok (.aload_n 0, 1) := by decide +kernel
theorem dX9_init_93 : decode cX9_init 93 = .ok (.bipush 16, 2) := by decide +kernel
theorem dX9_init_95 : decode cX9_init 95 = .ok (.newarray .int, 2) := by decide +kernel
theorem dX9_init_97 : decode cX9_init 97 = .ok (.putfield 49, 3) := by decide +kernel
theorem dX9_init_100 : decode cX9_init 100 = .ok (.aload_n 0, 1) := by decide +kernel
theorem dX9_init_101 : decode cX9_init 101 = .ok (.bipush 16, 2) := by decide +kernel
theorem dX9_init_103 : decode cX9_init 103 = .ok (.newarray .int, 2) := by decide +kernel
theorem dX9_init_105 : decode cX9_init 105 = .ok (.putfield 52, 3) := by decide +kernel
theorem dX9_init_108 : decode cX9_init 108 = .ok (.aload_n 0, 1) := by decide +kernel
theorem dX9_init_109 : decode cX9_init 109 = .ok (.bipush 17, 2) := by decide +kernel
theorem dX9_init_111 : decode cX9_init 111 = .ok (.newarray .int, 2) := by decide +kernel
theorem dX9_init_113 : decode cX9_init 113 = .ok (.putfield 55, 3) := by decide +kernel
theorem dX9_init_116 : decode cX9_init 116 = .ok (.aload_n 0, 1) := by decide +kernel
theorem dX9_init_117 : decode cX9_init 117 = .ok (.bipush 17, 2) := by decide +kernel
theorem dX9_init_119 : decode cX9_init 119 = .ok (.newarray .int, 2) := by decide +kernel
theorem dX9_init_121 : decode cX9_init 121 = .ok (.putfield 58, 3) := by decide +kernel
theorem dX9_init_124 : decode cX9_init 124 = .ok (.aload_n 0, 1) := by decide +kernel
theorem dX9_init_125 : decode cX9_init 125 = .ok (.sipush 256, 3) := by decide +kernel
theorem dX9_init_128 : decode cX9_init 128 = .ok (.newarray .int, 2) := by decide +kernel
theorem dX9_init_130 : decode cX9_init 130 = .ok (.putfield 61, 3) := by decide +kernel
theorem dX9_init_133 : decode cX9_init 133 = .ok (.aload_n 0, 1) := by decide +kernel
theorem dX9_init_134 : decode cX9_init 134 = .ok (.sipush 256, 3) := by decide +kernel
theorem dX9_init_137 : decode cX9_init 137 = .ok (.newarray .int, 2) := by decide +kernel
theorem dX9_init_139 : decode cX9_init 139 = .ok (.putfield 64, 3) := by decide +kernel
theorem dX9_init_142 : decode cX9_init 142 = .ok (.aload_n 0, 1) := by decide +kernel
theorem dX9_init_143 : decode cX9_init 143 = .ok (.bipush 16, 2) := by decide +kernel
theorem dX9_init_145 : decode cX9_init 145 = .ok (.newarray .int, 2) := by decide +kernel
theorem dX9_init_147 : decode cX9_init 147 = .ok (.putfield 67, 3) := by decide +kernel
theorem dX9_init_150 : decode cX9_init 150 = .ok (.aload_n 0, 1) := by decide +kernel
theorem dX9_init_151 : decode cX9_init 151 = .ok (.ldc 70, 2) := by decide +kernel
theorem dX9_init_153 : decode cX9_init 153 = .ok (.newarray .int, 2) := by decide +kernel
theorem dX9_init_155 : decode cX9_init 155 = .ok (.putfield 71, 3) := by decide +kernel
theorem dX9_init_158 : decode cX9_init 158 = .ok (.aload_n 0, 1) := by decide +kernel
theorem dX9_init_159 : decode cX9_init 159 = .ok (.ldc 70, 2) := by decide +kernel
theorem dX9_init_161 : decode cX9_init 161 = .ok (.newarray .int, 2) := by decide +kernel
theorem dX9_init_163 : decode cX9_init 163 = .ok (.putfield 74, 3) := by decide +kernel
theorem dX9_init_166 : decode cX9_init 166 = .ok (.aload_n 0, 1) := by decide +kernel
theorem dX9_init_167 : decode cX9_init 167 = .ok (.ldc 70, 2) := by decide +kernel
theorem dX9_init_169 : decode cX9_init 169 = .ok (.newarray .boolean, 2) := by decide +kernel
theorem dX9_init_171 : decode cX9_init 171 = .ok (.putfield 77, 3) := by decide +kernel
theorem dX9_init_174 : decode cX9_init 174 = .ok (.aload_n 0, 1) := by decide +kernel
theorem dX9_init_175 : decode cX9_init 175 = .ok (.sipush 256, 3) := by decide +kernel
theorem dX9_init_178 : decode cX9_init 178 = .ok (.newarray .long, 2) := by decide +kernel
theorem dX9_init_180 : decode cX9_init 180 = .ok (.putfield 81, 3) := by decide +kernel
theorem dX9_init_183 : decode cX9_init 183 = .ok (.aload_n 0, 1) := by decide +kernel
theorem dX9_init_184 : decode cX9_init 184 = .ok (.bipush 9, 2) := by decide +kernel
theorem dX9_init_186 : decode cX9_init 186 = .ok (.newarray .long, 2) := by decide +kernel
theorem dX9_init_188 : decode cX9_init 188 = .ok (.putfield 84, 3) := by decide +kernel
theorem dX9_init_191 : decode cX9_init 191 = .ok (.aload_n 0, 1) := by decide +kernel
theorem dX9_init_192 : decode cX9_init 192 = .ok (.bipush 73, 2) := by decide +kernel
theorem dX9_init_194 : decode cX9_init 194 = .ok (.newarray .long, 2) := by decide +kernel
theorem dX9_init_196 : decode cX9_init 196 = .ok (.putfield 87, 3) := by decide +kernel
theorem dX9_init_199 : decode cX9_init 199 = .ok (.return_, 1) := by decide +kernel
theorem dX9_in_0 : decode cX9_in 0 = .ok (.lload_n 0, 1) := by decide +kernel
theorem dX9_in_1 : decode cX9_in 1 = .ok (.lload_n 2, 1) := by decide +kernel
theorem dX9_in_2 : decode cX9_in 2 = .ok (.lcmp, 1) := by decide +kernel
theorem dX9_in_3 : decode cX9_in 3 = .ok (.ifCond .lt 14, 3) := by decide +kernel
theorem dX9_in_6 : decode cX9_in 6 = .ok (.lload_n 0, 1) := by decide +kernel
theorem dX9_in_7 : decode cX9_in 7 = .ok (.lload 4, 2) := by decide +kernel
theorem dX9_in_9 : decode cX9_in 9 = .ok (.lcmp, 1) := by decide +kernel
theorem dX9_in_10 : decode cX9_in 10 = .ok (.ifCond .gt 7, 3) := by decide +kernel
theorem dX9_in_13 : decode cX9_in 13 = .ok (.iconst 1, 1) := by decide +kernel
theorem dX9_in_14 : decode cX9_in 14 = .ok (.goto 4, 3) := by decide +kernel
theorem dX9_in_17 : decode cX9_in 17 = .ok (.iconst 0, 1) := by decide +kernel
theorem dX9_in_18 : decode cX9_in 18 = .ok (.ireturn, 1) := by decide +kernel
theorem dX9_refuse_0 : decode cX9_refuse 0 = .ok (.aload_n 0, 1) := by decide +kernel
theorem dX9_refuse_1 : decode cX9_refuse 1 = .ok (.getfield 36, 3) := by decide +kernel
theorem dX9_refuse_4 : decode cX9_refuse 4 = .ok (.bipush (-2), 2) := by decide +kernel
theorem dX9_refuse_6 : decode cX9_refuse 6 = .ok (.iload_n 1, 1) := by decide +kernel
theorem dX9_refuse_7 : decode cX9_refuse 7 = .ok (.isub, 1) := by decide +kernel
theorem dX9_refuse_8 : decode cX9_refuse 8 = .ok (.dup2, 1) := by decide +kernel
theorem dX9_refuse_9 : decode cX9_refuse 9 = .ok (.iaload, 1) := by decide +kernel
theorem dX9_refuse_10 : decode cX9_refuse 10 = .ok (.iconst 1, 1) := by decide +kernel
theorem dX9_refuse_11 : decode cX9_refuse 11 = .ok (.iadd, 1) := by decide +kernel
theorem dX9_refuse_12 : decode cX9_refuse 12 = .ok (.iastore, 1) := by decide +kernel
theorem dX9_refuse_13 : decode cX9_refuse 13 = .ok (.iload_n 1, 1) := by decide +kernel
theorem dX9_refuse_14 : decode cX9_refuse 14 = .ok (.ireturn, 1) := by decide +kernel
theorem dX9_many_0 : decode cX9_many 0 = .ok (.iconst 0, 1) := by decide +kernel
theorem dX9_many_1 : decode cX9_many 1 = .ok (.istore_n 1, 1) := by decide +kernel
theorem dX9_many_2 : decode cX9_many 2 = .ok (.iload_n 0, 1) := by decide +kernel
theorem dX9_many_3 : decode cX9_many 3 = .ok (.istore_n 2, 1) := by decide +kernel
theorem dX9_many_4 : decode cX9_many 4 = .ok (.iload_n 2, 1) := by decide +kernel
theorem dX9_many_5 : decode cX9_many 5 = .ok (.ifCond .eq 15, 3) := by decide +kernel
theorem dX9_many_8 : decode cX9_many 8 = .ok (.iinc 1 1, 3) := by decide +kernel
theorem dX9_many_11 : decode cX9_many 11 = .ok (.iload_n 2, 1) := by decide +kernel
theorem dX9_many_12 : decode cX9_many 12 = .ok (.iload_n 2, 1) := by decide +kernel
theorem dX9_many_13 : decode cX9_many 13 = .ok (.iconst 1, 1) := by decide +kernel
theorem dX9_many_14 : decode cX9_many 14 = .ok (.isub, 1) := by decide +kernel
theorem dX9_many_15 : decode cX9_many 15 = .ok (.iand, 1) := by decide +kernel
theorem dX9_many_16 : decode cX9_many 16 = .ok (.istore_n 2, 1) := by decide +kernel
theorem dX9_many_17 : decode cX9_many 17 = .ok (.goto (-13), 3) := by decide +kernel
theorem dX9_many_20 : decode cX9_many 20 = .ok (.iload_n 1, 1) := by decide +kernel
theorem dX9_many_21 : decode cX9_many 21 = .ok (.ireturn, 1) := by decide +kernel
set_option maxRecDepth 20000 in
theorem ggX9_isLaw_X9_in : GoodIn wsX9_isLaw wsX9_in := goodIn_r _ [5] (by decide +kernel) (by decide +kernel)
set_option maxRecDepth 20000 in
theorem gX9_isLaw_X9_in : GoodIn wsX9_isLaw (va_wsS RX9 92 yX9_in wsX9_in) := goodIn_app (goodIn_of _ (by decide +kernel)) ggX9_isLaw_X9_in
theorem dX9_isLaw_0 : decode cX9_isLaw 0 = .ok (.iload_n 0, 1) := by decide +kernel
theorem dX9_isLaw_1 : decode cX9_isLaw 1 = .ok (.i2l, 1) := by decide +kernel
theorem dX9_isLaw_2 : decode cX9_isLaw 2 = .ok (.lconst 0, 1) := by decide +kernel
theorem dX9_isLaw_3 : decode cX9_isLaw 3 = .ok (.ldc2_w 90, 3) := by decide +kernel
theorem dX9_isLaw_6 : decode cX9_isLaw 6 = .ok (.invokestatic 92, 3) := by decide +kernel
theorem dX9_isLaw_9 : decode cX9_isLaw 9 = .ok (.ireturn, 1) := by decide +kernel
set_option maxRecDepth 20000 in
theorem ggX9_sorts_X9_in : GoodIn wsX9_sorts wsX9_in := goodIn_r _ [7] (by decide +kernel) (by decide +kernel)
set_option maxRecDepth 20000 in
theorem gX9_sorts_X9_in : GoodIn wsX9_sorts (va_wsS RX9 92 yX9_in wsX9_in) := goodIn_app (goodIn_of _ (by decide +kernel)) ggX9_sorts_X9_in
set_option maxRecDepth 20000 in
theorem ggX9_sorts_X9_refuse : GoodIn wsX9_sorts wsX9_refuse := goodIn_r _ [11, 12, 13, 14, 15, 16, 17, 18, 19, 20, 21, 22, 23, 24, 25, 26, 27, 28, 29, 30, 31, 32, 33, 34, 35, 36, 37, 38, 39, 40, 41, 42, 43, 44, 45, 46, 47, 48, 49, 50, 51, 52, 53, 54, 55, 56, 57, 58, 59, 60, 61, 62, 63] (by decide +kernel) (by decide +kernel)
set_option maxRecDepth 20000 in
theorem gX9_sorts_X9_refuse : GoodIn wsX9_sorts (wsV RX9 98 RX9 yX9_refuse wsX9_refuse) := goodIn_app (goodIn_of _ (by decide +kernel)) ggX9_sorts_X9_refuse
theorem dX9_sorts_0 : decode cX9_sorts 0 = .ok (.iload_n 1, 1) := by decide +kernel
theorem dX9_sorts_1 : decode cX9_sorts 1 = .ok (.i2l, 1) := by decide +kernel
theorem dX9_sorts_2 : decode cX9_sorts 2 = .ok (.lconst 1, 1) := by decide +kernel
theorem dX9_sorts_3 : decode cX9_sorts 3 = .ok (.ldc2_w 96, 3) := by decide +kernel
theorem dX9_sorts_6 : decode cX9_sorts 6 = .ok (.invokestatic 92, 3) := by decide +kernel
theorem dX9_sorts_9 : decode cX9_sorts 9 = .ok (.ifCond .ne 10, 3) := by decide +kernel
theorem dX9_sorts_12 : decode cX9_sorts 12 = .ok (.aload_n 0, 1) := by decide +kernel
theorem dX9_sorts_13 : decode cX9_sorts 13 = .ok (.bipush (-2), 2) := by decide +kernel
theorem dX9_sorts_15 : decode cX9_sorts 15 = .ok (.invokevirtual 98, 3) := by decide +kernel
theorem dX9_sorts_18 : decode cX9_sorts 18 = .ok (.ireturn, 1) := by decide +kernel
theorem dX9_sorts_19 : decode cX9_sorts 19 = .ok (.aload_n 0, 1) := by decide +kernel
theorem dX9_sorts_20 : decode cX9_sorts 20 = .ok (.getfield 7, 3) := by decide +kernel
theorem dX9_sorts_23 : decode cX9_sorts 23 = .ok (.istore_n 2, 1) := by decide +kernel
theorem dX9_sorts_24 : decode cX9_sorts 24 = .ok (.aload_n 0, 1) := by decide +kernel
theorem dX9_sorts_25 : decode cX9_sorts 25 = .ok (.iload_n 1, 1) := by decide +kernel
theorem dX9_sorts_26 : decode cX9_sorts 26 = .ok (.putfield 7, 3) := by decide +kernel
theorem dX9_sorts_29 : decode cX9_sorts 29 = .ok (.aload_n 0, 1) := by decide +kernel
theorem dX9_sorts_30 : decode cX9_sorts 30 = .ok (.iconst 0, 1) := by decide +kernel
theorem dX9_sorts_31 : decode cX9_sorts 31 = .ok (.putfield 102, 3) := by decide +kernel
theorem dX9_sorts_34 : decode cX9_sorts 34 = .ok (.iload_n 2, 1) := by decide +kernel
theorem dX9_sorts_35 : decode cX9_sorts 35 = .ok (.ireturn, 1) := by decide +kernel
set_option maxRecDepth 20000 in
theorem ggX9_sizes_X9_in : GoodIn wsX9_sizes wsX9_in := goodIn_r _ [7] (by decide +kernel) (by decide +kernel)
set_option maxRecDepth 20000 in
theorem gX9_sizes_X9_in : GoodIn wsX9_sizes (va_wsS RX9 92 yX9_in wsX9_in) := goodIn_app (goodIn_of _ (by decide +kernel)) ggX9_sizes_X9_in
set_option maxRecDepth 20000 in
theorem ggX9_sizes_X9_refuse : GoodIn wsX9_sizes wsX9_refuse := goodIn_r _ [11, 12, 13, 14, 15, 16, 17, 18, 19, 20, 21, 22, 23, 24, 25, 26, 27, 28, 29, 30, 31, 32, 33, 34, 35, 36, 37, 38, 39, 40, 41, 42, 43, 44, 45, 46, 47, 48, 49, 50, 51, 52, 53, 54, 55, 56, 57, 58, 59, 60, 61, 62, 63] (by decide +kernel) (by decide +kernel)
set_option maxRecDepth 20000 in
theorem gX9_sizes_X9_refuse : GoodIn wsX9_sizes (wsV RX9 98 RX9 yX9_refuse wsX9_refuse) := goodIn_app (goodIn_of _ (by decide +kernel)) ggX9_sizes_X9_refuse
theorem dX9_sizes_0 : decode cX9_sizes 0 = .ok (.iload_n 1, 1) := by decide +kernel
theorem dX9_sizes_1 : decode cX9_sizes 1 = .ok (.i2l, 1) := by decide +kernel
theorem dX9_sizes_2 : decode cX9_sizes 2 = .ok (.lconst 0, 1) := by decide +kernel
theorem dX9_sizes_3 : decode cX9_sizes 3 = .ok (.ldc2_w 96, 3) := by decide +kernel
theorem dX9_sizes_6 : decode cX9_sizes 6 = .ok (.invokestatic 92, 3) := by decide +kernel
theorem dX9_sizes_9 : decode cX9_sizes 9 = .ok (.ifCond .eq 16, 3) := by decide +kernel
theorem dX9_sizes_12 : decode cX9_sizes 12 = .ok (.iload_n 2, 1) := by decide +kernel
theorem dX9_sizes_13 : decode cX9_sizes 13 = .ok (.i2l, 1) := by decide +kernel
theorem dX9_sizes_14 : decode cX9_sizes 14 = .ok (.iload_n 1, 1) := by decide +kernel
theorem dX9_sizes_15 : decode cX9_sizes 15 = .ok (.i2l, 1) := by decide +kernel
theorem dX9_sizes_16 : decode cX9_sizes 16 = .ok (.ldc2_w 96, 3) := by decide +kernel
theorem dX9_sizes_19 : decode cX9_sizes 19 = .ok (.invokestatic 92, 3) := by decide +kernel
theorem dX9_sizes_22 : decode cX9_sizes 22 = .ok (.ifCond .ne 10, 3) := by decide +kernel
theorem dX9_sizes_25 : decode cX9_sizes 25 = .ok (.aload_n 0, 1) := by decide +kernel
theorem dX9_sizes_26 : decode cX9_sizes 26 = .ok (.bipush (-2), 2) := by decide +kernel
theorem dX9_sizes_28 : decode cX9_sizes 28 = .ok (.invokevirtual 98, 3) := by decide +kernel
theorem dX9_sizes_31 : decode cX9_sizes 31 = .ok (.ireturn, 1) := by decide +kernel
theorem dX9_sizes_32 : decode cX9_sizes 32 = .ok (.aload_n 0, 1) := by decide +kernel
theorem dX9_sizes_33 : decode cX9_sizes 33 = .ok (.iload_n 1, 1) := by decide +kernel
theorem dX9_sizes_34 : decode cX9_sizes 34 = .ok (.putfield 105, 3) := by decide +kernel
theorem dX9_sizes_37 : decode cX9_sizes 37 = .ok (.aload_n 0, 1) := by decide +kernel
theorem dX9_sizes_38 : decode cX9_sizes 38 = .ok (.iload_n 2, 1) := by decide +kernel
theorem dX9_sizes_39 : decode cX9_sizes 39 = .ok (.putfield 13, 3) := by decide +kernel
theorem dX9_sizes_42 : decode cX9_sizes 42 = .ok (.iconst 1, 1) := by decide +kernel
theorem dX9_sizes_43 : decode cX9_sizes 43 = .ok (.ireturn, 1) := by decide +kernel
theorem dX9_numberOf_0 : decode cX9_numberOf 0 = .ok (.iconst 0, 1) := by decide +kernel
theorem dX9_numberOf_1 : decode cX9_numberOf 1 = .ok (.istore_n 2, 1) := by decide +kernel
theorem dX9_numberOf_2 : decode cX9_numberOf 2 = .ok (.iload_n 2, 1) := by decide +kernel
theorem dX9_numberOf_3 : decode cX9_numberOf 3 = .ok (.aload_n 0, 1) := by decide +kernel
theorem dX9_numberOf_4 : decode cX9_numberOf 4 = .ok (.getfield 102, 3) := by decide +kernel
theorem dX9_numberOf_7 : decode cX9_numberOf 7 = .ok (.if_icmp .ge 21, 3) := by decide +kernel
theorem dX9_numberOf_10 : decode cX9_numberOf 10 = .ok (.aload_n 0, 1) := by decide +kernel
theorem dX9_numberOf_11 : decode cX9_numberOf 11 = .ok (.getfield 16, 3) := by decide +kernel
theorem dX9_numberOf_14 : decode cX9_numberOf 14 = .ok (.iload_n 2, 1) := by decide +kernel
theorem dX9_numberOf_15 : decode cX9_numberOf 15 = .ok (.iaload, 1) := by decide +kernel
theorem dX9_numberOf_16 : decode cX9_numberOf 16 = .ok (.iload_n 1, 1) := by decide +kernel
theorem dX9_numberOf_17 : decode cX9_numberOf 17 = .ok (.if_icmp .ne 5, 3) := by decide +kernel
theorem dX9_numberOf_20 : decode cX9_numberOf 20 = .ok (.iload_n 2, 1) := by decide +kernel
theorem dX9_numberOf_21 : decode cX9_numberOf 21 = .ok (.ireturn, 1) := by decide +kernel
theorem dX9_numberOf_22 : decode cX9_numberOf 22 = .ok (.iinc 2 1, 3) := by decide +kernel
theorem dX9_numberOf_25 : decode cX9_numberOf 25 = .ok (.goto (-23), 3) := by decide +kernel
theorem dX9_numberOf_28 : decode cX9_numberOf 28 = .ok (.iconst (-1), 1) := by decide +kernel
theorem dX9_numberOf_29 : decode cX9_numberOf 29 = .ok (.ireturn, 1) := by decide +kernel
set_option maxRecDepth 20000 in
theorem ggX9_isBox_X9_in : GoodIn wsX9_isBox wsX9_in := goodIn_r _ [5] (by decide +kernel) (by decide +kernel)
set_option maxRecDepth 20000 in
theorem gX9_isBox_X9_in : GoodIn wsX9_isBox (va_wsS RX9 92 yX9_in wsX9_in) := goodIn_app (goodIn_of _ (by decide +kernel)) ggX9_isBox_X9_in
theorem dX9_isBox_0 : decode cX9_isBox 0 = .ok (.iload_n 1, 1) := by decide +kernel
theorem dX9_isBox_1 : decode cX9_isBox 1 = .ok (.i2l, 1) := by decide +kernel
theorem dX9_isBox_2 : decode cX9_isBox 2 = .ok (.lconst 0, 1) := by decide +kernel
theorem dX9_isBox_3 : decode cX9_isBox 3 = .ok (.iconst 1, 1) := by decide +kernel
theorem dX9_isBox_4 : decode cX9_isBox 4 = .ok (.aload_n 0, 1) := by decide +kernel
theorem dX9_isBox_5 : decode cX9_isBox 5 = .ok (.getfield 7, 3) := by decide +kernel
theorem dX9_isBox_8 : decode cX9_isBox 8 = .ok (.ishl, 1) := by decide +kernel
theorem dX9_isBox_9 : decode cX9_isBox 9 = .ok (.iconst 1, 1) := by decide +kernel
theorem dX9_isBox_10 : decode cX9_isBox 10 = .ok (.isub, 1) := by decide +kernel
theorem dX9_isBox_11 : decode cX9_isBox 11 = .ok (.i2l, 1) := by decide +kernel
theorem dX9_isBox_12 : decode cX9_isBox 12 = .ok (.invokestatic 92, 3) := by decide +kernel
theorem dX9_isBox_15 : decode cX9_isBox 15 = .ok (.ireturn, 1) := by decide +kernel
set_option maxRecDepth 20000 in
theorem ggX9_box_X9_isBox : GoodIn wsX9_box wsX9_isBox := goodIn_r _ [9, 10, 11, 12, 8, 13, 23, 24, 25, 26, 27, 28, 29, 30, 31, 32, 33, 34, 35, 36, 37, 38, 39, 40, 41, 42, 43, 44, 45, 46, 47, 48, 49, 50, 51, 52, 53, 54, 55, 56, 57, 58, 59, 60, 61, 62, 63, 64, 65, 66, 67, 68, 69, 70, 71, 72, 73] (by decide +kernel) (by decide +kernel)
set_option maxRecDepth 20000 in
theorem gX9_box_X9_isBox : GoodIn wsX9_box (wsV RX9 108 RX9 yX9_isBox wsX9_isBox) := goodIn_app (goodIn_of _ (by decide +kernel)) ggX9_box_X9_isBox
set_option maxRecDepth 20000 in
theorem ggX9_box_X9_in : GoodIn wsX9_box wsX9_in := goodIn_r _ [13] (by decide +kernel) (by decide +kernel)
set_option maxRecDepth 20000 in
theorem gX9_box_X9_in : GoodIn wsX9_box (va_wsS RX9 92 yX9_in wsX9_in) := goodIn_app (goodIn_of _ (by decide +kernel)) ggX9_box_X9_in
set_option maxRecDepth 20000 in
theorem ggX9_box_X9_numberOf : GoodIn wsX9_box wsX9_numberOf := goodIn_r _ [17, 2, 3, 23, 24, 25, 26, 27, 28, 29, 30, 31, 32, 33, 34, 35, 36, 37, 38, 39, 40, 41, 42, 43, 44, 45, 46, 47, 48, 49, 50, 51, 52, 53, 54, 55, 56, 57, 58, 59, 60, 61, 62, 63, 64, 65, 66, 67, 68, 69, 70, 71, 72, 73] (by decide +kernel) (by decide +kernel)
set_option maxRecDepth 20000 in
theorem gX9_box_X9_numberOf : GoodIn wsX9_box (wsV RX9 114 RX9 yX9_numberOf wsX9_numberOf) := goodIn_app (goodIn_of _ (by decide +kernel)) ggX9_box_X9_numberOf
set_option maxRecDepth 20000 in
theorem ggX9_box_X9_refuse : GoodIn wsX9_box wsX9_refuse := goodIn_r _ [21, 22, 23, 24, 25, 26, 27, 28, 29, 30, 31, 32, 33, 34, 35, 36, 37, 38, 39, 40, 41, 42, 43, 44, 45, 46, 47, 48, 49, 50, 51, 52, 53, 54, 55, 56, 57, 58, 59, 60, 61, 62, 63, 64, 65, 66, 67, 68, 69, 70, 71, 72, 73] (by decide +kernel) (by decide +kernel)
set_option maxRecDepth 20000 in
theorem gX9_box_X9_refuse : GoodIn wsX9_box (wsV RX9 98 RX9 yX9_refuse wsX9_refuse) := goodIn_app (goodIn_of _ (by decide +kernel)) ggX9_box_X9_refuse
theorem dX9_box_0 : decode cX9_box 0 = .ok (.aload_n 0, 1) := by decide +kernel
theorem dX9_box_1 : decode cX9_box 1 = .ok (.iload_n 1, 1) := by decide +kernel
theorem dX9_box_2 : decode cX9_box 2 = .ok (.invokevirtual 108, 3) := by decide +kernel
theorem dX9_box_5 : decode cX9_box 5 = .ok (.ifCond .eq 24, 3) := by decide +kernel
theorem dX9_box_8 : decode cX9_box 8 = .ok (.iload_n 2, 1) := by decide +kernel
theorem dX9_box_9 : decode cX9_box 9 = .ok (.i2l, 1) := by decide +kernel
theorem dX9_box_10 : decode cX9_box 10 = .ok (.lconst 0, 1) := by decide +kernel
theorem dX9_box_11 : decode cX9_box 11 = .ok (.ldc2_w 112, 3) := by decide +kernel
theorem dX9_box_14 : decode cX9_box 14 = .ok (.invokestatic 92, 3) := by decide +kernel
theorem dX9_box_17 : decode cX9_box 17 = .ok (.ifCond .eq 12, 3) := by decide +kernel
theorem dX9_box_20 : decode cX9_box 20 = .ok (.aload_n 0, 1) := by decide +kernel
theorem dX9_box_21 : decode cX9_box 21 = .ok (.iload_n 1, 1) := by decide +kernel
theorem dX9_box_22 : decode cX9_box 22 = .ok (.invokevirtual 114, 3) := by decide +kernel
theorem dX9_box_25 : decode cX9_box 25 = .ok (.iconst (-1), 1) := by decide +kernel
theorem dX9_box_26 : decode cX9_box 26 = .ok (.if_icmp .eq 10, 3) := by decide +kernel
theorem dX9_box_29 : decode cX9_box 29 = .ok (.aload_n 0, 1) := by decide +kernel
theorem dX9_box_30 : decode cX9_box 30 = .ok (.bipush (-2), 2) := by decide +kernel
theorem dX9_box_32 : decode cX9_box 32 = .ok (.invokevirtual 98, 3) := by decide +kernel
theorem dX9_box_35 : decode cX9_box 35 = .ok (.ireturn, 1) := by decide +kernel
theorem dX9_box_36 : decode cX9_box 36 = .ok (.aload_n 0, 1) := by decide +kernel
theorem dX9_box_37 : decode cX9_box 37 = .ok (.getfield 102, 3) := by decide +kernel
theorem dX9_box_40 : decode cX9_box 40 = .ok (.bipush 16, 2) := by decide +kernel
theorem dX9_box_42 : decode cX9_box 42 = .ok (.if_icmp .ne 10, 3) := by decide +kernel
theorem dX9_box_45 : decode cX9_box 45 = .ok (.aload_n 0, 1) := by decide +kernel
theorem dX9_box_46 : decode cX9_box 46 = .ok (.bipush (-4), 2) := by decide +kernel
theorem dX9_box_48 : decode cX9_box 48 = .ok (.invokevirtual 98, 3) := by decide +kernel
theorem dX9_box_51 : decode cX9_box 51 = .ok (.ireturn, 1) := by decide +kernel
theorem dX9_box_52 : decode cX9_box 52 = .ok (.aload_n 0, 1) := by decide +kernel
theorem dX9_box_53 : decode cX9_box 53 = .ok (.getfield 16, 3) := by decide +kernel
theorem dX9_box_56 : decode cX9_box 56 = .ok (.aload_n 0, 1) := by decide +kernel
theorem dX9_box_57 : decode cX9_box 57 = .ok (.getfield 102, 3) := by decide +kernel
theorem dX9_box_60 : decode cX9_box 60 = .ok (.iload_n 1, 1) := by decide +kernel
theorem dX9_box_61 : decode cX9_box 61 = .ok (.iastore, 1) := by decide +kernel
theorem dX9_box_62 : decode cX9_box 62 = .ok (.aload_n 0, 1) := by decide +kernel
theorem dX9_box_63 : decode cX9_box 63 = .ok (.getfield 20, 3) := by decide +kernel
theorem dX9_box_66 : decode cX9_box 66 = .ok (.aload_n 0, 1) := by decide +kernel
theorem dX9_box_67 : decode cX9_box 67 = .ok (.getfield 102, 3) := by decide +kernel
theorem dX9_box_70 : decode cX9_box 70 = .ok (.iload_n 2, 1) := by decide +kernel
theorem dX9_box_71 : decode cX9_box 71 = .ok (.iastore, 1) := by decide +kernel
theorem dX9_box_72 : decode cX9_box 72 = .ok (.aload_n 0, 1) := by decide +kernel
theorem dX9_box_73 : decode cX9_box 73 = .ok (.dup, 1) := by decide +kernel
theorem dX9_box_74 : decode cX9_box 74 = .ok (.getfield 102, 3) := by decide +kernel
theorem dX9_box_77 : decode cX9_box 77 = .ok (.iconst 1, 1) := by decide +kernel
theorem dX9_box_78 : decode cX9_box 78 = .ok (.iadd, 1) := by decide +kernel
theorem dX9_box_79 : decode cX9_box 79 = .ok (.putfield 102, 3) := by decide +kernel
theorem dX9_box_82 : decode cX9_box 82 = .ok (.aload_n 0, 1) := by decide +kernel
theorem dX9_box_83 : decode cX9_box 83 = .ok (.getfield 102, 3) := by decide +kernel
theorem dX9_box_86 : decode cX9_box 86 = .ok (.iconst 1, 1) := by decide +kernel
theorem dX9_box_87 : decode cX9_box 87 = .ok (.isub, 1) := by decide +kernel
theorem dX9_box_88 : decode cX9_box 88 = .ok (.ireturn, 1) := by decide +kernel
set_option maxRecDepth 20000 in
theorem ggX9_pop_X9_refuse : GoodIn wsX9_pop wsX9_refuse := goodIn_r _ [7, 8, 9, 10, 11, 12, 13, 14, 15, 16, 17, 18, 19, 20, 21, 22, 23, 24, 25, 26, 27, 28, 29, 30, 31, 32, 33, 34, 35, 36, 37, 38, 39, 40, 41, 42, 43, 44, 45, 46, 47, 48, 49, 50, 51, 52, 53, 54, 55, 56, 57, 58, 59] (by decide +kernel) (by decide +kernel)
set_option maxRecDepth 20000 in
theorem gX9_pop_X9_refuse : GoodIn wsX9_pop (wsV RX9 98 RX9 yX9_refuse wsX9_refuse) := goodIn_app (goodIn_of _ (by decide +kernel)) ggX9_pop_X9_refuse
theorem dX9_pop_0 : decode cX9_pop 0 = .ok (.aload_n 0, 1) := by decide +kernel
theorem dX9_pop_1 : decode cX9_pop 1 = .ok (.getfield 102, 3) := by decide +kernel
theorem dX9_pop_4 : decode cX9_pop 4 = .ok (.ifCond .ne 10, 3) := by decide +kernel
theorem dX9_pop_7 : decode cX9_pop 7 = .ok (.aload_n 0, 1) := by decide +kernel
theorem dX9_pop_8 : decode cX9_pop 8 = .ok (.bipush (-3), 2) := by decide +kernel
theorem dX9_pop_10 : decode cX9_pop 10 = .ok (.invokevirtual 98, 3) := by decide +kernel
theorem dX9_pop_13 : decode cX9_pop 13 = .ok (.ireturn, 1) := by decide +kernel
theorem dX9_pop_14 : decode cX9_pop 14 = .ok (.aload_n 0, 1) := by decide +kernel
theorem dX9_pop_15 : decode cX9_pop 15 = .ok (.dup, 1) := by decide +kernel
theorem dX9_pop_16 : decode cX9_pop 16 = .ok (.getfield 102, 3) := by decide +kernel
theorem dX9_pop_19 : decode cX9_pop 19 = .ok (.iconst 1, 1) := by decide +kernel
theorem dX9_pop_20 : decode cX9_pop 20 = .ok (.isub, 1) := by decide +kernel
theorem dX9_pop_21 : decode cX9_pop 21 = .ok (.putfield 102, 3) := by decide +kernel
theorem dX9_pop_24 : decode cX9_pop 24 = .ok (.aload_n 0, 1) := by decide +kernel
theorem dX9_pop_25 : decode cX9_pop 25 = .ok (.getfield 16, 3) := by decide +kernel
theorem dX9_pop_28 : decode cX9_pop 28 = .ok (.aload_n 0, 1) := by decide +kernel
theorem dX9_pop_29 : decode cX9_pop 29 = .ok (.getfield 102, 3) := by decide +kernel
theorem dX9_pop_32 : decode cX9_pop 32 = .ok (.iaload, 1) := by decide +kernel
theorem dX9_pop_33 : decode cX9_pop 33 = .ok (.ireturn, 1) := by decide +kernel
set_option maxRecDepth 20000 in
theorem ggX9_told_X9_in : GoodIn wsX9_told wsX9_in := goodIn_r _ [7] (by decide +kernel) (by decide +kernel)
set_option maxRecDepth 20000 in
theorem gX9_told_X9_in : GoodIn wsX9_told (va_wsS RX9 92 yX9_in wsX9_in) := goodIn_app (goodIn_of _ (by decide +kernel)) ggX9_told_X9_in
set_option maxRecDepth 20000 in
theorem ggX9_told_X9_refuse : GoodIn wsX9_told wsX9_refuse := goodIn_r _ [11, 12, 13, 14, 15, 16, 17, 18, 19, 20, 21, 22, 23, 24, 25, 26, 27, 28, 29, 30, 31, 32, 33, 34, 35, 36, 37, 38, 39, 40, 41, 42, 43, 44, 45, 46, 47, 48, 49, 50, 51, 52, 53, 54, 55, 56, 57, 58, 59, 60, 61, 62, 63] (by decide +kernel) (by decide +kernel)
set_option maxRecDepth 20000 in
theorem gX9_told_X9_refuse : GoodIn wsX9_told (wsV RX9 98 RX9 yX9_refuse wsX9_refuse) := goodIn_app (goodIn_of _ (by decide +kernel)) ggX9_told_X9_refuse
theorem dX9_told_0 : decode cX9_told 0 = .ok (.iload_n 1, 1) := by decide +kernel
theorem dX9_told_1 : decode cX9_told 1 = .ok (.i2l, 1) := by decide +kernel
theorem dX9_told_2 : decode cX9_told 2 = .ok (.lconst 0, 1) := by decide +kernel
theorem dX9_told_3 : decode cX9_told 3 = .ok (.aload_n 0, 1) := by decide +kernel
theorem dX9_told_4 : decode cX9_told 4 = .ok (.getfield 102, 3) := by decide +kernel
theorem dX9_told_7 : decode cX9_told 7 = .ok (.iconst 1, 1) := by decide +kernel
theorem dX9_told_8 : decode cX9_told 8 = .ok (.isub, 1) := by decide +kernel
theorem dX9_told_9 : decode cX9_told 9 = .ok (.i2l, 1) := by decide +kernel
theorem dX9_told_10 : decode cX9_told 10 = .ok (.invokestatic 92, 3) := by decide +kernel
theorem dX9_told_13 : decode cX9_told 13 = .ok (.ifCond .eq 13, 3) := by decide +kernel
theorem dX9_told_16 : decode cX9_told 16 = .ok (.iload_n 2, 1) := by decide +kernel
theorem dX9_told_17 : decode cX9_told 17 = .ok (.i2l, 1) := by decide +kernel
theorem dX9_told_18 : decode cX9_told 18 = .ok (.lconst 0, 1) := by decide +kernel
theorem dX9_told_19 : decode cX9_told 19 = .ok (.lconst 1, 1) := by decide +kernel
theorem dX9_told_20 : decode cX9_told 20 = .ok (.invokestatic 92, 3) := by decide +kernel
theorem dX9_told_23 : decode cX9_told 23 = .ok (.ifCond .ne 10, 3) := by decide +kernel
theorem dX9_told_26 : decode cX9_told 26 = .ok (.aload_n 0, 1) := by decide +kernel
theorem dX9_told_27 : decode cX9_told 27 = .ok (.bipush (-2), 2) := by decide +kernel
theorem dX9_told_29 : decode cX9_told 29 = .ok (.invokevirtual 98, 3) := by decide +kernel
theorem dX9_told_32 : decode cX9_told 32 = .ok (.ireturn, 1) := by decide +kernel
theorem dX9_told_33 : decode cX9_told 33 = .ok (.iload_n 2, 1) := by decide +kernel
theorem dX9_told_34 : decode cX9_told 34 = .ok (.ifCond .ne 12, 3) := by decide +kernel
theorem dX9_told_37 : decode cX9_told 37 = .ok (.aload_n 0, 1) := by decide +kernel
theorem dX9_told_38 : decode cX9_told 38 = .ok (.getfield 16, 3) := by decide +kernel
theorem dX9_told_41 : decode cX9_told 41 = .ok (.iload_n 1, 1) := by decide +kernel
theorem dX9_told_42 : decode cX9_told 42 = .ok (.iaload, 1) := by decide +kernel
theorem dX9_told_43 : decode cX9_told 43 = .ok (.goto 9, 3) := by decide +kernel
theorem dX9_told_46 : decode cX9_told 46 = .ok (.aload_n 0, 1) := by decide +kernel
theorem dX9_told_47 : decode cX9_told 47 = .ok (.getfield 20, 3) := by decide +kernel
theorem dX9_told_50 : decode cX9_told 50 = .ok (.iload_n 1, 1) := by decide +kernel
theorem dX9_told_51 : decode cX9_told 51 = .ok (.iaload, 1) := by decide +kernel
theorem dX9_told_52 : decode cX9_told 52 = .ok (.ireturn, 1) := by decide +kernel
set_option maxRecDepth 20000 in
theorem ggX9_type_X9_in : GoodIn wsX9_type wsX9_in := goodIn_r _ [8] (by decide +kernel) (by decide +kernel)
set_option maxRecDepth 20000 in
theorem gX9_type_X9_in : GoodIn wsX9_type (va_wsS RX9 92 yX9_in wsX9_in) := goodIn_app (goodIn_of _ (by decide +kernel)) ggX9_type_X9_in
set_option maxRecDepth 20000 in
theorem ggX9_type_X9_refuse : GoodIn wsX9_type wsX9_refuse := goodIn_r _ [12, 13, 14, 15, 16, 17, 18, 19, 20, 21, 22, 23, 24, 25, 26, 27, 28, 29, 30, 31, 32, 33, 34, 35, 36, 37, 38, 39, 40, 41, 42, 43, 44, 45, 46, 47, 48, 49, 50, 51, 52, 53, 54, 55, 56, 57, 58, 59, 60, 61, 62, 63, 64] (by decide +kernel) (by decide +kernel)
set_option maxRecDepth 20000 in
theorem gX9_type_X9_refuse : GoodIn wsX9_type (wsV RX9 98 RX9 yX9_refuse wsX9_refuse) := goodIn_app (goodIn_of _ (by decide +kernel)) ggX9_type_X9_refuse
theorem dX9_type_0 : decode cX9_type 0 = .ok (.iload_n 3, 1) := by decide +kernel
theorem dX9_type_1 : decode cX9_type 1 = .ok (.i2l, 1) := by decide +kernel
theorem dX9_type_2 : decode cX9_type 2 = .ok (.lconst 1, 1) := by decide +kernel
theorem dX9_type_3 : decode cX9_type 3 = .ok (.ldc2_w 96, 3) := by decide +kernel
theorem dX9_type_6 : decode cX9_type 6 = .ok (.invokestatic 92, 3) := by decide +kernel
theorem dX9_type_9 : decode cX9_type 9 = .ok (.ifCond .ne 10, 3) := by decide +kernel
theorem dX9_type_12 : decode cX9_type 12 = .ok (.aload_n 0, 1) := by decide +kernel
theorem dX9_type_13 : decode cX9_type 13 = .ok (.bipush (-2), 2) := by decide +kernel
theorem dX9_type_15 : decode cX9_type 15 = .ok (.invokevirtual 98, 3) := by decide +kernel
theorem dX9_type_18 : decode cX9_type 18 = .ok (.ireturn, 1) := by decide +kernel
theorem dX9_type_19 : decode cX9_type 19 = .ok (.aload_n 0, 1) := by decide +kernel
theorem dX9_type_20 : decode cX9_type 20 = .ok (.getfield 117, 3) := by decide +kernel
theorem dX9_type_23 : decode cX9_type 23 = .ok (.iload_n 3, 1) := by decide +kernel
theorem dX9_type_24 : decode cX9_type 24 = .ok (.iadd, 1) := by decide +kernel
theorem dX9_type_25 : decode cX9_type 25 = .ok (.sipush 200, 3) := by decide +kernel
theorem dX9_type_28 : decode cX9_type 28 = .ok (.if_icmp .le 10, 3) := by decide +kernel
theorem dX9_type_31 : decode cX9_type 31 = .ok (.aload_n 0, 1) := by decide +kernel
theorem dX9_type_32 : decode cX9_type 32 = .ok (.bipush (-4), 2) := by decide +kernel
theorem dX9_type_34 : decode cX9_type 34 = .ok (.invokevirtual 98, 3) := by decide +kernel
theorem dX9_type_37 : decode cX9_type 37 = .ok (.ireturn, 1) := by decide +kernel
theorem dX9_type_38 : decode cX9_type 38 = .ok (.iload_n 3, 1) := by decide +kernel
theorem dX9_type_39 : decode cX9_type 39 = .ok (.iconst 1, 1) := by decide +kernel
theorem dX9_type_40 : decode cX9_type 40 = .ok (.isub, 1) := by decide +kernel
theorem dX9_type_41 : decode cX9_type 41 = .ok (.istore 4, 2) := by decide +kernel
theorem dX9_type_43 : decode cX9_type 43 = .ok (.iload 4, 2) := by decide +kernel
theorem dX9_type_45 : decode cX9_type 45 = .ok (.ifCond .lt 40, 3) := by decide +kernel
theorem dX9_type_48 : decode cX9_type 48 = .ok (.aload_n 0, 1) := by decide +kernel
theorem dX9_type_49 : decode cX9_type 49 = .ok (.getfield 26, 3) := by decide +kernel
theorem dX9_type_52 : decode cX9_type 52 = .ok (.aload_n 0, 1) := by decide +kernel
theorem dX9_type_53 : decode cX9_type 53 = .ok (.getfield 117, 3) := by decide +kernel
theorem dX9_type_56 : decode cX9_type 56 = .ok (.lload_n 1, 1) := by decide +kernel
theorem dX9_type_57 : decode cX9_type 57 = .ok (.bipush 8, 2) := by decide +kernel
theorem dX9_type_59 : decode cX9_type 59 = .ok (.iload 4, 2) := by decide +kernel
theorem dX9_type_61 : decode cX9_type 61 = .ok (.imul, 1) := by decide +kernel
theorem dX9_type_62 : decode cX9_type 62 = .ok (.lshr, 1) := by decide +kernel
theorem dX9_type_63 : decode cX9_type 63 = .ok (.ldc2_w 120, 3) := by decide +kernel
theorem dX9_type_66 : decode cX9_type 66 = .ok (.land, 1) := by decide +kernel
theorem dX9_type_67 : decode cX9_type 67 = .ok (.l2i, 1) := by decide +kernel
theorem dX9_type_68 : decode cX9_type 68 = .ok (.iastore, 1) := by decide +kernel
theorem dX9_type_69 : decode cX9_type 69 = .ok (.aload_n 0, 1) := by decide +kernel
theorem dX9_type_70 : decode cX9_type 70 = .ok (.dup, 1) := by decide +kernel
theorem dX9_type_71 : decode cX9_type 71 = .ok (.getfield 117, 3) := by decide +kernel
theorem dX9_type_74 : decode cX9_type 74 = .ok (.iconst 1, 1) := by decide +kernel
theorem dX9_type_75 : decode cX9_type 75 = .ok (.iadd, 1) := by decide +kernel
theorem dX9_type_76 : decode cX9_type 76 = .ok (.putfield 117, 3) := by decide +kernel
theorem dX9_type_79 : decode cX9_type 79 = .ok (.iinc 4 (-1), 3) := by decide +kernel
theorem dX9_type_82 : decode cX9_type 82 = .ok (.goto (-39), 3) := by decide +kernel
theorem dX9_type_85 : decode cX9_type 85 = .ok (.aload_n 0, 1) := by decide +kernel
theorem dX9_type_86 : decode cX9_type 86 = .ok (.getfield 117, 3) := by decide +kernel
theorem dX9_type_89 : decode cX9_type 89 = .ok (.ireturn, 1) := by decide +kernel
theorem dX9_clear_0 : decode cX9_clear 0 = .ok (.aload_n 0, 1) := by decide +kernel
theorem dX9_clear_1 : decode cX9_clear 1 = .ok (.getfield 117, 3) := by decide +kernel
theorem dX9_clear_4 : decode cX9_clear 4 = .ok (.istore_n 1, 1) := by decide +kernel
theorem dX9_clear_5 : decode cX9_clear 5 = .ok (.aload_n 0, 1) := by decide +kernel
theorem dX9_clear_6 : decode cX9_clear 6 = .ok (.iconst 0, 1) := by decide +kernel
theorem dX9_clear_7 : decode cX9_clear 7 = .ok (.putfield 117, 3) := by decide +kernel
theorem dX9_clear_10 : decode cX9_clear 10 = .ok (.iload_n 1, 1) := by decide +kernel
theorem dX9_clear_11 : decode cX9_clear 11 = .ok (.ireturn, 1) := by decide +kernel
theorem dX9_isLetter_0 : decode cX9_isLetter 0 = .ok (.iload_n 0, 1) := by decide +kernel
theorem dX9_isLetter_1 : decode cX9_isLetter 1 = .ok (.bipush 97, 2) := by decide +kernel
theorem dX9_isLetter_3 : decode cX9_isLetter 3 = .ok (.if_icmp .lt 13, 3) := by decide +kernel
theorem dX9_isLetter_6 : decode cX9_isLetter 6 = .ok (.iload_n 0, 1) := by decide +kernel
theorem dX9_isLetter_7 : decode cX9_isLetter 7 = .ok (.bipush 122, 2) := by decide +kernel
theorem dX9_isLetter_9 : decode cX9_isLetter 9 = .ok (.if_icmp .gt 7, 3) := by decide +kernel
theorem dX9_isLetter_12 : decode cX9_isLetter 12 = .ok (.iconst 1, 1) := by decide +kernel
theorem dX9_isLetter_13 : decode cX9_isLetter 13 = .ok (.goto 4, 3) := by decide +kernel
theorem dX9_isLetter_16 : decode cX9_isLetter 16 = .ok (.iconst 0, 1) := by decide +kernel
theorem dX9_isLetter_17 : decode cX9_isLetter 17 = .ok (.ireturn, 1) := by decide +kernel
theorem dX9_isFigure_0 : decode cX9_isFigure 0 = .ok (.iload_n 0, 1) := by decide +kernel
theorem dX9_isFigure_1 : decode cX9_isFigure 1 = .ok (.bipush 48, 2) := by decide +kernel
theorem dX9_isFigure_3 : decode cX9_isFigure 3 = .ok (.if_icmp .lt 13, 3) := by decide +kernel
theorem dX9_isFigure_6 : decode cX9_isFigure 6 = .ok (.iload_n 0, 1) := by decide +kernel
theorem dX9_isFigure_7 : decode cX9_isFigure 7 = .ok (.bipush 57, 2) := by decide +kernel
theorem dX9_isFigure_9 : decode cX9_isFigure 9 = .ok (.if_icmp .gt 7, 3) := by decide +kernel
theorem dX9_isFigure_12 : decode cX9_isFigure 12 = .ok (.iconst 1, 1) := by decide +kernel
theorem dX9_isFigure_13 : decode cX9_isFigure 13 = .ok (.goto 4, 3) := by decide +kernel
theorem dX9_isFigure_16 : decode cX9_isFigure 16 = .ok (.iconst 0, 1) := by decide +kernel
theorem dX9_isFigure_17 : decode cX9_isFigure 17 = .ok (.ireturn, 1) := by decide +kernel
set_option maxRecDepth 20000 in
theorem ggX9_next_X9_isLetter : GoodIn wsX9_next wsX9_isLetter := goodIn_r _ [16] (by decide +kernel) (by decide +kernel)
set_option maxRecDepth 20000 in
theorem gX9_next_X9_isLetter : GoodIn wsX9_next (va_wsS RX9 131 yX9_isLetter wsX9_isLetter) := goodIn_app (goodIn_of _ (by decide +kernel)) ggX9_next_X9_isLetter
set_option maxRecDepth 20000 in
theorem ggX9_next_X9_isFigure : GoodIn wsX9_next wsX9_isFigure := goodIn_r _ [19] (by decide +kernel) (by decide +kernel)
set_option maxRecDepth 20000 in
theorem gX9_next_X9_isFigure : GoodIn wsX9_next (va_wsS RX9 134 yX9_isFigure wsX9_isFigure) := goodIn_app (goodIn_of _ (by decide +kernel)) ggX9_next_X9_isFigure
theorem dX9_next_0 : decode cX9_next 0 = .ok (.aload_n 0, 1) := by decide +kernel
theorem dX9_next_1 : decode cX9_next 1 = .ok (.getfield 122, 3) := by decide +kernel
theorem dX9_next_4 : decode cX9_next 4 = .ok (.aload_n 0, 1) := by decide +kernel
theorem dX9_next_5 : decode cX9_next 5 = .ok (.getfield 117, 3) := by decide +kernel
theorem dX9_next_8 : decode cX9_next 8 = .ok (.if_icmp .ge 30, 3) := by decide +kernel
theorem dX9_next_11 : decode cX9_next 11 = .ok (.aload_n 0, 1) := by decide +kernel
theorem dX9_next_12 : decode cX9_next 12 = .ok (.getfield 26, 3) := by decide +kernel
theorem dX9_next_15 : decode cX9_next 15 = .ok (.aload_n 0, 1) := by decide +kernel
theorem dX9_next_16 : decode cX9_next 16 = .ok (.getfield 122, 3) := by decide +kernel
theorem dX9_next_19 : decode cX9_next 19 = .ok (.iaload, 1) := by decide +kernel
theorem dX9_next_20 : decode cX9_next 20 = .ok (.bipush 32, 2) := by decide +kernel
theorem dX9_next_22 : decode cX9_next 22 = .ok (.if_icmp .ne 16, 3) := by decide +kernel
theorem dX9_next_25 : decode cX9_next 25 = .ok (.aload_n 0, 1) := by decide +kernel
theorem dX9_next_26 : decode cX9_next 26 = .ok (.dup, 1) := by decide +kernel
theorem dX9_next_27 : decode cX9_next 27 = .ok (.getfield 122, 3) := by decide +kernel
theorem dX9_next_30 : decode cX9_next 30 = .ok (.iconst 1, 1) := by decide +kernel
theorem dX9_next_31 : decode cX9_next 31 = .ok (.iadd, 1) := by decide +kernel
theorem dX9_next_32 : decode cX9_next 32 = .ok (.putfield 122, 3) := by decide +kernel
theorem dX9_next_35 : decode cX9_next 35 = .ok (.goto (-35), 3) := by decide +kernel
theorem dX9_next_38 : decode cX9_next 38 = .ok (.aload_n 0, 1) := by decide +kernel
theorem dX9_next_39 : decode cX9_next 39 = .ok (.aload_n 0, 1) := by decide +kernel
theorem dX9_next_40 : decode cX9_next 40 = .ok (.getfield 122, 3) := by decide +kernel
theorem dX9_next_43 : decode cX9_next 43 = .ok (.putfield 125, 3) := by decide +kernel
theorem dX9_next_46 : decode cX9_next 46 = .ok (.aload_n 0, 1) := by decide +kernel
theorem dX9_next_47 : decode cX9_next 47 = .ok (.lconst 0, 1) := by decide +kernel
theorem dX9_next_48 : decode cX9_next 48 = .ok (.putfield 128, 3) := by decide +kernel
theorem dX9_next_51 : decode cX9_next 51 = .ok (.aload_n 0, 1) := by decide +kernel
theorem dX9_next_52 : decode cX9_next 52 = .ok (.getfield 122, 3) := by decide +kernel
theorem dX9_next_55 : decode cX9_next 55 = .ok (.aload_n 0, 1) := by decide +kernel
theorem dX9_next_56 : decode cX9_next 56 = .ok (.getfield 117, 3) := by decide +kernel
theorem dX9_next_59 : decode cX9_next 59 = .ok (.if_icmp .ge 15, 3) := by decide +kernel
theorem dX9_next_62 : decode cX9_next 62 = .ok (.aload_n 0, 1) := by decide +kernel
theorem dX9_next_63 : decode cX9_next 63 = .ok (.getfield 26, 3) := by decide +kernel
theorem dX9_next_66 : decode cX9_next 66 = .ok (.aload_n 0, 1) := by decide +kernel
theorem dX9_next_67 : decode cX9_next 67 = .ok (.getfield 122, 3) := by decide +kernel
theorem dX9_next_70 : decode cX9_next 70 = .ok (.iaload, 1) := by decide +kernel
theorem dX9_next_71 : decode cX9_next 71 = .ok (.goto 4, 3) := by decide +kernel
theorem dX9_next_74 : decode cX9_next 74 = .ok (.iconst (-1), 1) := by decide +kernel
theorem dX9_next_75 : decode cX9_next 75 = .ok (.istore_n 1, 1) := by decide +kernel
theorem dX9_next_76 : decode cX9_next 76 = .ok (.aload_n 0, 1) := by decide +kernel
theorem dX9_next_77 : decode cX9_next 77 = .ok (.iload_n 1, 1) := by decide +kernel
theorem dX9_next_78 : decode cX9_next 78 = .ok (.iconst (-1), 1) := by decide +kernel
theorem dX9_next_79 : decode cX9_next 79 = .ok (.if_icmp .ne 7, 3) := by decide +kernel
theorem dX9_next_82 : decode cX9_next 82 = .ok (.iconst 0, 1) := by decide +kernel
theorem dX9_next_83 : decode cX9_next 83 = .ok (.goto 46, 3) := by decide +kernel
theorem dX9_next_86 : decode cX9_next 86 = .ok (.iload_n 1, 1) := by decide +kernel
theorem dX9_next_87 : decode cX9_next 87 = .ok (.invokestatic 131, 3) := by decide +kernel
theorem dX9_next_90 : decode cX9_next 90 = .ok (.ifCond .eq 7, 3) := by decide +kernel
theorem dX9_next_93 : decode cX9_next 93 = .ok (.iconst 1, 1) := by decide +kernel
theorem dX9_next_94 : decode cX9_next 94 = .ok (.goto 35, 3) := by decide +kernel
theorem dX9_next_97 : decode cX9_next 97 = .ok (.iload_n 1, 1) := by decide +kernel
theorem dX9_next_98 : decode cX9_next 98 = .ok (.invokestatic 134, 3) := by decide +kernel
theorem dX9_next_101 : decode cX9_next 101 = .ok (.ifCond .eq 7, 3) := by decide +kernel
theorem dX9_next_104 : decode cX9_next 104 = .ok (.iconst 2, 1) := by decide +kernel
theorem dX9_next_105 : decode cX9_next 105 = .ok (.goto 24, 3) := by decide +kernel
theorem dX9_next_108 : decode cX9_next 108 = .ok (.iload_n 1, 1) := by decide +kernel
theorem dX9_next_109 : decode cX9_next 109 = .ok (.bipush 45, 2) := by decide +kernel
theorem dX9_next_111 : decode cX9_next 111 = .ok (.if_icmp .ne 7, 3) := by decide +kernel
theorem dX9_next_114 : decode cX9_next 114 = .ok (.iconst 3, 1) := by decide +kernel
theorem dX9_next_115 : decode cX9_next 115 = .ok (.goto 14, 3) := by decide +kernel
theorem dX9_next_118 : decode cX9_next 118 = .ok (.iload_n 1, 1) := by decide +kernel
theorem dX9_next_119 : decode cX9_next 119 = .ok (.bipush 59, 2) := by decide +kernel
theorem dX9_next_121 : decode cX9_next 121 = .ok (.if_icmp .ne 7, 3) := by decide +kernel
theorem dX9_next_124 : decode cX9_next 124 = .ok (.iconst 4, 1) := by decide +kernel
theorem dX9_next_125 : decode cX9_next 125 = .ok (.goto 4, 3) := by decide +kernel
theorem dX9_next_128 : decode cX9_next 128 = .ok (.iconst 5, 1) := by decide +kernel
theorem dX9_next_129 : decode cX9_next 129 = .ok (.putfield 137, 3) := by decide +kernel
theorem dX9_next_132 : decode cX9_next 132 = .ok (.aload_n 0, 1) := by decide +kernel
theorem dX9_next_133 : decode cX9_next 133 = .ok (.dup, 1) := by decide +kernel
theorem dX9_next_134 : decode cX9_next 134 = .ok (.getfield 122, 3) := by decide +kernel
theorem dX9_next_137 : decode cX9_next 137 = .ok (.aload_n 0, 1) := by decide +kernel
theorem dX9_next_138 : decode cX9_next 138 = .ok (.getfield 137, 3) := by decide +kernel
theorem dX9_next_141 : decode cX9_next 141 = .ok (.iconst 3, 1) := by decide +kernel
theorem dX9_next_142 : decode cX9_next 142 = .ok (.if_icmp .eq 11, 3) := by decide +kernel
theorem dX9_next_145 : decode cX9_next 145 = .ok (.aload_n 0, 1) := by decide +kernel
theorem dX9_next_146 : decode cX9_next 146 = .ok (.getfield 137, 3) := by decide +kernel
theorem dX9_next_149 : decode cX9_next 149 = .ok (.iconst 4, 1) := by decide +kernel
theorem dX9_next_150 : decode cX9_next 150 = .ok (.if_icmp .ne 7, 3) := by decide +kernel
theorem dX9_next_153 : decode cX9_next 153 = .ok (.iconst 1, 1) := by decide +kernel
theorem dX9_next_154 : decode cX9_next 154 = .ok (.goto 4, 3) := by decide +kernel
theorem dX9_next_157 : decode cX9_next 157 = .ok (.iconst 0, 1) := by decide +kernel
theorem dX9_next_158 : decode cX9_next 158 = .ok (.iadd, 1) := by decide +kernel
theorem dX9_next_159 : decode cX9_next 159 = .ok (.putfield 122, 3) := by decide +kernel
theorem dX9_next_162 : decode cX9_next 162 = .ok (.aload_n 0, 1) := by decide +kernel
theorem dX9_next_163 : decode cX9_next 163 = .ok (.getfield 137, 3) := by decide +kernel
theorem dX9_next_166 : decode cX9_next 166 = .ok (.iconst 1, 1) := by decide +kernel
theorem dX9_next_167 : decode cX9_next 167 = .ok (.if_icmp .ne 89, 3) := by decide +kernel
theorem dX9_next_170 : decode cX9_next 170 = .ok (.aload_n 0, 1) := by decide +kernel
theorem dX9_next_171 : decode cX9_next 171 = .ok (.getfield 122, 3) := by decide +kernel
theorem dX9_next_174 : decode cX9_next 174 = .ok (.aload_n 0, 1) := by decide +kernel
theorem dX9_next_175 : decode cX9_next 175 = .ok (.getfield 117, 3) := by decide +kernel
theorem dX9_next_178 : decode cX9_next 178 = .ok (.if_icmp .ge 78, 3) := by decide +kernel
theorem dX9_next_181 : decode cX9_next 181 = .ok (.aload_n 0, 1) := by decide +kernel
theorem dX9_next_182 : decode cX9_next 182 = .ok (.getfield 26, 3) := by decide +kernel
theorem dX9_next_185 : decode cX9_next 185 = .ok (.aload_n 0, 1) := by decide +kernel
theorem dX9_next_186 : decode cX9_next 186 = .ok (.getfield 122, 3) := by decide +kernel
theorem dX9_next_189 : decode cX9_next 189 = .ok (.iaload, 1) := by decide +kernel
theorem dX9_next_190 : decode cX9_next 190 = .ok (.invokestatic 131, 3) := by decide +kernel
theorem dX9_next_193 : decode cX9_next 193 = .ok (.ifCond .eq 63, 3) := by decide +kernel
theorem dX9_next_196 : decode cX9_next 196 = .ok (.aload_n 0, 1) := by decide +kernel
theorem dX9_next_197 : decode cX9_next 197 = .ok (.aload_n 0, 1) := by decide +kernel
theorem dX9_next_198 : decode cX9_next 198 = .ok (.getfield 122, 3) := by decide +kernel
theorem dX9_next_201 : decode cX9_next 201 = .ok (.aload_n 0, 1) := by decide +kernel
theorem dX9_next_202 : decode cX9_next 202 = .ok (.getfield 125, 3) := by decide +kernel
theorem dX9_next_205 : decode cX9_next 205 = .ok (.isub, 1) := by decide +kernel
theorem dX9_next_206 : decode cX9_next 206 = .ok (.bipush 8, 2) := by decide +kernel
theorem dX9_next_208 : decode cX9_next 208 = .ok (.if_icmp .ge 29, 3) := by decide +kernel
theorem dX9_next_211 : decode cX9_next 211 = .ok (.ldc2_w 140, 3) := by decide +kernel
theorem dX9_next_214 : decode cX9_next 214 = .ok (.aload_n 0, 1) := by decide +kernel
theorem dX9_next_215 : decode cX9_next 215 = .ok (.getfield 128, 3) := by decide +kernel
theorem dX9_next_218 : decode cX9_next 218 = .ok (.lmul, 1) := by decide +kernel
theorem dX9_next_219 : decode cX9_next 219 = .ok (.aload_n 0, 1) := by decide +kernel
theorem dX9_next_220 : decode cX9_next 220 = .ok (.getfield 26, 3) := by decide +kernel
theorem dX9_next_223 : decode cX9_next 223 = .ok (.aload_n 0, 1) := by decide +kernel
theorem dX9_next_224 : decode cX9_next 224 = .ok (.getfield 122, 3) := by decide +kernel
theorem dX9_next_227 : decode cX9_next 227 = .ok (.iaload, 1) := by decide +kernel
theorem dX9_next_228 : decode cX9_next 228 = .ok (.i2l, 1) := by decide +kernel
theorem dX9_next_229 : decode cX9_next 229 = .ok (.ladd, 1) := by decide +kernel
theorem dX9_next_230 : decode cX9_next 230 = .ok (.ldc2_w 142, 3) := by decide +kernel
theorem dX9_next_233 : decode cX9_next 233 = .ok (.lsub, 1) := by decide +kernel
theorem dX9_next_234 : decode cX9_next 234 = .ok (.goto 6, 3) := by decide +kernel
theorem dX9_next_237 : decode cX9_next 237 = .ok (.ldc2_w 144, 3) := by decide +kernel
theorem dX9_next_240 : decode cX9_next 240 = .ok (.putfield 128, 3) := by decide +kernel
theorem dX9_next_243 : decode cX9_next 243 = .ok (.aload_n 0, 1) := by decide +kernel
theorem dX9_next_244 : decode cX9_next 244 = .ok (.dup, 1) := by decide +kernel
theorem dX9_next_245 : decode cX9_next 245 = .ok (.getfield 122, 3) := by decide +kernel
theorem dX9_next_248 : decode cX9_next 248 = .ok (.iconst 1, 1) := by decide +kernel
theorem dX9_next_249 : decode cX9_next 249 = .ok (.iadd, 1) := by decide +kernel
theorem dX9_next_250 : decode cX9_next 250 = .ok (.putfield 122, 3) := by decide +kernel
theorem dX9_next_253 : decode cX9_next 253 = .ok (.goto (-91), 3) := by decide +kernel
theorem dX9_next_256 : decode cX9_next 256 = .ok (.aload_n 0, 1) := by decide +kernel
theorem dX9_next_257 : decode cX9_next 257 = .ok (.getfield 137, 3) := by decide +kernel
theorem dX9_next_260 : decode cX9_next 260 = .ok (.iconst 2, 1) := by decide +kernel
theorem dX9_next_261 : decode cX9_next 261 = .ok (.if_icmp .ne 88, 3) := by decide +kernel
theorem dX9_next_264 : decode cX9_next 264 = .ok (.aload_n 0, 1) := by decide +kernel
theorem dX9_next_265 : decode cX9_next 265 = .ok (.getfield 122, 3) := by decide +kernel
theorem dX9_next_268 : decode cX9_next 268 = .ok (.aload_n 0, 1) := by decide +kernel
theorem dX9_next_269 : decode cX9_next 269 = .ok (.getfield 117, 3) := by decide +kernel
theorem dX9_next_272 : decode cX9_next 272 = .ok (.if_icmp .ge 77, 3) := by decide +kernel
theorem dX9_next_275 : decode cX9_next 275 = .ok (.aload_n 0, 1) := by decide +kernel
theorem dX9_next_276 : decode cX9_next 276 = .ok (.getfield 26, 3) := by decide +kernel
theorem dX9_next_279 : decode cX9_next 279 = .ok (.aload_n 0, 1) := by decide +kernel
theorem dX9_next_280 : decode cX9_next 280 = .ok (.getfield 122, 3) := by decide +kernel
theorem dX9_next_283 : decode cX9_next 283 = .ok (.iaload, 1) := by decide +kernel
theorem dX9_next_284 : decode cX9_next 284 = .ok (.invokestatic 134, 3) := by decide +kernel
theorem dX9_next_287 : decode cX9_next 287 = .ok (.ifCond .eq 62, 3) := by decide +kernel
theorem dX9_next_290 : decode cX9_next 290 = .ok (.aload_n 0, 1) := by decide +kernel
theorem dX9_next_291 : decode cX9_next 291 = .ok (.aload_n 0, 1) := by decide +kernel
theorem dX9_next_292 : decode cX9_next 292 = .ok (.getfield 122, 3) := by decide +kernel
theorem dX9_next_295 : decode cX9_next 295 = .ok (.aload_n 0, 1) := by decide +kernel
theorem dX9_next_296 : decode cX9_next 296 = .ok (.getfield 125, 3) := by decide +kernel
theorem dX9_next_299 : decode cX9_next 299 = .ok (.isub, 1) := by decide +kernel
theorem dX9_next_300 : decode cX9_next 300 = .ok (.iconst 2, 1) := by decide +kernel
theorem dX9_next_301 : decode cX9_next 301 = .ok (.if_icmp .ge 29, 3) := by decide +kernel
theorem dX9_next_304 : decode cX9_next 304 = .ok (.ldc2_w 146, 3) := by decide +kernel
theorem dX9_next_307 : decode cX9_next 307 = .ok (.aload_n 0, 1) := by decide +kernel
theorem dX9_next_308 : decode cX9_next 308 = .ok (.getfield 128, 3) := by decide +kernel
theorem dX9_next_311 : decode cX9_next 311 = .ok (.lmul, 1) := by decide +kernel
theorem dX9_next_312 : decode cX9_next 312 = .ok (.aload_n 0, 1) := by decide +kernel
theorem dX9_next_313 : decode cX9_next 313 = .ok (.getfield 26, 3) := by decide +kernel
theorem dX9_next_316 : decode cX9_next 316 = .ok (.aload_n 0, 1) := by decide +kernel
theorem dX9_next_317 : decode cX9_next 317 = .ok (.getfield 122, 3) := by decide +kernel
theorem dX9_next_320 : decode cX9_next 320 = .ok (.iaload, 1) := by decide +kernel
theorem dX9_next_321 : decode cX9_next 321 = .ok (.i2l, 1) := by decide +kernel
theorem dX9_next_322 : decode cX9_next 322 = .ok (.ladd, 1) := by decide +kernel
theorem dX9_next_323 : decode cX9_next 323 = .ok (.ldc2_w 148, 3) := by decide +kernel
theorem dX9_next_326 : decode cX9_next 326 = .ok (.lsub, 1) := by decide +kernel
theorem dX9_next_327 : decode cX9_next 327 = .ok (.goto 6, 3) := by decide +kernel
theorem dX9_next_330 : decode cX9_next 330 = .ok (.ldc2_w 150, 3) := by decide +kernel
theorem dX9_next_333 : decode cX9_next 333 = .ok (.putfield 128, 3) := by decide +kernel
theorem dX9_next_336 : decode cX9_next 336 = .ok (.aload_n 0, 1) := by decide +kernel
theorem dX9_next_337 : decode cX9_next 337 = .ok (.dup, 1) := by decide +kernel
theorem dX9_next_338 : decode cX9_next 338 = .ok (.getfield 122, 3) := by decide +kernel
theorem dX9_next_341 : decode cX9_next 341 = .ok (.iconst 1, 1) := by decide +kernel
theorem dX9_next_342 : decode cX9_next 342 = .ok (.iadd, 1) := by decide +kernel
theorem dX9_next_343 : decode cX9_next 343 = .ok (.putfield 122, 3) := by decide +kernel
theorem dX9_next_346 : decode cX9_next 346 = .ok (.goto (-90), 3) := by decide +kernel
theorem dX9_next_349 : decode cX9_next 349 = .ok (.return_, 1) := by decide +kernel
set_option maxRecDepth 20000 in
theorem ggX9_takesNumber_X9_next : GoodIn wsX9_takesNumber wsX9_next := goodIn_r _ [7, 8, 9, 10, 11, 2, 1, 12, 13, 14, 15, 16, 17, 18, 19, 6, 20, 21, 22, 23, 27, 28, 29, 30, 31, 32, 33, 34, 35, 36, 37, 38, 39, 40, 41, 42, 43, 44, 45, 46, 47, 48, 49, 50, 51, 52, 53, 54, 55, 56, 57, 58, 59, 60, 61, 62, 63, 64, 65, 66, 67, 68, 69, 70, 71, 72, 73, 74, 75, 76, 77] (by decide +kernel) (by decide +kernel)
set_option maxRecDepth 20000 in
theorem gX9_takesNumber_X9_next : GoodIn wsX9_takesNumber (wsV RX9 152 RX9 yX9_next wsX9_next) := goodIn_app (goodIn_of _ (by decide +kernel)) ggX9_takesNumber_X9_next
set_option maxRecDepth 20000 in
theorem ggX9_takesNumber_X9_in : GoodIn wsX9_takesNumber wsX9_in := goodIn_r _ [26] (by decide +kernel) (by decide +kernel)
set_option maxRecDepth 20000 in
theorem gX9_takesNumber_X9_in : GoodIn wsX9_takesNumber (va_wsS RX9 92 yX9_in wsX9_in) := goodIn_app (goodIn_of _ (by decide +kernel)) ggX9_takesNumber_X9_in
theorem dX9_takesNumber_0 : decode cX9_takesNumber 0 = .ok (.aload_n 0, 1) := by decide +kernel
theorem dX9_takesNumber_1 : decode cX9_takesNumber 1 = .ok (.invokevirtual 152, 3) := by decide +kernel
theorem dX9_takesNumber_4 : decode cX9_takesNumber 4 = .ok (.aload_n 0, 1) := by decide +kernel
theorem dX9_takesNumber_5 : decode cX9_takesNumber 5 = .ok (.getfield 137, 3) := by decide +kernel
theorem dX9_takesNumber_8 : decode cX9_takesNumber 8 = .ok (.iconst 2, 1) := by decide +kernel
theorem dX9_takesNumber_9 : decode cX9_takesNumber 9 = .ok (.if_icmp .ne 21, 3) := by decide +kernel
theorem dX9_takesNumber_12 : decode cX9_takesNumber 12 = .ok (.aload_n 0, 1) := by decide +kernel
theorem dX9_takesNumber_13 : decode cX9_takesNumber 13 = .ok (.getfield 128, 3) := by decide +kernel
theorem dX9_takesNumber_16 : decode cX9_takesNumber 16 = .ok (.iload_n 1, 1) := by decide +kernel
theorem dX9_takesNumber_17 : decode cX9_takesNumber 17 = .ok (.i2l, 1) := by decide +kernel
theorem dX9_takesNumber_18 : decode cX9_takesNumber 18 = .ok (.iload_n 2, 1) := by decide +kernel
theorem dX9_takesNumber_19 : decode cX9_takesNumber 19 = .ok (.i2l, 1) := by decide +kernel
theorem dX9_takesNumber_20 : decode cX9_takesNumber 20 = .ok (.invokestatic 92, 3) := by decide +kernel
theorem dX9_takesNumber_23 : decode cX9_takesNumber 23 = .ok (.ifCond .eq 7, 3) := by decide +kernel
theorem dX9_takesNumber_26 : decode cX9_takesNumber 26 = .ok (.iconst 1, 1) := by decide +kernel
theorem dX9_takesNumber_27 : decode cX9_takesNumber 27 = .ok (.goto 4, 3) := by decide +kernel
theorem dX9_takesNumber_30 : decode cX9_takesNumber 30 = .ok (.iconst 0, 1) := by decide +kernel
theorem dX9_takesNumber_31 : decode cX9_takesNumber 31 = .ok (.ireturn, 1) := by decide +kernel
set_option maxRecDepth 20000 in
theorem ggX9_takesStop_X9_next : GoodIn wsX9_takesStop wsX9_next := goodIn_r _ [6, 7, 8, 9, 10, 11, 1, 12, 13, 14, 15, 16, 17, 18, 19, 5, 20, 21, 22, 23, 24, 25, 26, 27, 28, 29, 30, 31, 32, 33, 34, 35, 36, 37, 38, 39, 40, 41, 42, 43, 44, 45, 46, 47, 48, 49, 50, 51, 52, 53, 54, 55, 56, 57, 58, 59, 60, 61, 62, 63, 64, 65, 66, 67, 68, 69, 70, 71, 72, 73, 74] (by decide +kernel) (by decide +kernel)
set_option maxRecDepth 20000 in
theorem gX9_takesStop_X9_next : GoodIn wsX9_takesStop (wsV RX9 152 RX9 yX9_next wsX9_next) := goodIn_app (goodIn_of _ (by decide +kernel)) ggX9_takesStop_X9_next
theorem dX9_takesStop_0 : decode cX9_takesStop 0 = .ok (.aload_n 0, 1) := by decide +kernel
theorem dX9_takesStop_1 : decode cX9_takesStop 1 = .ok (.invokevirtual 152, 3) := by decide +kernel
theorem dX9_takesStop_4 : decode cX9_takesStop 4 = .ok (.aload_n 0, 1) := by decide +kernel
theorem dX9_takesStop_5 : decode cX9_takesStop 5 = .ok (.getfield 137, 3) := by decide +kernel
theorem dX9_takesStop_8 : decode cX9_takesStop 8 = .ok (.iconst 4, 1) := by decide +kernel
theorem dX9_takesStop_9 : decode cX9_takesStop 9 = .ok (.if_icmp .ne 7, 3) := by decide +kernel
theorem dX9_takesStop_12 : decode cX9_takesStop 12 = .ok (.iconst 1, 1) := by decide +kernel
theorem dX9_takesStop_13 : decode cX9_takesStop 13 = .ok (.goto 4, 3) := by decide +kernel
theorem dX9_takesStop_16 : decode cX9_takesStop 16 = .ok (.iconst 0, 1) := by decide +kernel
theorem dX9_takesStop_17 : decode cX9_takesStop 17 = .ok (.ireturn, 1) := by decide +kernel
set_option maxRecDepth 20000 in
theorem ggX9_takesSizes_X9_takesNumber : GoodIn wsX9_takesSizes wsX9_takesNumber := goodIn_r _ [8, 9, 1, 10, 11, 12, 7, 13, 14, 15, 16, 17, 18, 19, 20, 21, 22, 23, 24, 25, 26, 27, 28, 29, 30, 31, 32, 37, 38, 39, 40, 41, 42, 43, 44, 45, 46, 47, 48, 49, 50, 51, 52, 53, 54, 55, 56, 57, 58, 59, 60, 61, 62, 63, 64, 65, 66, 67, 68, 69, 70, 71, 72, 73, 74, 75, 76, 77, 78, 79, 80, 81, 82, 83, 84, 85, 86, 87] (by decide +kernel) (by decide +kernel)
set_option maxRecDepth 20000 in
theorem gX9_takesSizes_X9_takesNumber : GoodIn wsX9_takesSizes (wsV RX9 155 RX9 yX9_takesNumber wsX9_takesNumber) := goodIn_app (goodIn_of _ (by decide +kernel)) ggX9_takesSizes_X9_takesNumber
set_option maxRecDepth 20000 in
theorem ggX9_takesSizes_X9_takesStop : GoodIn wsX9_takesSizes wsX9_takesStop := goodIn_r _ [36, 9, 10, 11, 12, 7, 13, 14, 15, 16, 17, 1, 18, 19, 20, 21, 22, 23, 24, 25, 26, 27, 28, 29, 37, 38, 39, 40, 41, 42, 43, 44, 45, 46, 47, 48, 49, 50, 51, 52, 53, 54, 55, 56, 57, 58, 59, 60, 61, 62, 63, 64, 65, 66, 67, 68, 69, 70, 71, 72, 73, 74, 75, 76, 77, 78, 79, 80, 81, 82, 83, 84, 85, 86, 87] (by decide +kernel) (by decide +kernel)
set_option maxRecDepth 20000 in
theorem gX9_takesSizes_X9_takesStop : GoodIn wsX9_takesSizes (wsV RX9 165 RX9 yX9_takesStop wsX9_takesStop) := goodIn_app (goodIn_of _ (by decide +kernel)) ggX9_takesSizes_X9_takesStop
theorem dX9_takesSizes_0 : decode cX9_takesSizes 0 = .ok (.aload_n 0, 1) := by decide +kernel
theorem dX9_takesSizes_1 : decode cX9_takesSizes 1 = .ok (.iconst 0, 1) := by decide +kernel
theorem dX9_takesSizes_2 : decode cX9_takesSizes 2 = .ok (.bipush 8, 2) := by decide +kernel
theorem dX9_takesSizes_4 : decode cX9_takesSizes 4 = .ok (.invokevirtual 155, 3) := by decide +kernel
theorem dX9_takesSizes_7 : decode cX9_takesSizes 7 = .ok (.ifCond .ne 5, 3) := by decide +kernel
theorem dX9_takesSizes_10 : decode cX9_takesSizes 10 = .ok (.iconst 0, 1) := by decide +kernel
theorem dX9_takesSizes_11 : decode cX9_takesSizes 11 = .ok (.ireturn, 1) := by decide +kernel
theorem dX9_takesSizes_12 : decode cX9_takesSizes 12 = .ok (.aload_n 0, 1) := by decide +kernel
theorem dX9_takesSizes_13 : decode cX9_takesSizes 13 = .ok (.getfield 128, 3) := by decide +kernel
theorem dX9_takesSizes_16 : decode cX9_takesSizes 16 = .ok (.l2i, 1) := by decide +kernel
theorem dX9_takesSizes_17 : decode cX9_takesSizes 17 = .ok (.istore_n 1, 1) := by decide +kernel
theorem dX9_takesSizes_18 : decode cX9_takesSizes 18 = .ok (.aload_n 0, 1) := by decide +kernel
theorem dX9_takesSizes_19 : decode cX9_takesSizes 19 = .ok (.iload_n 1, 1) := by decide +kernel
theorem dX9_takesSizes_20 : decode cX9_takesSizes 20 = .ok (.bipush 8, 2) := by decide +kernel
theorem dX9_takesSizes_22 : decode cX9_takesSizes 22 = .ok (.invokevirtual 155, 3) := by decide +kernel
theorem dX9_takesSizes_25 : decode cX9_takesSizes 25 = .ok (.ifCond .ne 5, 3) := by decide +kernel
theorem dX9_takesSizes_28 : decode cX9_takesSizes 28 = .ok (.iconst 0, 1) := by decide +kernel
theorem dX9_takesSizes_29 : decode cX9_takesSizes 29 = .ok (.ireturn, 1) := by decide +kernel
theorem dX9_takesSizes_30 : decode cX9_takesSizes 30 = .ok (.aload_n 0, 1) := by decide +kernel
theorem dX9_takesSizes_31 : decode cX9_takesSizes 31 = .ok (.iload_n 1, 1) := by decide +kernel
theorem dX9_takesSizes_32 : decode cX9_takesSizes 32 = .ok (.putfield 159, 3) := by decide +kernel
theorem dX9_takesSizes_35 : decode cX9_takesSizes 35 = .ok (.aload_n 0, 1) := by decide +kernel
theorem dX9_takesSizes_36 : decode cX9_takesSizes 36 = .ok (.aload_n 0, 1) := by decide +kernel
theorem dX9_takesSizes_37 : decode cX9_takesSizes 37 = .ok (.getfield 128, 3) := by decide +kernel
theorem dX9_takesSizes_40 : decode cX9_takesSizes 40 = .ok (.l2i, 1) := by decide +kernel
theorem dX9_takesSizes_41 : decode cX9_takesSizes 41 = .ok (.putfield 162, 3) := by decide +kernel
theorem dX9_takesSizes_44 : decode cX9_takesSizes 44 = .ok (.aload_n 0, 1) := by decide +kernel
theorem dX9_takesSizes_45 : decode cX9_takesSizes 45 = .ok (.invokevirtual 165, 3) := by decide +kernel
theorem dX9_takesSizes_48 : decode cX9_takesSizes 48 = .ok (.ireturn, 1) := by decide +kernel
theorem dX9_boxHere_0 : decode cX9_boxHere 0 = .ok (.aload_n 0, 1) := by decide +kernel
theorem dX9_boxHere_1 : decode cX9_boxHere 1 = .ok (.getfield 137, 3) := by decide +kernel
theorem dX9_boxHere_4 : decode cX9_boxHere 4 = .ok (.iconst 3, 1) := by decide +kernel
theorem dX9_boxHere_5 : decode cX9_boxHere 5 = .ok (.if_icmp .ne 5, 3) := by decide +kernel
theorem dX9_boxHere_8 : decode cX9_boxHere 8 = .ok (.iconst 0, 1) := by decide +kernel
theorem dX9_boxHere_9 : decode cX9_boxHere 9 = .ok (.ireturn, 1) := by decide +kernel
theorem dX9_boxHere_10 : decode cX9_boxHere 10 = .ok (.iconst 0, 1) := by decide +kernel
theorem dX9_boxHere_11 : decode cX9_boxHere 11 = .ok (.istore_n 1, 1) := by decide +kernel
theorem dX9_boxHere_12 : decode cX9_boxHere 12 = .ok (.aload_n 0, 1) := by decide +kernel
theorem dX9_boxHere_13 : decode cX9_boxHere 13 = .ok (.getfield 125, 3) := by decide +kernel
theorem dX9_boxHere_16 : decode cX9_boxHere 16 = .ok (.istore_n 2, 1) := by decide +kernel
theorem dX9_boxHere_17 : decode cX9_boxHere 17 = .ok (.iload_n 2, 1) := by decide +kernel
theorem dX9_boxHere_18 : decode cX9_boxHere 18 = .ok (.aload_n 0, 1) := by decide +kernel
theorem dX9_boxHere_19 : decode cX9_boxHere 19 = .ok (.getfield 122, 3) := by decide +kernel
theorem dX9_boxHere_22 : decode cX9_boxHere 22 = .ok (.if_icmp .ge 56, 3) := by decide +kernel
theorem dX9_boxHere_25 : decode cX9_boxHere 25 = .ok (.aload_n 0, 1) := by decide +kernel
theorem dX9_boxHere_26 : decode cX9_boxHere 26 = .ok (.getfield 137, 3) := by decide +kernel
theorem dX9_boxHere_29 : decode cX9_boxHere 29 = .ok (.iconst 1, 1) := by decide +kernel
theorem dX9_boxHere_30 : decode cX9_boxHere 30 = .ok (.if_icmp .ne 48, 3) := by decide +kernel
theorem dX9_boxHere_33 : decode cX9_boxHere 33 = .ok (.iconst 1, 1) := by decide +kernel
theorem dX9_boxHere_34 : decode cX9_boxHere 34 = .ok (.aload_n 0, 1) := by decide +kernel
theorem dX9_boxHere_35 : decode cX9_boxHere 35 = .ok (.getfield 26, 3) := by decide +kernel
theorem dX9_boxHere_38 : decode cX9_boxHere 38 = .ok (.iload_n 2, 1) := by decide +kernel
theorem dX9_boxHere_39 : decode cX9_boxHere 39 = .ok (.iaload, 1) := by decide +kernel
theorem dX9_boxHere_40 : decode cX9_boxHere 40 = .ok (.bipush 97, 2) := by decide +kernel
theorem dX9_boxHere_42 : decode cX9_boxHere 42 = .ok (.isub, 1) := by decide +kernel
theorem dX9_boxHere_43 : decode cX9_boxHere 43 = .ok (.ishl, 1) := by decide +kernel
theorem dX9_boxHere_44 : decode cX9_boxHere 44 = .ok (.istore_n 3, 1) := by decide +kernel
theorem dX9_boxHere_45 : decode cX9_boxHere 45 = .ok (.aload_n 0, 1) := by decide +kernel
theorem dX9_boxHere_46 : decode cX9_boxHere 46 = .ok (.getfield 26, 3) := by decide +kernel
theorem dX9_boxHere_49 : decode cX9_boxHere 49 = .ok (.iload_n 2, 1) := by decide +kernel
theorem dX9_boxHere_50 : decode cX9_boxHere 50 = .ok (.iaload, 1) := by decide +kernel
theorem dX9_boxHere_51 : decode cX9_boxHere 51 = .ok (.bipush 97, 2) := by decide +kernel
theorem dX9_boxHere_53 : decode cX9_boxHere 53 = .ok (.isub, 1) := by decide +kernel
theorem dX9_boxHere_54 : decode cX9_boxHere 54 = .ok (.aload_n 0, 1) := by decide +kernel
theorem dX9_boxHere_55 : decode cX9_boxHere 55 = .ok (.getfield 169, 3) := by decide +kernel
theorem dX9_boxHere_58 : decode cX9_boxHere 58 = .ok (.if_icmp .ge 8, 3) := by decide +kernel
theorem dX9_boxHere_61 : decode cX9_boxHere 61 = .ok (.iload_n 3, 1) := by decide +kernel
theorem dX9_boxHere_62 : decode cX9_boxHere 62 = .ok (.iload_n 1, 1) := by decide +kernel
theorem dX9_boxHere_63 : decode cX9_boxHere 63 = .ok (.if_icmp .gt 5, 3) := by decide +kernel
theorem dX9_boxHere_66 : decode cX9_boxHere 66 = .ok (.iconst (-1), 1) := by decide +kernel
theorem dX9_boxHere_67 : decode cX9_boxHere 67 = .ok (.ireturn, 1) := by decide +kernel
theorem dX9_boxHere_68 : decode cX9_boxHere 68 = .ok (.iload_n 1, 1) := by decide +kernel
theorem dX9_boxHere_69 : decode cX9_boxHere 69 = .ok (.iload_n 3, 1) := by decide +kernel
theorem dX9_boxHere_70 : decode cX9_boxHere 70 = .ok (.ior, 1) := by decide +kernel
theorem dX9_boxHere_71 : decode cX9_boxHere 71 = .ok (.istore_n 1, 1) := by decide +kernel
theorem dX9_boxHere_72 : decode cX9_boxHere 72 = .ok (.iinc 2 1, 3) := by decide +kernel
theorem dX9_boxHere_75 : decode cX9_boxHere 75 = .ok (.goto (-58), 3) := by decide +kernel
theorem dX9_boxHere_78 : decode cX9_boxHere 78 = .ok (.iload_n 1, 1) := by decide +kernel
theorem dX9_boxHere_79 : decode cX9_boxHere 79 = .ok (.ifCond .ne 7, 3) := by decide +kernel
theorem dX9_boxHere_82 : decode cX9_boxHere 82 = .ok (.iconst (-1), 1) := by decide +kernel
theorem dX9_boxHere_83 : decode cX9_boxHere 83 = .ok (.goto 4, 3) := by decide +kernel
theorem dX9_boxHere_86 : decode cX9_boxHere 86 = .ok (.iload_n 1, 1) := by decide +kernel
theorem dX9_boxHere_87 : decode cX9_boxHere 87 = .ok (.ireturn, 1) := by decide +kernel
set_option maxRecDepth 20000 in
theorem ggX9_takesBox_X9_next : GoodIn wsX9_takesBox wsX9_next := goodIn_r _ [9, 10, 11, 12, 13, 4, 14, 15, 16, 17, 18, 19, 20, 21, 22, 8, 23, 24, 25, 26, 43, 44, 45, 46, 47, 48, 49, 50, 51, 52, 53, 54, 55, 56, 57, 58, 59, 60, 61, 62, 63, 64, 65, 66, 67, 68, 69, 70, 71, 72, 73, 74, 75, 76, 77, 78, 79, 80, 81, 82, 83, 84, 85, 86, 87, 88, 89, 90, 91, 92, 93] (by decide +kernel) (by decide +kernel)
set_option maxRecDepth 20000 in
theorem gX9_takesBox_X9_next : GoodIn wsX9_takesBox (wsV RX9 152 RX9 yX9_next wsX9_next) := goodIn_app (goodIn_of _ (by decide +kernel)) ggX9_takesBox_X9_next
set_option maxRecDepth 20000 in
theorem ggX9_takesBox_X9_boxHere : GoodIn wsX9_takesBox wsX9_boxHere := goodIn_r _ [30, 14, 13, 10, 12, 31, 43, 44, 45, 46, 47, 48, 49, 50, 51, 52, 53, 54, 55, 56, 57, 58, 59, 60, 61, 62, 63, 64, 65, 66, 67, 68, 69, 70, 71, 72, 73, 74, 75, 76, 77, 78, 79, 80, 81, 82, 83, 84, 85, 86, 87, 88, 89, 90, 91, 92, 93] (by decide +kernel) (by decide +kernel)
set_option maxRecDepth 20000 in
theorem gX9_takesBox_X9_boxHere : GoodIn wsX9_takesBox (wsV RX9 172 RX9 yX9_boxHere wsX9_boxHere) := goodIn_app (goodIn_of _ (by decide +kernel)) ggX9_takesBox_X9_boxHere
set_option maxRecDepth 20000 in
theorem ggX9_takesBox_X9_takesNumber : GoodIn wsX9_takesBox wsX9_takesNumber := goodIn_r _ [35, 14, 4, 5, 6, 7, 8, 9, 10, 11, 12, 13, 15, 16, 17, 18, 19, 20, 21, 22, 23, 24, 25, 26, 36, 37, 38, 43, 44, 45, 46, 47, 48, 49, 50, 51, 52, 53, 54, 55, 56, 57, 58, 59, 60, 61, 62, 63, 64, 65, 66, 67, 68, 69, 70, 71, 72, 73, 74, 75, 76, 77, 78, 79, 80, 81, 82, 83, 84, 85, 86, 87, 88, 89, 90, 91, 92, 93] (by decide +kernel) (by decide +kernel)
set_option maxRecDepth 20000 in
theorem gX9_takesBox_X9_takesNumber : GoodIn wsX9_takesBox (wsV RX9 155 RX9 yX9_takesNumber wsX9_takesNumber) := goodIn_app (goodIn_of _ (by decide +kernel)) ggX9_takesBox_X9_takesNumber
set_option maxRecDepth 20000 in
theorem ggX9_takesBox_X9_takesStop : GoodIn wsX9_takesBox wsX9_takesStop := goodIn_r _ [42, 14, 5, 6, 7, 8, 9, 10, 11, 12, 13, 4, 15, 16, 17, 18, 19, 20, 21, 22, 23, 24, 25, 26, 43, 44, 45, 46, 47, 48, 49, 50, 51, 52, 53, 54, 55, 56, 57, 58, 59, 60, 61, 62, 63, 64, 65, 66, 67, 68, 69, 70, 71, 72, 73, 74, 75, 76, 77, 78, 79, 80, 81, 82, 83, 84, 85, 86, 87, 88, 89, 90, 91, 92, 93] (by decide +kernel) (by decide +kernel)
set_option maxRecDepth 20000 in
theorem gX9_takesBox_X9_takesStop : GoodIn wsX9_takesBox (wsV RX9 165 RX9 yX9_takesStop wsX9_takesStop) := goodIn_app (goodIn_of _ (by decide +kernel)) ggX9_takesBox_X9_takesStop
theorem dX9_takesBox_0 : decode cX9_takesBox 0 = .ok (.aload_n 0, 1) := by decide +kernel
theorem dX9_takesBox_1 : decode cX9_takesBox 1 = .ok (.invokevirtual 152, 3) := by decide +kernel
theorem dX9_takesBox_4 : decode cX9_takesBox 4 = .ok (.aload_n 0, 1) := by decide +kernel
theorem dX9_takesBox_5 : decode cX9_takesBox 5 = .ok (.invokevirtual 172, 3) := by decide +kernel
theorem dX9_takesBox_8 : decode cX9_takesBox 8 = .ok (.istore_n 1, 1) := by decide +kernel
theorem dX9_takesBox_9 : decode cX9_takesBox 9 = .ok (.iload_n 1, 1) := by decide +kernel
theorem dX9_takesBox_10 : decode cX9_takesBox 10 = .ok (.iconst (-1), 1) := by decide +kernel
theorem dX9_takesBox_11 : decode cX9_takesBox 11 = .ok (.if_icmp .eq 7, 3) := by decide +kernel
theorem dX9_takesBox_14 : decode cX9_takesBox 14 = .ok (.iconst 1, 1) := by decide +kernel
theorem dX9_takesBox_15 : decode cX9_takesBox 15 = .ok (.goto 4, 3) := by decide +kernel
theorem dX9_takesBox_18 : decode cX9_takesBox 18 = .ok (.iconst 0, 1) := by decide +kernel
theorem dX9_takesBox_19 : decode cX9_takesBox 19 = .ok (.istore_n 2, 1) := by decide +kernel
theorem dX9_takesBox_20 : decode cX9_takesBox 20 = .ok (.iconst 0, 1) := by decide +kernel
theorem dX9_takesBox_21 : decode cX9_takesBox 21 = .ok (.istore_n 3, 1) := by decide +kernel
theorem dX9_takesBox_22 : decode cX9_takesBox 22 = .ok (.iload_n 3, 1) := by decide +kernel
theorem dX9_takesBox_23 : decode cX9_takesBox 23 = .ok (.aload_n 0, 1) := by decide +kernel
theorem dX9_takesBox_24 : decode cX9_takesBox 24 = .ok (.getfield 176, 3) := by decide +kernel
theorem dX9_takesBox_27 : decode cX9_takesBox 27 = .ok (.if_icmp .ge 29, 3) := by decide +kernel
theorem dX9_takesBox_30 : decode cX9_takesBox 30 = .ok (.iload_n 2, 1) := by decide +kernel
theorem dX9_takesBox_31 : decode cX9_takesBox 31 = .ok (.ifCond .eq 17, 3) := by decide +kernel
theorem dX9_takesBox_34 : decode cX9_takesBox 34 = .ok (.aload_n 0, 1) := by decide +kernel
theorem dX9_takesBox_35 : decode cX9_takesBox 35 = .ok (.getfield 39, 3) := by decide +kernel
theorem dX9_takesBox_38 : decode cX9_takesBox 38 = .ok (.iload_n 3, 1) := by decide +kernel
theorem dX9_takesBox_39 : decode cX9_takesBox 39 = .ok (.iaload, 1) := by decide +kernel
theorem dX9_takesBox_40 : decode cX9_takesBox 40 = .ok (.iload_n 1, 1) := by decide +kernel
theorem dX9_takesBox_41 : decode cX9_takesBox 41 = .ok (.if_icmp .eq 7, 3) := by decide +kernel
theorem dX9_takesBox_44 : decode cX9_takesBox 44 = .ok (.iconst 1, 1) := by decide +kernel
theorem dX9_takesBox_45 : decode cX9_takesBox 45 = .ok (.goto 4, 3) := by decide +kernel
theorem dX9_takesBox_48 : decode cX9_takesBox 48 = .ok (.iconst 0, 1) := by decide +kernel
theorem dX9_takesBox_49 : decode cX9_takesBox 49 = .ok (.istore_n 2, 1) := by decide +kernel
theorem dX9_takesBox_50 : decode cX9_takesBox 50 = .ok (.iinc 3 1, 3) := by decide +kernel
theorem dX9_takesBox_53 : decode cX9_takesBox 53 = .ok (.goto (-31), 3) := by decide +kernel
theorem dX9_takesBox_56 : decode cX9_takesBox 56 = .ok (.iload_n 2, 1) := by decide +kernel
theorem dX9_takesBox_57 : decode cX9_takesBox 57 = .ok (.ifCond .eq 13, 3) := by decide +kernel
theorem dX9_takesBox_60 : decode cX9_takesBox 60 = .ok (.aload_n 0, 1) := by decide +kernel
theorem dX9_takesBox_61 : decode cX9_takesBox 61 = .ok (.iconst 0, 1) := by decide +kernel
theorem dX9_takesBox_62 : decode cX9_takesBox 62 = .ok (.bipush 99, 2) := by decide +kernel
theorem dX9_takesBox_64 : decode cX9_takesBox 64 = .ok (.invokevirtual 155, 3) := by decide +kernel
theorem dX9_takesBox_67 : decode cX9_takesBox 67 = .ok (.ifCond .ne 5, 3) := by decide +kernel
theorem dX9_takesBox_70 : decode cX9_takesBox 70 = .ok (.iconst 0, 1) := by decide +kernel
theorem dX9_takesBox_71 : decode cX9_takesBox 71 = .ok (.ireturn, 1) := by decide +kernel
theorem dX9_takesBox_72 : decode cX9_takesBox 72 = .ok (.aload_n 0, 1) := by decide +kernel
theorem dX9_takesBox_73 : decode cX9_takesBox 73 = .ok (.getfield 39, 3) := by decide +kernel
theorem dX9_takesBox_76 : decode cX9_takesBox 76 = .ok (.aload_n 0, 1) := by decide +kernel
theorem dX9_takesBox_77 : decode cX9_takesBox 77 = .ok (.getfield 176, 3) := by decide +kernel
theorem dX9_takesBox_80 : decode cX9_takesBox 80 = .ok (.iload_n 1, 1) := by decide +kernel
theorem dX9_takesBox_81 : decode cX9_takesBox 81 = .ok (.iastore, 1) := by decide +kernel
theorem dX9_takesBox_82 : decode cX9_takesBox 82 = .ok (.aload_n 0, 1) := by decide +kernel
theorem dX9_takesBox_83 : decode cX9_takesBox 83 = .ok (.getfield 42, 3) := by decide +kernel
theorem dX9_takesBox_86 : decode cX9_takesBox 86 = .ok (.aload_n 0, 1) := by decide +kernel
theorem dX9_takesBox_87 : decode cX9_takesBox 87 = .ok (.getfield 176, 3) := by decide +kernel
theorem dX9_takesBox_90 : decode cX9_takesBox 90 = .ok (.aload_n 0, 1) := by decide +kernel
theorem dX9_takesBox_91 : decode cX9_takesBox 91 = .ok (.getfield 128, 3) := by decide +kernel
theorem dX9_takesBox_94 : decode cX9_takesBox 94 = .ok (.l2i, 1) := by decide +kernel
theorem dX9_takesBox_95 : decode cX9_takesBox 95 = .ok (.iastore, 1) := by decide +kernel
theorem dX9_takesBox_96 : decode cX9_takesBox 96 = .ok (.aload_n 0, 1) := by decide +kernel
theorem dX9_takesBox_97 : decode cX9_takesBox 97 = .ok (.dup, 1) := by decide +kernel
theorem dX9_takesBox_98 : decode cX9_takesBox 98 = .ok (.getfield 176, 3) := by decide +kernel
theorem dX9_takesBox_101 : decode cX9_takesBox 101 = .ok (.iconst 1, 1) := by decide +kernel
theorem dX9_takesBox_102 : decode cX9_takesBox 102 = .ok (.iadd, 1) := by decide +kernel
theorem dX9_takesBox_103 : decode cX9_takesBox 103 = .ok (.putfield 176, 3) := by decide +kernel
theorem dX9_takesBox_106 : decode cX9_takesBox 106 = .ok (.aload_n 0, 1) := by decide +kernel
theorem dX9_takesBox_107 : decode cX9_takesBox 107 = .ok (.invokevirtual 165, 3) := by decide +kernel
theorem dX9_takesBox_110 : decode cX9_takesBox 110 = .ok (.ireturn, 1) := by decide +kernel
set_option maxRecDepth 20000 in
theorem ggX9_takesAll_X9_next : GoodIn wsX9_takesAll wsX9_next := goodIn_r _ [15, 1, 16, 17, 18, 6, 5, 19, 20, 21, 22, 23, 24, 25, 26, 14, 27, 28, 29, 30, 56, 57, 58, 59, 60, 61, 62, 63, 64, 65, 66, 67, 68, 69, 70, 71, 72, 73, 74, 75, 76, 77, 78, 79, 80, 81, 82, 83, 84, 85, 86, 87, 88, 89, 90, 91, 92, 93, 94, 95, 96, 97, 98, 99, 100, 101, 102, 103, 104, 105, 106] (by decide +kernel) (by decide +kernel)
set_option maxRecDepth 20000 in
theorem gX9_takesAll_X9_next : GoodIn wsX9_takesAll (wsV RX9 152 RX9 yX9_next wsX9_next) := goodIn_app (goodIn_of _ (by decide +kernel)) ggX9_takesAll_X9_next
set_option maxRecDepth 20000 in
theorem ggX9_takesAll_X9_takesNumber : GoodIn wsX9_takesAll wsX9_takesNumber := goodIn_r _ [34, 5, 6, 11, 12, 13, 14, 15, 1, 16, 17, 18, 19, 20, 21, 22, 23, 24, 25, 26, 27, 28, 29, 30, 35, 36, 37, 56, 57, 58, 59, 60, 61, 62, 63, 64, 65, 66, 67, 68, 69, 70, 71, 72, 73, 74, 75, 76, 77, 78, 79, 80, 81, 82, 83, 84, 85, 86, 87, 88, 89, 90, 91, 92, 93, 94, 95, 96, 97, 98, 99, 100, 101, 102, 103, 104, 105, 106] (by decide +kernel) (by decide +kernel)
set_option maxRecDepth 20000 in
theorem gX9_takesAll_X9_takesNumber : GoodIn wsX9_takesAll (wsV RX9 155 RX9 yX9_takesNumber wsX9_takesNumber) := goodIn_app (goodIn_of _ (by decide +kernel)) ggX9_takesAll_X9_takesNumber
set_option maxRecDepth 20000 in
theorem ggX9_takesAll_X9_takesStop : GoodIn wsX9_takesAll wsX9_takesStop := goodIn_r _ [41, 5, 11, 12, 13, 14, 15, 1, 16, 17, 18, 6, 19, 20, 21, 22, 23, 24, 25, 26, 27, 28, 29, 30, 56, 57, 58, 59, 60, 61, 62, 63, 64, 65, 66, 67, 68, 69, 70, 71, 72, 73, 74, 75, 76, 77, 78, 79, 80, 81, 82, 83, 84, 85, 86, 87, 88, 89, 90, 91, 92, 93, 94, 95, 96, 97, 98, 99, 100, 101, 102, 103, 104, 105, 106] (by decide +kernel) (by decide +kernel)
set_option maxRecDepth 20000 in
theorem gX9_takesAll_X9_takesStop : GoodIn wsX9_takesAll (wsV RX9 165 RX9 yX9_takesStop wsX9_takesStop) := goodIn_app (goodIn_of _ (by decide +kernel)) ggX9_takesAll_X9_takesStop
set_option maxRecDepth 20000 in
theorem ggX9_takesAll_X9_takesSizes : GoodIn wsX9_takesAll wsX9_takesSizes := goodIn_r _ [45, 6, 2, 3, 31, 32, 33, 14, 34, 5, 11, 12, 13, 15, 1, 16, 17, 18, 19, 20, 21, 22, 23, 24, 25, 26, 27, 28, 29, 30, 35, 36, 37, 38, 39, 40, 41, 56, 57, 58, 59, 60, 61, 62, 63, 64, 65, 66, 67, 68, 69, 70, 71, 72, 73, 74, 75, 76, 77, 78, 79, 80, 81, 82, 83, 84, 85, 86, 87, 88, 89, 90, 91, 92, 93, 94, 95, 96, 97, 98, 99, 100, 101, 102, 103, 104, 105, 106] (by decide +kernel) (by decide +kernel)
set_option maxRecDepth 20000 in
theorem gX9_takesAll_X9_takesSizes : GoodIn wsX9_takesAll (wsV RX9 183 RX9 yX9_takesSizes wsX9_takesSizes) := goodIn_app (goodIn_of _ (by decide +kernel)) ggX9_takesAll_X9_takesSizes
set_option maxRecDepth 20000 in
theorem ggX9_takesAll_X9_takesBox : GoodIn wsX9_takesAll wsX9_takesBox := goodIn_r _ [49, 4, 50, 51, 6, 11, 12, 13, 14, 15, 1, 16, 17, 18, 5, 19, 20, 21, 22, 23, 24, 25, 26, 27, 28, 29, 30, 52, 53, 54, 55, 8, 31, 32, 33, 34, 35, 36, 37, 38, 39, 40, 41, 56, 57, 58, 59, 60, 61, 62, 63, 64, 65, 66, 67, 68, 69, 70, 71, 72, 73, 74, 75, 76, 77, 78, 79, 80, 81, 82, 83, 84, 85, 86, 87, 88, 89, 90, 91, 92, 93, 94, 95, 96, 97, 98, 99, 100, 101, 102, 103, 104, 105, 106] (by decide +kernel) (by decide +kernel)
set_option maxRecDepth 20000 in
theorem gX9_takesAll_X9_takesBox : GoodIn wsX9_takesAll (wsV RX9 188 RX9 yX9_takesBox wsX9_takesBox) := goodIn_app (goodIn_of _ (by decide +kernel)) ggX9_takesAll_X9_takesBox
theorem dX9_takesAll_0 : decode cX9_takesAll 0 = .ok (.aload_n 0, 1) := by decide +kernel
theorem dX9_takesAll_1 : decode cX9_takesAll 1 = .ok (.iconst 0, 1) := by decide +kernel
theorem dX9_takesAll_2 : decode cX9_takesAll 2 = .ok (.putfield 122, 3) := by decide +kernel
theorem dX9_takesAll_5 : decode cX9_takesAll 5 = .ok (.aload_n 0, 1) := by decide +kernel
theorem dX9_takesAll_6 : decode cX9_takesAll 6 = .ok (.iconst 0, 1) := by decide +kernel
theorem dX9_takesAll_7 : decode cX9_takesAll 7 = .ok (.putfield 159, 3) := by decide +kernel
theorem dX9_takesAll_10 : decode cX9_takesAll 10 = .ok (.aload_n 0, 1) := by decide +kernel
theorem dX9_takesAll_11 : decode cX9_takesAll 11 = .ok (.bipush 8, 2) := by decide +kernel
theorem dX9_takesAll_13 : decode cX9_takesAll 13 = .ok (.putfield 162, 3) := by decide +kernel
theorem dX9_takesAll_16 : decode cX9_takesAll 16 = .ok (.aload_n 0, 1) := by decide +kernel
theorem dX9_takesAll_17 : decode cX9_takesAll 17 = .ok (.iconst 0, 1) := by decide +kernel
theorem dX9_takesAll_18 : decode cX9_takesAll 18 = .ok (.putfield 176, 3) := by decide +kernel
theorem dX9_takesAll_21 : decode cX9_takesAll 21 = .ok (.aload_n 0, 1) := by decide +kernel
theorem dX9_takesAll_22 : decode cX9_takesAll 22 = .ok (.invokevirtual 152, 3) := by decide +kernel
theorem dX9_takesAll_25 : decode cX9_takesAll 25 = .ok (.aload_n 0, 1) := by decide +kernel
theorem dX9_takesAll_26 : decode cX9_takesAll 26 = .ok (.getfield 137, 3) := by decide +kernel
theorem dX9_takesAll_29 : decode cX9_takesAll 29 = .ok (.iconst 1, 1) := by decide +kernel
theorem dX9_takesAll_30 : decode cX9_takesAll 30 = .ok (.if_icmp .ne 24, 3) := by decide +kernel
theorem dX9_takesAll_33 : decode cX9_takesAll 33 = .ok (.aload_n 0, 1) := by decide +kernel
theorem dX9_takesAll_34 : decode cX9_takesAll 34 = .ok (.getfield 128, 3) := by decide +kernel
theorem dX9_takesAll_37 : decode cX9_takesAll 37 = .ok (.ldc2_w 179, 3) := by decide +kernel
theorem dX9_takesAll_40 : decode cX9_takesAll 40 = .ok (.lcmp, 1) := by decide +kernel
theorem dX9_takesAll_41 : decode cX9_takesAll 41 = .ok (.ifCond .ne 13, 3) := by decide +kernel
theorem dX9_takesAll_44 : decode cX9_takesAll 44 = .ok (.aload_n 0, 1) := by decide +kernel
theorem dX9_takesAll_45 : decode cX9_takesAll 45 = .ok (.iconst 1, 1) := by decide +kernel
theorem dX9_takesAll_46 : decode cX9_takesAll 46 = .ok (.bipush 8, 2) := by decide +kernel
theorem dX9_takesAll_48 : decode cX9_takesAll 48 = .ok (.invokevirtual 155, 3) := by decide +kernel
theorem dX9_takesAll_51 : decode cX9_takesAll 51 = .ok (.ifCond .ne 5, 3) := by decide +kernel
theorem dX9_takesAll_54 : decode cX9_takesAll 54 = .ok (.iconst 0, 1) := by decide +kernel
theorem dX9_takesAll_55 : decode cX9_takesAll 55 = .ok (.ireturn, 1) := by decide +kernel
theorem dX9_takesAll_56 : decode cX9_takesAll 56 = .ok (.aload_n 0, 1) := by decide +kernel
theorem dX9_takesAll_57 : decode cX9_takesAll 57 = .ok (.aload_n 0, 1) := by decide +kernel
theorem dX9_takesAll_58 : decode cX9_takesAll 58 = .ok (.getfield 128, 3) := by decide +kernel
theorem dX9_takesAll_61 : decode cX9_takesAll 61 = .ok (.l2i, 1) := by decide +kernel
theorem dX9_takesAll_62 : decode cX9_takesAll 62 = .ok (.putfield 169, 3) := by decide +kernel
theorem dX9_takesAll_65 : decode cX9_takesAll 65 = .ok (.aload_n 0, 1) := by decide +kernel
theorem dX9_takesAll_66 : decode cX9_takesAll 66 = .ok (.invokevirtual 165, 3) := by decide +kernel
theorem dX9_takesAll_69 : decode cX9_takesAll 69 = .ok (.istore_n 1, 1) := by decide +kernel
theorem dX9_takesAll_70 : decode cX9_takesAll 70 = .ok (.iload_n 1, 1) := by decide +kernel
theorem dX9_takesAll_71 : decode cX9_takesAll 71 = .ok (.ifCond .eq 7, 3) := by decide +kernel
theorem dX9_takesAll_74 : decode cX9_takesAll 74 = .ok (.aload_n 0, 1) := by decide +kernel
theorem dX9_takesAll_75 : decode cX9_takesAll 75 = .ok (.invokevirtual 152, 3) := by decide +kernel
theorem dX9_takesAll_78 : decode cX9_takesAll 78 = .ok (.iload_n 1, 1) := by decide +kernel
theorem dX9_takesAll_79 : decode cX9_takesAll 79 = .ok (.ifCond .eq 83, 3) := by decide +kernel
theorem dX9_takesAll_82 : decode cX9_takesAll 82 = .ok (.aload_n 0, 1) := by decide +kernel
theorem dX9_takesAll_83 : decode cX9_takesAll 83 = .ok (.getfield 137, 3) := by decide +kernel
theorem dX9_takesAll_86 : decode cX9_takesAll 86 = .ok (.ifCond .eq 76, 3) := by decide +kernel
theorem dX9_takesAll_89 : decode cX9_takesAll 89 = .ok (.aload_n 0, 1) := by decide +kernel
theorem dX9_takesAll_90 : decode cX9_takesAll 90 = .ok (.getfield 137, 3) := by decide +kernel
theorem dX9_takesAll_93 : decode cX9_takesAll 93 = .ok (.iconst 1, 1) := by decide +kernel
theorem dX9_takesAll_94 : decode cX9_takesAll 94 = .ok (.if_icmp .ne 55, 3) := by decide +kernel
theorem dX9_takesAll_97 : decode cX9_takesAll 97 = .ok (.aload_n 0, 1) := by decide +kernel
theorem dX9_takesAll_98 : decode cX9_takesAll 98 = .ok (.getfield 128, 3) := by decide +kernel
theorem dX9_takesAll_101 : decode cX9_takesAll 101 = .ok (.ldc2_w 181, 3) := by decide +kernel
theorem dX9_takesAll_104 : decode cX9_takesAll 104 = .ok (.lcmp, 1) := by decide +kernel
theorem dX9_takesAll_105 : decode cX9_takesAll 105 = .ok (.ifCond .ne 13, 3) := by decide +kernel
theorem dX9_takesAll_108 : decode cX9_takesAll 108 = .ok (.aload_n 0, 1) := by decide +kernel
theorem dX9_takesAll_109 : decode cX9_takesAll 109 = .ok (.invokevirtual 183, 3) := by decide +kernel
theorem dX9_takesAll_112 : decode cX9_takesAll 112 = .ok (.ifCond .eq 37, 3) := by decide +kernel
theorem dX9_takesAll_115 : decode cX9_takesAll 115 = .ok (.goto 30, 3) := by decide +kernel
theorem dX9_takesAll_118 : decode cX9_takesAll 118 = .ok (.aload_n 0, 1) := by decide +kernel
theorem dX9_takesAll_119 : decode cX9_takesAll 119 = .ok (.getfield 128, 3) := by decide +kernel
theorem dX9_takesAll_122 : decode cX9_takesAll 122 = .ok (.ldc2_w 186, 3) := by decide +kernel
theorem dX9_takesAll_125 : decode cX9_takesAll 125 = .ok (.lcmp, 1) := by decide +kernel
theorem dX9_takesAll_126 : decode cX9_takesAll 126 = .ok (.ifCond .ne 23, 3) := by decide +kernel
theorem dX9_takesAll_129 : decode cX9_takesAll 129 = .ok (.aload_n 0, 1) := by decide +kernel
theorem dX9_takesAll_130 : decode cX9_takesAll 130 = .ok (.getfield 176, 3) := by decide +kernel
theorem dX9_takesAll_133 : decode cX9_takesAll 133 = .ok (.bipush 16, 2) := by decide +kernel
theorem dX9_takesAll_135 : decode cX9_takesAll 135 = .ok (.if_icmp .ge 14, 3) := by decide +kernel
theorem dX9_takesAll_138 : decode cX9_takesAll 138 = .ok (.aload_n 0, 1) := by decide +kernel
theorem dX9_takesAll_139 : decode cX9_takesAll 139 = .ok (.invokevirtual 188, 3) := by decide +kernel
theorem dX9_takesAll_142 : decode cX9_takesAll 142 = .ok (.ifCond .eq 7, 3) := by decide +kernel
theorem dX9_takesAll_145 : decode cX9_takesAll 145 = .ok (.iconst 1, 1) := by decide +kernel
theorem dX9_takesAll_146 : decode cX9_takesAll 146 = .ok (.goto 4, 3) := by decide +kernel
theorem dX9_takesAll_149 : decode cX9_takesAll 149 = .ok (.iconst 0, 1) := by decide +kernel
theorem dX9_takesAll_150 : decode cX9_takesAll 150 = .ok (.istore_n 1, 1) := by decide +kernel
theorem dX9_takesAll_151 : decode cX9_takesAll 151 = .ok (.iload_n 1, 1) := by decide +kernel
theorem dX9_takesAll_152 : decode cX9_takesAll 152 = .ok (.ifCond .eq (-74), 3) := by decide +kernel
theorem dX9_takesAll_155 : decode cX9_takesAll 155 = .ok (.aload_n 0, 1) := by decide +kernel
theorem dX9_takesAll_156 : decode cX9_takesAll 156 = .ok (.invokevirtual 152, 3) := by decide +kernel
theorem dX9_takesAll_159 : decode cX9_takesAll 159 = .ok (.goto (-81), 3) := by decide +kernel
theorem dX9_takesAll_162 : decode cX9_takesAll 162 = .ok (.iload_n 1, 1) := by decide +kernel
theorem dX9_takesAll_163 : decode cX9_takesAll 163 = .ok (.ireturn, 1) := by decide +kernel
set_option maxRecDepth 20000 in
theorem ggX9_read_X9_takesAll : GoodIn wsX9_read wsX9_takesAll := goodIn_r _ [18, 19, 4, 6, 8, 20, 21, 22, 2, 23, 24, 25, 26, 27, 17, 28, 29, 30, 1, 31, 32, 33, 34, 35, 36, 37, 38, 39, 40, 41, 42, 43, 44, 45, 46, 47, 48, 49, 50, 51, 52, 53, 54, 55, 56, 57, 58, 59, 60, 61, 11, 13, 62, 63, 64, 65, 66, 67, 68, 69, 70, 71, 72, 73, 74, 75, 76, 77, 78, 79, 80, 81, 82, 83, 84, 85, 86, 87, 88, 89, 90, 91, 92, 93, 94, 95, 96, 97, 98, 99, 100, 101, 102, 103, 104, 105, 106, 107, 108, 109, 110, 111, 112, 113, 114, 115, 116] (by decide +kernel) (by decide +kernel)
set_option maxRecDepth 20000 in
theorem gX9_read_X9_takesAll : GoodIn wsX9_read (wsV RX9 191 RX9 yX9_takesAll wsX9_takesAll) := goodIn_app (goodIn_of _ (by decide +kernel)) ggX9_read_X9_takesAll
theorem dX9_read_0 : decode cX9_read 0 = .ok (.aload_n 0, 1) := by decide +kernel
theorem dX9_read_1 : decode cX9_read 1 = .ok (.invokevirtual 191, 3) := by decide +kernel
theorem dX9_read_4 : decode cX9_read 4 = .ok (.ifCond .ne 11, 3) := by decide +kernel
theorem dX9_read_7 : decode cX9_read 7 = .ok (.bipush (-10), 2) := by decide +kernel
theorem dX9_read_9 : decode cX9_read 9 = .ok (.aload_n 0, 1) := by decide +kernel
theorem dX9_read_10 : decode cX9_read 10 = .ok (.getfield 125, 3) := by decide +kernel
theorem dX9_read_13 : decode cX9_read 13 = .ok (.isub, 1) := by decide +kernel
theorem dX9_read_14 : decode cX9_read 14 = .ok (.ireturn, 1) := by decide +kernel
theorem dX9_read_15 : decode cX9_read 15 = .ok (.aload_n 0, 1) := by decide +kernel
theorem dX9_read_16 : decode cX9_read 16 = .ok (.aload_n 0, 1) := by decide +kernel
theorem dX9_read_17 : decode cX9_read 17 = .ok (.getfield 169, 3) := by decide +kernel
theorem dX9_read_20 : decode cX9_read 20 = .ok (.putfield 7, 3) := by decide +kernel
theorem dX9_read_23 : decode cX9_read 23 = .ok (.aload_n 0, 1) := by decide +kernel
theorem dX9_read_24 : decode cX9_read 24 = .ok (.aload_n 0, 1) := by decide +kernel
theorem dX9_read_25 : decode cX9_read 25 = .ok (.getfield 159, 3) := by decide +kernel
theorem dX9_read_28 : decode cX9_read 28 = .ok (.putfield 105, 3) := by decide +kernel
theorem dX9_read_31 : decode cX9_read 31 = .ok (.aload_n 0, 1) := by decide +kernel
theorem dX9_read_32 : decode cX9_read 32 = .ok (.aload_n 0, 1) := by decide +kernel
theorem dX9_read_33 : decode cX9_read 33 = .ok (.getfield 162, 3) := by decide +kernel
theorem dX9_read_36 : decode cX9_read 36 = .ok (.putfield 13, 3) := by decide +kernel
theorem dX9_read_39 : decode cX9_read 39 = .ok (.aload_n 0, 1) := by decide +kernel
theorem dX9_read_40 : decode cX9_read 40 = .ok (.aload_n 0, 1) := by decide +kernel
theorem dX9_read_41 : decode cX9_read 41 = .ok (.getfield 176, 3) := by decide +kernel
theorem dX9_read_44 : decode cX9_read 44 = .ok (.putfield 102, 3) := by decide +kernel
theorem dX9_read_47 : decode cX9_read 47 = .ok (.iconst 0, 1) := by decide +kernel
theorem dX9_read_48 : decode cX9_read 48 = .ok (.istore_n 1, 1) := by decide +kernel
theorem dX9_read_49 : decode cX9_read 49 = .ok (.iload_n 1, 1) := by decide +kernel
theorem dX9_read_50 : decode cX9_read 50 = .ok (.aload_n 0, 1) := by decide +kernel
theorem dX9_read_51 : decode cX9_read 51 = .ok (.getfield 102, 3) := by decide +kernel
theorem dX9_read_54 : decode cX9_read 54 = .ok (.if_icmp .ge 33, 3) := by decide +kernel
theorem dX9_read_57 : decode cX9_read 57 = .ok (.aload_n 0, 1) := by decide +kernel
theorem dX9_read_58 : decode cX9_read 58 = .ok (.getfield 16, 3) := by decide +kernel
theorem dX9_read_61 : decode cX9_read 61 = .ok (.iload_n 1, 1) := by decide +kernel
theorem dX9_read_62 : decode cX9_read 62 = .ok (.aload_n 0, 1) := by decide +kernel
theorem dX9_read_63 : decode cX9_read 63 = .ok (.getfield 39, 3) := by decide +kernel
theorem dX9_read_66 : decode cX9_read 66 = .ok (.iload_n 1, 1) := by decide +kernel
theorem dX9_read_67 : decode cX9_read 67 = .ok (.iaload, 1) := by decide +kernel
theorem dX9_read_68 : decode cX9_read 68 = .ok (.iastore, 1) := by decide +kernel
theorem dX9_read_69 : decode cX9_read 69 = .ok (.aload_n 0, 1) := by decide +kernel
theorem dX9_read_70 : decode cX9_read 70 = .ok (.getfield 20, 3) := by decide +kernel
theorem dX9_read_73 : decode cX9_read 73 = .ok (.iload_n 1, 1) := by decide +kernel
theorem dX9_read_74 : decode cX9_read 74 = .ok (.aload_n 0, 1) := by decide +kernel
theorem dX9_read_75 : decode cX9_read 75 = .ok (.getfield 42, 3) := by decide +kernel
theorem dX9_read_78 : decode cX9_read 78 = .ok (.iload_n 1, 1) := by decide +kernel
theorem dX9_read_79 : decode cX9_read 79 = .ok (.iaload, 1) := by decide +kernel
theorem dX9_read_80 : decode cX9_read 80 = .ok (.iastore, 1) := by decide +kernel
theorem dX9_read_81 : decode cX9_read 81 = .ok (.iinc 1 1, 3) := by decide +kernel
theorem dX9_read_84 : decode cX9_read 84 = .ok (.goto (-35), 3) := by decide +kernel
theorem dX9_read_87 : decode cX9_read 87 = .ok (.aload_n 0, 1) := by decide +kernel
theorem dX9_read_88 : decode cX9_read 88 = .ok (.getfield 102, 3) := by decide +kernel
theorem dX9_read_91 : decode cX9_read 91 = .ok (.ireturn, 1) := by decide +kernel
set_option maxRecDepth 20000 in
theorem ggX9_fits_X9_many : GoodIn wsX9_fits wsX9_many := goodIn_r _ [6] (by decide +kernel) (by decide +kernel)
set_option maxRecDepth 20000 in
theorem gX9_fits_X9_many : GoodIn wsX9_fits (va_wsS RX9 194 yX9_many wsX9_many) := goodIn_app (goodIn_of _ (by decide +kernel)) ggX9_fits_X9_many
set_option maxRecDepth 20000 in
theorem ggX9_fits_X9_in : GoodIn wsX9_fits wsX9_in := goodIn_r _ [9] (by decide +kernel) (by decide +kernel)
set_option maxRecDepth 20000 in
theorem gX9_fits_X9_in : GoodIn wsX9_fits (va_wsS RX9 92 yX9_in wsX9_in) := goodIn_app (goodIn_of _ (by decide +kernel)) ggX9_fits_X9_in
theorem dX9_fits_0 : decode cX9_fits 0 = .ok (.iload_n 2, 1) := by decide +kernel
theorem dX9_fits_1 : decode cX9_fits 1 = .ok (.invokestatic 194, 3) := by decide +kernel
theorem dX9_fits_4 : decode cX9_fits 4 = .ok (.i2l, 1) := by decide +kernel
theorem dX9_fits_5 : decode cX9_fits 5 = .ok (.aload_n 0, 1) := by decide +kernel
theorem dX9_fits_6 : decode cX9_fits 6 = .ok (.getfield 105, 3) := by decide +kernel
theorem dX9_fits_9 : decode cX9_fits 9 = .ok (.i2l, 1) := by decide +kernel
theorem dX9_fits_10 : decode cX9_fits 10 = .ok (.aload_n 0, 1) := by decide +kernel
theorem dX9_fits_11 : decode cX9_fits 11 = .ok (.getfield 13, 3) := by decide +kernel
theorem dX9_fits_14 : decode cX9_fits 14 = .ok (.i2l, 1) := by decide +kernel
theorem dX9_fits_15 : decode cX9_fits 15 = .ok (.invokestatic 92, 3) := by decide +kernel
theorem dX9_fits_18 : decode cX9_fits 18 = .ok (.ifCond .eq 16, 3) := by decide +kernel
theorem dX9_fits_21 : decode cX9_fits 21 = .ok (.iload_n 1, 1) := by decide +kernel
theorem dX9_fits_22 : decode cX9_fits 22 = .ok (.iconst 3, 1) := by decide +kernel
theorem dX9_fits_23 : decode cX9_fits 23 = .ok (.if_icmp .lt 7, 3) := by decide +kernel
theorem dX9_fits_26 : decode cX9_fits 26 = .ok (.iload_n 2, 1) := by decide +kernel
theorem dX9_fits_27 : decode cX9_fits 27 = .ok (.ifCond .eq 7, 3) := by decide +kernel
theorem dX9_fits_30 : decode cX9_fits 30 = .ok (.iconst 1, 1) := by decide +kernel
theorem dX9_fits_31 : decode cX9_fits 31 = .ok (.goto 4, 3) := by decide +kernel
theorem dX9_fits_34 : decode cX9_fits 34 = .ok (.iconst 0, 1) := by decide +kernel
theorem dX9_fits_35 : decode cX9_fits 35 = .ok (.ireturn, 1) := by decide +kernel
theorem dX9_areNested_0 : decode cX9_areNested 0 = .ok (.iload_n 0, 1) := by decide +kernel
theorem dX9_areNested_1 : decode cX9_areNested 1 = .ok (.iload_n 1, 1) := by decide +kernel
theorem dX9_areNested_2 : decode cX9_areNested 2 = .ok (.iand, 1) := by decide +kernel
theorem dX9_areNested_3 : decode cX9_areNested 3 = .ok (.istore_n 2, 1) := by decide +kernel
theorem dX9_areNested_4 : decode cX9_areNested 4 = .ok (.iload_n 0, 1) := by decide +kernel
theorem dX9_areNested_5 : decode cX9_areNested 5 = .ok (.iload_n 1, 1) := by decide +kernel
theorem dX9_areNested_6 : decode cX9_areNested 6 = .ok (.if_icmp .eq 17, 3) := by decide +kernel
theorem dX9_areNested_9 : decode cX9_areNested 9 = .ok (.iload_n 2, 1) := by decide +kernel
theorem dX9_areNested_10 : decode cX9_areNested 10 = .ok (.iload_n 0, 1) := by decide +kernel
theorem dX9_areNested_11 : decode cX9_areNested 11 = .ok (.if_icmp .eq 8, 3) := by decide +kernel
theorem dX9_areNested_14 : decode cX9_areNested 14 = .ok (.iload_n 2, 1) := by decide +kernel
theorem dX9_areNested_15 : decode cX9_areNested 15 = .ok (.iload_n 1, 1) := by decide +kernel
theorem dX9_areNested_16 : decode cX9_areNested 16 = .ok (.if_icmp .ne 7, 3) := by decide +kernel
theorem dX9_areNested_19 : decode cX9_areNested 19 = .ok (.iconst 1, 1) := by decide +kernel
theorem dX9_areNested_20 : decode cX9_areNested 20 = .ok (.goto 4, 3) := by decide +kernel
theorem dX9_areNested_23 : decode cX9_areNested 23 = .ok (.iconst 0, 1) := by decide +kernel
theorem dX9_areNested_24 : decode cX9_areNested 24 = .ok (.ireturn, 1) := by decide +kernel
set_option maxRecDepth 20000 in
theorem ggX9_agree_X9_areNested : GoodIn wsX9_agree wsX9_areNested := goodIn_r _ [4] (by decide +kernel) (by decide +kernel)
set_option maxRecDepth 20000 in
theorem gX9_agree_X9_areNested : GoodIn wsX9_agree (va_wsS RX9 197 yX9_areNested wsX9_areNested) := goodIn_app (goodIn_of _ (by decide +kernel)) ggX9_agree_X9_areNested
theorem dX9_agree_0 : decode cX9_agree 0 = .ok (.iload_n 0, 1) := by decide +kernel
theorem dX9_agree_1 : decode cX9_agree 1 = .ok (.iconst 1, 1) := by decide +kernel
theorem dX9_agree_2 : decode cX9_agree 2 = .ok (.if_icmp .eq 8, 3) := by decide +kernel
theorem dX9_agree_5 : decode cX9_agree 5 = .ok (.iload_n 0, 1) := by decide +kernel
theorem dX9_agree_6 : decode cX9_agree 6 = .ok (.iconst 4, 1) := by decide +kernel
theorem dX9_agree_7 : decode cX9_agree 7 = .ok (.if_icmp .ne 15, 3) := by decide +kernel
theorem dX9_agree_10 : decode cX9_agree 10 = .ok (.iload_n 1, 1) := by decide +kernel
theorem dX9_agree_11 : decode cX9_agree 11 = .ok (.iload_n 2, 1) := by decide +kernel
theorem dX9_agree_12 : decode cX9_agree 12 = .ok (.invokestatic 197, 3) := by decide +kernel
theorem dX9_agree_15 : decode cX9_agree 15 = .ok (.ifCond .eq 7, 3) := by decide +kernel
theorem dX9_agree_18 : decode cX9_agree 18 = .ok (.iconst 1, 1) := by decide +kernel
theorem dX9_agree_19 : decode cX9_agree 19 = .ok (.goto 4, 3) := by decide +kernel
theorem dX9_agree_22 : decode cX9_agree 22 = .ok (.iconst 0, 1) := by decide +kernel
theorem dX9_agree_23 : decode cX9_agree 23 = .ok (.istore_n 3, 1) := by decide +kernel
theorem dX9_agree_24 : decode cX9_agree 24 = .ok (.iload_n 0, 1) := by decide +kernel
theorem dX9_agree_25 : decode cX9_agree 25 = .ok (.iconst 2, 1) := by decide +kernel
theorem dX9_agree_26 : decode cX9_agree 26 = .ok (.if_icmp .le 13, 3) := by decide +kernel
theorem dX9_agree_29 : decode cX9_agree 29 = .ok (.iload_n 1, 1) := by decide +kernel
theorem dX9_agree_30 : decode cX9_agree 30 = .ok (.iload_n 2, 1) := by decide +kernel
theorem dX9_agree_31 : decode cX9_agree 31 = .ok (.iand, 1) := by decide +kernel
theorem dX9_agree_32 : decode cX9_agree 32 = .ok (.ifCond .ne 7, 3) := by decide +kernel
theorem dX9_agree_35 : decode cX9_agree 35 = .ok (.iconst 1, 1) := by decide +kernel
theorem dX9_agree_36 : decode cX9_agree 36 = .ok (.goto 4, 3) := by decide +kernel
theorem dX9_agree_39 : decode cX9_agree 39 = .ok (.iconst 0, 1) := by decide +kernel
theorem dX9_agree_40 : decode cX9_agree 40 = .ok (.istore 4, 2) := by decide +kernel
theorem dX9_agree_42 : decode cX9_agree 42 = .ok (.iload_n 3, 1) := by decide +kernel
theorem dX9_agree_43 : decode cX9_agree 43 = .ok (.ifCond .ne 12, 3) := by decide +kernel
theorem dX9_agree_46 : decode cX9_agree 46 = .ok (.iload 4, 2) := by decide +kernel
theorem dX9_agree_48 : decode cX9_agree 48 = .ok (.ifCond .ne 7, 3) := by decide +kernel
theorem dX9_agree_51 : decode cX9_agree 51 = .ok (.iconst 1, 1) := by decide +kernel
theorem dX9_agree_52 : decode cX9_agree 52 = .ok (.goto 4, 3) := by decide +kernel
theorem dX9_agree_55 : decode cX9_agree 55 = .ok (.iconst 0, 1) := by decide +kernel
theorem dX9_agree_56 : decode cX9_agree 56 = .ok (.ireturn, 1) := by decide +kernel
set_option maxRecDepth 20000 in
theorem ggX9_isChain_X9_areNested : GoodIn wsX9_isChain wsX9_areNested := goodIn_r _ [4] (by decide +kernel) (by decide +kernel)
set_option maxRecDepth 20000 in
theorem gX9_isChain_X9_areNested : GoodIn wsX9_isChain (va_wsS RX9 197 yX9_areNested wsX9_areNested) := goodIn_app (goodIn_of _ (by decide +kernel)) ggX9_isChain_X9_areNested
theorem dX9_isChain_0 : decode cX9_isChain 0 = .ok (.iload_n 0, 1) := by decide +kernel
theorem dX9_isChain_1 : decode cX9_isChain 1 = .ok (.iload_n 1, 1) := by decide +kernel
theorem dX9_isChain_2 : decode cX9_isChain 2 = .ok (.invokestatic 197, 3) := by decide +kernel
theorem dX9_isChain_5 : decode cX9_isChain 5 = .ok (.ifCond .eq 23, 3) := by decide +kernel
theorem dX9_isChain_8 : decode cX9_isChain 8 = .ok (.iload_n 1, 1) := by decide +kernel
theorem dX9_isChain_9 : decode cX9_isChain 9 = .ok (.iload_n 2, 1) := by decide +kernel
theorem dX9_isChain_10 : decode cX9_isChain 10 = .ok (.invokestatic 197, 3) := by decide +kernel
theorem dX9_isChain_13 : decode cX9_isChain 13 = .ok (.ifCond .eq 15, 3) := by decide +kernel
theorem dX9_isChain_16 : decode cX9_isChain 16 = .ok (.iload_n 0, 1) := by decide +kernel
theorem dX9_isChain_17 : decode cX9_isChain 17 = .ok (.iload_n 2, 1) := by decide +kernel
theorem dX9_isChain_18 : decode cX9_isChain 18 = .ok (.invokestatic 197, 3) := by decide +kernel
theorem dX9_isChain_21 : decode cX9_isChain 21 = .ok (.ifCond .eq 7, 3) := by decide +kernel
theorem dX9_isChain_24 : decode cX9_isChain 24 = .ok (.iconst 1, 1) := by decide +kernel
theorem dX9_isChain_25 : decode cX9_isChain 25 = .ok (.goto 4, 3) := by decide +kernel
theorem dX9_isChain_28 : decode cX9_isChain 28 = .ok (.iconst 0, 1) := by decide +kernel
theorem dX9_isChain_29 : decode cX9_isChain 29 = .ok (.ireturn, 1) := by decide +kernel
set_option maxRecDepth 20000 in
theorem ggX9_breaks_X9_fits : GoodIn wsX9_breaks wsX9_fits := goodIn_r _ [8, 9, 10, 11, 12, 7, 13, 14, 15, 16, 26, 27, 28, 29, 30, 31, 32, 33, 34, 35, 36, 37, 38, 39, 40, 41, 42, 43, 44, 45, 46, 47, 48, 49, 50, 51, 52, 53, 54, 55, 56, 57, 58, 59, 60, 61, 62, 63, 64, 65, 66, 67, 68, 69, 70, 71, 72, 73, 74, 75, 76] (by decide +kernel) (by decide +kernel)
set_option maxRecDepth 20000 in
theorem gX9_breaks_X9_fits : GoodIn wsX9_breaks (wsV RX9 200 RX9 yX9_fits wsX9_fits) := goodIn_app (goodIn_of _ (by decide +kernel)) ggX9_breaks_X9_fits
set_option maxRecDepth 20000 in
theorem ggX9_breaks_X9_agree : GoodIn wsX9_breaks wsX9_agree := goodIn_r _ [19, 20, 21, 7, 22] (by decide +kernel) (by decide +kernel)
set_option maxRecDepth 20000 in
theorem gX9_breaks_X9_agree : GoodIn wsX9_breaks (va_wsS RX9 206 yX9_agree wsX9_agree) := goodIn_app (goodIn_of _ (by decide +kernel)) ggX9_breaks_X9_agree
set_option maxRecDepth 20000 in
theorem ggX9_breaks_X9_isChain : GoodIn wsX9_breaks wsX9_isChain := goodIn_r _ [25, 20, 21, 7, 22] (by decide +kernel) (by decide +kernel)
set_option maxRecDepth 20000 in
theorem gX9_breaks_X9_isChain : GoodIn wsX9_breaks (va_wsS RX9 210 yX9_isChain wsX9_isChain) := goodIn_app (goodIn_of _ (by decide +kernel)) ggX9_breaks_X9_isChain
theorem dX9_breaks_0 : decode cX9_breaks 0 = .ok (.iconst 0, 1) := by decide +kernel
theorem dX9_breaks_1 : decode cX9_breaks 1 = .ok (.istore_n 2, 1) := by decide +kernel
theorem dX9_breaks_2 : decode cX9_breaks 2 = .ok (.iload_n 2, 1) := by decide +kernel
theorem dX9_breaks_3 : decode cX9_breaks 3 = .ok (.aload_n 0, 1) := by decide +kernel
theorem dX9_breaks_4 : decode cX9_breaks 4 = .ok (.getfield 102, 3) := by decide +kernel
theorem dX9_breaks_7 : decode cX9_breaks 7 = .ok (.if_icmp .ge 30, 3) := by decide +kernel
theorem dX9_breaks_10 : decode cX9_breaks 10 = .ok (.aload_n 0, 1) := by decide +kernel
theorem dX9_breaks_11 : decode cX9_breaks 11 = .ok (.iload_n 1, 1) := by decide +kernel
theorem dX9_breaks_12 : decode cX9_breaks 12 = .ok (.aload_n 0, 1) := by decide +kernel
theorem dX9_breaks_13 : decode cX9_breaks 13 = .ok (.getfield 16, 3) := by decide +kernel
theorem dX9_breaks_16 : decode cX9_breaks 16 = .ok (.iload_n 2, 1) := by decide +kernel
theorem dX9_breaks_17 : decode cX9_breaks 17 = .ok (.iaload, 1) := by decide +kernel
theorem dX9_breaks_18 : decode cX9_breaks 18 = .ok (.invokevirtual 200, 3) := by decide +kernel
theorem dX9_breaks_21 : decode cX9_breaks 21 = .ok (.ifCond .ne 10, 3) := by decide +kernel
theorem dX9_breaks_24 : decode cX9_breaks 24 = .ok (.aload_n 0, 1) := by decide +kernel
theorem dX9_breaks_25 : decode cX9_breaks 25 = .ok (.iconst 1, 1) := by decide +kernel
theorem dX9_breaks_26 : decode cX9_breaks 26 = .ok (.putfield 203, 3) := by decide +kernel
theorem dX9_breaks_29 : decode cX9_breaks 29 = .ok (.iload_n 2, 1) := by decide +kernel
theorem dX9_breaks_30 : decode cX9_breaks 30 = .ok (.ireturn, 1) := by decide +kernel
theorem dX9_breaks_31 : decode cX9_breaks 31 = .ok (.iinc 2 1, 3) := by decide +kernel
theorem dX9_breaks_34 : decode cX9_breaks 34 = .ok (.goto (-32), 3) := by decide +kernel
theorem dX9_breaks_37 : decode cX9_breaks 37 = .ok (.iconst 0, 1) := by decide +kernel
theorem dX9_breaks_38 : decode cX9_breaks 38 = .ok (.istore_n 2, 1) := by decide +kernel
theorem dX9_breaks_39 : decode cX9_breaks 39 = .ok (.iload_n 2, 1) := by decide +kernel
theorem dX9_breaks_40 : decode cX9_breaks 40 = .ok (.aload_n 0, 1) := by decide +kernel
theorem dX9_breaks_41 : decode cX9_breaks 41 = .ok (.getfield 102, 3) := by decide +kernel
theorem dX9_breaks_44 : decode cX9_breaks 44 = .ok (.if_icmp .ge 58, 3) := by decide +kernel
theorem dX9_breaks_47 : decode cX9_breaks 47 = .ok (.iload_n 2, 1) := by decide +kernel
theorem dX9_breaks_48 : decode cX9_breaks 48 = .ok (.iconst 1, 1) := by decide +kernel
theorem dX9_breaks_49 : decode cX9_breaks 49 = .ok (.iadd, 1) := by decide +kernel
theorem dX9_breaks_50 : decode cX9_breaks 50 = .ok (.istore_n 3, 1) := by decide +kernel
theorem dX9_breaks_51 : decode cX9_breaks 51 = .ok (.iload_n 3, 1) := by decide +kernel
theorem dX9_breaks_52 : decode cX9_breaks 52 = .ok (.aload_n 0, 1) := by decide +kernel
theorem dX9_breaks_53 : decode cX9_breaks 53 = .ok (.getfield 102, 3) := by decide +kernel
theorem dX9_breaks_56 : decode cX9_breaks 56 = .ok (.if_icmp .ge 40, 3) := by decide +kernel
theorem dX9_breaks_59 : decode cX9_breaks 59 = .ok (.iload_n 1, 1) := by decide +kernel
theorem dX9_breaks_60 : decode cX9_breaks 60 = .ok (.aload_n 0, 1) := by decide +kernel
theorem dX9_breaks_61 : decode cX9_breaks 61 = .ok (.getfield 16, 3) := by decide +kernel
theorem dX9_breaks_64 : decode cX9_breaks 64 = .ok (.iload_n 2, 1) := by decide +kernel
theorem dX9_breaks_65 : decode cX9_breaks 65 = .ok (.iaload, 1) := by decide +kernel
theorem dX9_breaks_66 : decode cX9_breaks 66 = .ok (.aload_n 0, 1) := by decide +kernel
theorem dX9_breaks_67 : decode cX9_breaks 67 = .ok (.getfield 16, 3) := by decide +kernel
theorem dX9_breaks_70 : decode cX9_breaks 70 = .ok (.iload_n 3, 1) := by decide +kernel
theorem dX9_breaks_71 : decode cX9_breaks 71 = .ok (.iaload, 1) := by decide +kernel
theorem dX9_breaks_72 : decode cX9_breaks 72 = .ok (.invokestatic 206, 3) := by decide +kernel
theorem dX9_breaks_75 : decode cX9_breaks 75 = .ok (.ifCond .ne 15, 3) := by decide +kernel
theorem dX9_breaks_78 : decode cX9_breaks 78 = .ok (.aload_n 0, 1) := by decide +kernel
theorem dX9_breaks_79 : decode cX9_breaks 79 = .ok (.iconst 2, 1) := by decide +kernel
theorem dX9_breaks_80 : decode cX9_breaks 80 = .ok (.putfield 203, 3) := by decide +kernel
theorem dX9_breaks_83 : decode cX9_breaks 83 = .ok (.bipush 100, 2) := by decide +kernel
theorem dX9_breaks_85 : decode cX9_breaks 85 = .ok (.iload_n 2, 1) := by decide +kernel
theorem dX9_breaks_86 : decode cX9_breaks 86 = .ok (.imul, 1) := by decide +kernel
theorem dX9_breaks_87 : decode cX9_breaks 87 = .ok (.iload_n 3, 1) := by decide +kernel
theorem dX9_breaks_88 : decode cX9_breaks 88 = .ok (.iadd, 1) := by decide +kernel
theorem dX9_breaks_89 : decode cX9_breaks 89 = .ok (.ireturn, 1) := by decide +kernel
theorem dX9_breaks_90 : decode cX9_breaks 90 = .ok (.iinc 3 1, 3) := by decide +kernel
theorem dX9_breaks_93 : decode cX9_breaks 93 = .ok (.goto (-42), 3) := by decide +kernel
theorem dX9_breaks_96 : decode cX9_breaks 96 = .ok (.iinc 2 1, 3) := by decide +kernel
theorem dX9_breaks_99 : decode cX9_breaks 99 = .ok (.goto (-60), 3) := by decide +kernel
theorem dX9_breaks_102 : decode cX9_breaks 102 = .ok (.iconst 0, 1) := by decide +kernel
theorem dX9_breaks_103 : decode cX9_breaks 103 = .ok (.istore_n 2, 1) := by decide +kernel
theorem dX9_breaks_104 : decode cX9_breaks 104 = .ok (.iload_n 2, 1) := by decide +kernel
theorem dX9_breaks_105 : decode cX9_breaks 105 = .ok (.aload_n 0, 1) := by decide +kernel
theorem dX9_breaks_106 : decode cX9_breaks 106 = .ok (.getfield 102, 3) := by decide +kernel
theorem dX9_breaks_109 : decode cX9_breaks 109 = .ok (.aload_n 0, 1) := by decide +kernel
theorem dX9_breaks_110 : decode cX9_breaks 110 = .ok (.getfield 102, 3) := by decide +kernel
theorem dX9_breaks_113 : decode cX9_breaks 113 = .ok (.imul, 1) := by decide +kernel
theorem dX9_breaks_114 : decode cX9_breaks 114 = .ok (.aload_n 0, 1) := by decide +kernel
theorem dX9_breaks_115 : decode cX9_breaks 115 = .ok (.getfield 102, 3) := by decide +kernel
theorem dX9_breaks_118 : decode cX9_breaks 118 = .ok (.imul, 1) := by decide +kernel
theorem dX9_breaks_119 : decode cX9_breaks 119 = .ok (.if_icmp .ge 106, 3) := by decide +kernel
theorem dX9_breaks_122 : decode cX9_breaks 122 = .ok (.iload_n 1, 1) := by decide +kernel
theorem dX9_breaks_123 : decode cX9_breaks 123 = .ok (.iconst 2, 1) := by decide +kernel
theorem dX9_breaks_124 : decode cX9_breaks 124 = .ok (.if_icmp .ne 101, 3) := by decide +kernel
theorem dX9_breaks_127 : decode cX9_breaks 127 = .ok (.iload_n 2, 1) := by decide +kernel
theorem dX9_breaks_128 : decode cX9_breaks 128 = .ok (.aload_n 0, 1) := by decide +kernel
theorem dX9_breaks_129 : decode cX9_breaks 129 = .ok (.getfield 102, 3) := by decide +kernel
theorem dX9_breaks_132 : decode cX9_breaks 132 = .ok (.idiv, 1) := by decide +kernel
theorem dX9_breaks_133 : decode cX9_breaks 133 = .ok (.aload_n 0, 1) := by decide +kernel
theorem dX9_breaks_134 : decode cX9_breaks 134 = .ok (.getfield 102, 3) := by decide +kernel
theorem dX9_breaks_137 : decode cX9_breaks 137 = .ok (.idiv, 1) := by decide +kernel
theorem dX9_breaks_138 : decode cX9_breaks 138 = .ok (.istore_n 3, 1) := by decide +kernel
theorem dX9_breaks_139 : decode cX9_breaks 139 = .ok (.iload_n 2, 1) := by decide +kernel
theorem dX9_breaks_140 : decode cX9_breaks 140 = .ok (.aload_n 0, 1) := by decide +kernel
theorem dX9_breaks_141 : decode cX9_breaks 141 = .ok (.getfield 102, 3) := by decide +kernel
theorem dX9_breaks_144 : decode cX9_breaks 144 = .ok (.idiv, 1) := by decide +kernel
theorem dX9_breaks_145 : decode cX9_breaks 145 = .ok (.aload_n 0, 1) := by decide +kernel
theorem dX9_breaks_146 : decode cX9_breaks 146 = .ok (.getfield 102, 3) := by decide +kernel
theorem dX9_breaks_149 : decode cX9_breaks 149 = .ok (.irem, 1) := by decide +kernel
theorem dX9_breaks_150 : decode cX9_breaks 150 = .ok (.istore 4, 2) := by decide +kernel
theorem dX9_breaks_152 : decode cX9_breaks 152 = .ok (.iload_n 2, 1) := by decide +kernel
theorem dX9_breaks_153 : decode cX9_breaks 153 = .ok (.aload_n 0, 1) := by decide +kernel
theorem dX9_breaks_154 : decode cX9_breaks 154 = .ok (.getfield 102, 3) := by decide +kernel
theorem dX9_breaks_157 : decode cX9_breaks 157 = .ok (.irem, 1) := by decide +kernel
theorem dX9_breaks_158 : decode cX9_breaks 158 = .ok (.istore 5, 2) := by decide +kernel
theorem dX9_breaks_160 : decode cX9_breaks 160 = .ok (.iload_n 3, 1) := by decide +kernel
theorem dX9_breaks_161 : decode cX9_breaks 161 = .ok (.iload 4, 2) := by decide +kernel
theorem dX9_breaks_163 : decode cX9_breaks 163 = .ok (.if_icmp .ge 56, 3) := by decide +kernel
theorem dX9_breaks_166 : decode cX9_breaks 166 = .ok (.iload 4, 2) := by decide +kernel
theorem dX9_breaks_168 : decode cX9_breaks 168 = .ok (.iload 5, 2) := by decide +kernel
theorem dX9_breaks_170 : decode cX9_breaks 170 = .ok (.if_icmp .ge 49, 3) := by decide +kernel
theorem dX9_breaks_173 : decode cX9_breaks 173 = .ok (.aload_n 0, 1) := by decide +kernel
theorem dX9_breaks_174 : decode cX9_breaks 174 = .ok (.getfield 16, 3) := by decide +kernel
theorem dX9_breaks_177 : decode cX9_breaks 177 = .ok (.iload_n 3, 1) := by decide +kernel
theorem dX9_breaks_178 : decode cX9_breaks 178 = .ok (.iaload, 1) := by decide +kernel
theorem dX9_breaks_179 : decode cX9_breaks 179 = .ok (.aload_n 0, 1) := by decide +kernel
theorem dX9_breaks_180 : decode cX9_breaks 180 = .ok (.getfield 16, 3) := by decide +kernel
theorem dX9_breaks_183 : decode cX9_breaks 183 = .ok (.iload 4, 2) := by decide +kernel
theorem dX9_breaks_185 : decode cX9_breaks 185 = .ok (.iaload, 1) := by decide +kernel
theorem dX9_breaks_186 : decode cX9_breaks 186 = .ok (.aload_n 0, 1) := by decide +kernel
theorem dX9_breaks_187 : decode cX9_breaks 187 = .ok (.getfield 16, 3) := by decide +kernel
theorem dX9_breaks_190 : decode cX9_breaks 190 = .ok (.iload 5, 2) := by decide +kernel
theorem dX9_breaks_192 : decode cX9_breaks 192 = .ok (.iaload, 1) := by decide +kernel
theorem dX9_breaks_193 : decode cX9_breaks 193 = .ok (.invokestatic 210, 3) := by decide +kernel
theorem dX9_breaks_196 : decode cX9_breaks 196 = .ok (.ifCond .eq 23, 3) := by decide +kernel
theorem dX9_breaks_199 : decode cX9_breaks 199 = .ok (.aload_n 0, 1) := by decide +kernel
theorem dX9_breaks_200 : decode cX9_breaks 200 = .ok (.iconst 3, 1) := by decide +kernel
theorem dX9_breaks_201 : decode cX9_breaks 201 = .ok (.putfield 203, 3) := by decide +kernel
theorem dX9_breaks_204 : decode cX9_breaks 204 = .ok (.sipush 10000, 3) := by decide +kernel
theorem dX9_breaks_207 : decode cX9_breaks 207 = .ok (.iload_n 3, 1) := by decide +kernel
theorem dX9_breaks_208 : decode cX9_breaks 208 = .ok (.imul, 1) := by decide +kernel
theorem dX9_breaks_209 : decode cX9_breaks 209 = .ok (.bipush 100, 2) := by decide +kernel
theorem dX9_breaks_211 : decode cX9_breaks 211 = .ok (.iload 4, 2) := by decide +kernel
theorem dX9_breaks_213 : decode cX9_breaks 213 = .ok (.imul, 1) := by decide +kernel
theorem dX9_breaks_214 : decode cX9_breaks 214 = .ok (.iadd, 1) := by decide +kernel
theorem dX9_breaks_215 : decode cX9_breaks 215 = .ok (.iload 5, 2) := by decide +kernel
theorem dX9_breaks_217 : decode cX9_breaks 217 = .ok (.iadd, 1) := by decide +kernel
theorem dX9_breaks_218 : decode cX9_breaks 218 = .ok (.ireturn, 1) := by decide +kernel
theorem dX9_breaks_219 : decode cX9_breaks 219 = .ok (.iinc 2 1, 3) := by decide +kernel
theorem dX9_breaks_222 : decode cX9_breaks 222 = .ok (.goto (-118), 3) := by decide +kernel
theorem dX9_breaks_225 : decode cX9_breaks 225 = .ok (.aload_n 0, 1) := by decide +kernel
theorem dX9_breaks_226 : decode cX9_breaks 226 = .ok (.iconst 0, 1) := by decide +kernel
theorem dX9_breaks_227 : decode cX9_breaks 227 = .ok (.putfield 203, 3) := by decide +kernel
theorem dX9_breaks_230 : decode cX9_breaks 230 = .ok (.iconst (-1), 1) := by decide +kernel
theorem dX9_breaks_231 : decode cX9_breaks 231 = .ok (.ireturn, 1) := by decide +kernel
set_option maxRecDepth 20000 in
theorem ggX9_judge_X9_isLaw : GoodIn wsX9_judge wsX9_isLaw := goodIn_r _ [5, 6, 7, 8, 4, 9] (by decide +kernel) (by decide +kernel)
set_option maxRecDepth 20000 in
theorem gX9_judge_X9_isLaw : GoodIn wsX9_judge (va_wsS RX9 213 yX9_isLaw wsX9_isLaw) := goodIn_app (goodIn_of _ (by decide +kernel)) ggX9_judge_X9_isLaw
set_option maxRecDepth 20000 in
theorem ggX9_judge_X9_in : GoodIn wsX9_judge wsX9_in := goodIn_r _ [9] (by decide +kernel) (by decide +kernel)
set_option maxRecDepth 20000 in
theorem gX9_judge_X9_in : GoodIn wsX9_judge (va_wsS RX9 92 yX9_in wsX9_in) := goodIn_app (goodIn_of _ (by decide +kernel)) ggX9_judge_X9_in
set_option maxRecDepth 20000 in
theorem ggX9_judge_X9_refuse : GoodIn wsX9_judge wsX9_refuse := goodIn_r _ [13, 14, 39, 40, 41, 42, 43, 44, 45, 46, 47, 48, 49, 50, 51, 52, 53, 54, 55, 56, 57, 58, 59, 60, 61, 62, 63, 64, 65, 66, 67, 68, 69, 70, 71, 72, 73, 74, 75, 76, 77, 78, 79, 80, 81, 82, 83, 84, 85, 86, 87, 88, 89] (by decide +kernel) (by decide +kernel)
set_option maxRecDepth 20000 in
theorem gX9_judge_X9_refuse : GoodIn wsX9_judge (wsV RX9 98 RX9 yX9_refuse wsX9_refuse) := goodIn_app (goodIn_of _ (by decide +kernel)) ggX9_judge_X9_refuse
set_option maxRecDepth 20000 in
theorem ggX9_judge_X9_breaks : GoodIn wsX9_judge wsX9_breaks := goodIn_r _ [18, 19, 20, 1, 21, 22, 23, 4, 24, 25, 26, 27, 28, 29, 7, 8, 9, 30, 31, 32, 33, 34, 35, 36, 37, 38, 39, 40, 41, 42, 43, 44, 45, 46, 47, 48, 49, 50, 51, 52, 53, 54, 55, 56, 57, 58, 59, 60, 61, 62, 63, 64, 65, 66, 67, 68, 69, 70, 71, 72, 73, 74, 75, 76, 77, 78, 79, 80, 81, 82, 83, 84, 85, 86, 87, 88, 89] (by decide +kernel) (by decide +kernel)
set_option maxRecDepth 20000 in
theorem gX9_judge_X9_breaks : GoodIn wsX9_judge (wsV RX9 216 RX9 yX9_breaks wsX9_breaks) := goodIn_app (goodIn_of _ (by decide +kernel)) ggX9_judge_X9_breaks
theorem dX9_judge_0 : decode cX9_judge 0 = .ok (.iload_n 1, 1) := by decide +kernel
theorem dX9_judge_1 : decode cX9_judge 1 = .ok (.invokestatic 213, 3) := by decide +kernel
theorem dX9_judge_4 : decode cX9_judge 4 = .ok (.ifCond .eq 13, 3) := by decide +kernel
theorem dX9_judge_7 : decode cX9_judge 7 = .ok (.iload_n 2, 1) := by decide +kernel
theorem dX9_judge_8 : decode cX9_judge 8 = .ok (.i2l, 1) := by decide +kernel
theorem dX9_judge_9 : decode cX9_judge 9 = .ok (.lconst 0, 1) := by decide +kernel
theorem dX9_judge_10 : decode cX9_judge 10 = .ok (.lconst 1, 1) := by decide +kernel
theorem dX9_judge_11 : decode cX9_judge 11 = .ok (.invokestatic 92, 3) := by decide +kernel
theorem dX9_judge_14 : decode cX9_judge 14 = .ok (.ifCond .ne 10, 3) := by decide +kernel
theorem dX9_judge_17 : decode cX9_judge 17 = .ok (.aload_n 0, 1) := by decide +kernel
theorem dX9_judge_18 : decode cX9_judge 18 = .ok (.bipush (-2), 2) := by decide +kernel
theorem dX9_judge_20 : decode cX9_judge 20 = .ok (.invokevirtual 98, 3) := by decide +kernel
theorem dX9_judge_23 : decode cX9_judge 23 = .ok (.ireturn, 1) := by decide +kernel
theorem dX9_judge_24 : decode cX9_judge 24 = .ok (.aload_n 0, 1) := by decide +kernel
theorem dX9_judge_25 : decode cX9_judge 25 = .ok (.iload_n 1, 1) := by decide +kernel
theorem dX9_judge_26 : decode cX9_judge 26 = .ok (.invokevirtual 216, 3) := by decide +kernel
theorem dX9_judge_29 : decode cX9_judge 29 = .ok (.istore_n 3, 1) := by decide +kernel
theorem dX9_judge_30 : decode cX9_judge 30 = .ok (.iload_n 2, 1) := by decide +kernel
theorem dX9_judge_31 : decode cX9_judge 31 = .ok (.ifCond .eq 8, 3) := by decide +kernel
theorem dX9_judge_34 : decode cX9_judge 34 = .ok (.iload_n 3, 1) := by decide +kernel
theorem dX9_judge_35 : decode cX9_judge 35 = .ok (.iconst (-1), 1) := by decide +kernel
theorem dX9_judge_36 : decode cX9_judge 36 = .ok (.if_icmp .ne 7, 3) := by decide +kernel
theorem dX9_judge_39 : decode cX9_judge 39 = .ok (.iload_n 3, 1) := by decide +kernel
theorem dX9_judge_40 : decode cX9_judge 40 = .ok (.goto 7, 3) := by decide +kernel
theorem dX9_judge_43 : decode cX9_judge 43 = .ok (.aload_n 0, 1) := by decide +kernel
theorem dX9_judge_44 : decode cX9_judge 44 = .ok (.getfield 203, 3) := by decide +kernel
theorem dX9_judge_47 : decode cX9_judge 47 = .ok (.ireturn, 1) := by decide +kernel
theorem dX9_divisor_0 : decode cX9_divisor 0 = .ok (.lload_n 0, 1) := by decide +kernel
theorem dX9_divisor_1 : decode cX9_divisor 1 = .ok (.lstore 4, 2) := by decide +kernel
theorem dX9_divisor_3 : decode cX9_divisor 3 = .ok (.lload_n 2, 1) := by decide +kernel
theorem dX9_divisor_4 : decode cX9_divisor 4 = .ok (.lstore 6, 2) := by decide +kernel
theorem dX9_divisor_6 : decode cX9_divisor 6 = .ok (.lload 6, 2) := by decide +kernel
theorem dX9_divisor_8 : decode cX9_divisor 8 = .ok (.lconst 0, 1) := by decide +kernel
theorem dX9_divisor_9 : decode cX9_divisor 9 = .ok (.lcmp, 1) := by decide +kernel
theorem dX9_divisor_10 : decode cX9_divisor 10 = .ok (.ifCond .eq 21, 3) := by decide +kernel
