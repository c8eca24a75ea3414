theorem dX9_mayCome_47 : decode cX9_mayCome 47 = .ok (.iconst 2, 1) := by decide +kernel
theorem dX9_mayCome_48 : decode cX9_mayCome 48 = .ok (.if_icmp .ne 40, 3) := by decide +kernel
theorem dX9_mayCome_51 : decode cX9_mayCome 51 = .ok (.iload_n 3, 1) := by decide +kernel
theorem dX9_mayCome_52 : decode cX9_mayCome 52 = .ok (.ifCond .eq 28, 3) := by decide +kernel
theorem dX9_mayCome_55 : decode cX9_mayCome 55 = .ok (.iload_n 2, 1) := by decide +kernel
theorem dX9_mayCome_56 : decode cX9_mayCome 56 = .ok (.aload_n 0, 1) := by decide +kernel
theorem dX9_mayCome_57 : decode cX9_mayCome 57 = .ok (.getfield 16, 3) := by decide +kernel
theorem dX9_mayCome_60 : decode cX9_mayCome 60 = .ok (.iload 4, 2) := by decide +kernel
theorem dX9_mayCome_62 : decode cX9_mayCome 62 = .ok (.iaload, 1) := by decide +kernel
theorem dX9_mayCome_63 : decode cX9_mayCome 63 = .ok (.aload_n 0, 1) := by decide +kernel
theorem dX9_mayCome_64 : decode cX9_mayCome 64 = .ok (.getfield 16, 3) := by decide +kernel
theorem dX9_mayCome_67 : decode cX9_mayCome 67 = .ok (.iload 5, 2) := by decide +kernel
theorem dX9_mayCome_69 : decode cX9_mayCome 69 = .ok (.iaload, 1) := by decide +kernel
theorem dX9_mayCome_70 : decode cX9_mayCome 70 = .ok (.invokestatic 210, 3) := by decide +kernel
theorem dX9_mayCome_73 : decode cX9_mayCome 73 = .ok (.ifCond .ne 7, 3) := by decide +kernel
theorem dX9_mayCome_76 : decode cX9_mayCome 76 = .ok (.iconst 1, 1) := by decide +kernel
theorem dX9_mayCome_77 : decode cX9_mayCome 77 = .ok (.goto 4, 3) := by decide +kernel
theorem dX9_mayCome_80 : decode cX9_mayCome 80 = .ok (.iconst 0, 1) := by decide +kernel
theorem dX9_mayCome_81 : decode cX9_mayCome 81 = .ok (.istore_n 3, 1) := by decide +kernel
theorem dX9_mayCome_82 : decode cX9_mayCome 82 = .ok (.iinc 5 1, 3) := by decide +kernel
theorem dX9_mayCome_85 : decode cX9_mayCome 85 = .ok (.goto (-46), 3) := by decide +kernel
theorem dX9_mayCome_88 : decode cX9_mayCome 88 = .ok (.iinc 4 1, 3) := by decide +kernel
theorem dX9_mayCome_91 : decode cX9_mayCome 91 = .ok (.goto (-81), 3) := by decide +kernel
theorem dX9_mayCome_94 : decode cX9_mayCome 94 = .ok (.iload_n 3, 1) := by decide +kernel
theorem dX9_mayCome_95 : decode cX9_mayCome 95 = .ok (.ireturn, 1) := by decide +kernel
set_option maxRecDepth 20000 in
theorem ggX9_lists_X9_isLaw : GoodIn wsX9_lists wsX9_isLaw := goodIn_r _ [10, 11, 12, 13, 9, 14] (by decide +kernel) (by decide +kernel)
set_option maxRecDepth 20000 in
theorem gX9_lists_X9_isLaw : GoodIn wsX9_lists (va_wsS RX9 213 yX9_isLaw wsX9_isLaw) := goodIn_app (goodIn_of _ (by decide +kernel)) ggX9_lists_X9_isLaw
set_option maxRecDepth 20000 in
theorem ggX9_lists_X9_in : GoodIn wsX9_lists wsX9_in := goodIn_r _ [14] (by decide +kernel) (by decide +kernel)
set_option maxRecDepth 20000 in
theorem gX9_lists_X9_in : GoodIn wsX9_lists (va_wsS RX9 92 yX9_in wsX9_in) := goodIn_app (goodIn_of _ (by decide +kernel)) ggX9_lists_X9_in
set_option maxRecDepth 20000 in
theorem ggX9_lists_X9_refuse : GoodIn wsX9_lists wsX9_refuse := goodIn_r _ [18, 19, 68, 69, 70, 71, 72, 73, 74, 75, 76, 77, 78, 79, 80, 81, 82, 83, 84, 85, 86, 87, 88, 89, 90, 91, 92, 93, 94, 95, 96, 97, 98, 99, 100, 101, 102, 103, 104, 105, 106, 107, 108, 109, 110, 111, 112, 113, 114, 115, 116, 117, 118] (by decide +kernel) (by decide +kernel)
set_option maxRecDepth 20000 in
theorem gX9_lists_X9_refuse : GoodIn wsX9_lists (wsV RX9 98 RX9 yX9_refuse wsX9_refuse) := goodIn_app (goodIn_of _ (by decide +kernel)) ggX9_lists_X9_refuse
set_option maxRecDepth 20000 in
theorem ggX9_lists_X9_lay : GoodIn wsX9_lists wsX9_lay := goodIn_r _ [23, 2, 24, 25, 26, 27, 28, 29, 30, 31, 9, 32, 33, 34, 35, 36, 37, 38, 39, 40, 41, 42, 12, 13, 14, 43, 44, 45, 46, 47, 48, 68, 69, 70, 71, 72, 73, 74, 75, 76, 77, 78, 79, 80, 81, 82, 83, 84, 85, 86, 87, 88, 89, 90, 91, 92, 93, 94, 95, 96, 97, 98, 99, 100, 101, 102, 103, 104, 105, 106, 107, 108, 109, 110, 111, 112, 113, 114, 115, 116, 117, 118] (by decide +kernel) (by decide +kernel)
set_option maxRecDepth 20000 in
theorem gX9_lists_X9_lay : GoodIn wsX9_lists (wsV RX9 278 RX9 yX9_lay wsX9_lay) := goodIn_app (goodIn_of _ (by decide +kernel)) ggX9_lists_X9_lay
set_option maxRecDepth 20000 in
theorem ggX9_lists_X9_goThrough : GoodIn wsX9_lists wsX9_goThrough := goodIn_r _ [52, 3, 4, 5, 6, 53, 54, 55, 56, 26, 25, 57, 58, 59, 9, 60, 61, 62, 63, 40, 41, 42, 64, 65, 66, 67, 28, 27, 68, 69, 70, 71, 72, 73, 74, 75, 76, 77, 78, 79, 80, 81, 82, 83, 84, 85, 86, 87, 88, 89, 90, 91, 92, 93, 94, 95, 96, 97, 98, 99, 100, 101, 102, 103, 104, 105, 106, 107, 108, 109, 110, 111, 112, 113, 114, 115, 116, 117, 118] (by decide +kernel) (by decide +kernel)
set_option maxRecDepth 20000 in
theorem gX9_lists_X9_goThrough : GoodIn wsX9_lists (wsV RX9 282 RX9 yX9_goThrough wsX9_goThrough) := goodIn_app (goodIn_of _ (by decide +kernel)) ggX9_lists_X9_goThrough
theorem dX9_lists_0 : decode cX9_lists 0 = .ok (.iload_n 1, 1) := by decide +kernel
theorem dX9_lists_1 : decode cX9_lists 1 = .ok (.invokestatic 213, 3) := by decide +kernel
theorem dX9_lists_4 : decode cX9_lists 4 = .ok (.ifCond .eq 15, 3) := by decide +kernel
theorem dX9_lists_7 : decode cX9_lists 7 = .ok (.iload_n 2, 1) := by decide +kernel
theorem dX9_lists_8 : decode cX9_lists 8 = .ok (.i2l, 1) := by decide +kernel
theorem dX9_lists_9 : decode cX9_lists 9 = .ok (.lconst 0, 1) := by decide +kernel
theorem dX9_lists_10 : decode cX9_lists 10 = .ok (.ldc2_w 276, 3) := by decide +kernel
theorem dX9_lists_13 : decode cX9_lists 13 = .ok (.invokestatic 92, 3) := by decide +kernel
theorem dX9_lists_16 : decode cX9_lists 16 = .ok (.ifCond .ne 10, 3) := by decide +kernel
theorem dX9_lists_19 : decode cX9_lists 19 = .ok (.aload_n 0, 1) := by decide +kernel
theorem dX9_lists_20 : decode cX9_lists 20 = .ok (.bipush (-2), 2) := by decide +kernel
theorem dX9_lists_22 : decode cX9_lists 22 = .ok (.invokevirtual 98, 3) := by decide +kernel
theorem dX9_lists_25 : decode cX9_lists 25 = .ok (.ireturn, 1) := by decide +kernel
theorem dX9_lists_26 : decode cX9_lists 26 = .ok (.aload_n 0, 1) := by decide +kernel
theorem dX9_lists_27 : decode cX9_lists 27 = .ok (.getfield 7, 3) := by decide +kernel
theorem dX9_lists_30 : decode cX9_lists 30 = .ok (.iconst 4, 1) := by decide +kernel
theorem dX9_lists_31 : decode cX9_lists 31 = .ok (.if_icmp .le 10, 3) := by decide +kernel
theorem dX9_lists_34 : decode cX9_lists 34 = .ok (.aload_n 0, 1) := by decide +kernel
theorem dX9_lists_35 : decode cX9_lists 35 = .ok (.bipush (-3), 2) := by decide +kernel
theorem dX9_lists_37 : decode cX9_lists 37 = .ok (.invokevirtual 98, 3) := by decide +kernel
theorem dX9_lists_40 : decode cX9_lists 40 = .ok (.ireturn, 1) := by decide +kernel
theorem dX9_lists_41 : decode cX9_lists 41 = .ok (.aload_n 0, 1) := by decide +kernel
theorem dX9_lists_42 : decode cX9_lists 42 = .ok (.iload_n 1, 1) := by decide +kernel
theorem dX9_lists_43 : decode cX9_lists 43 = .ok (.iconst 1, 1) := by decide +kernel
theorem dX9_lists_44 : decode cX9_lists 44 = .ok (.iconst 1, 1) := by decide +kernel
theorem dX9_lists_45 : decode cX9_lists 45 = .ok (.invokevirtual 278, 3) := by decide +kernel
theorem dX9_lists_48 : decode cX9_lists 48 = .ok (.aload_n 0, 1) := by decide +kernel
theorem dX9_lists_49 : decode cX9_lists 49 = .ok (.iload_n 1, 1) := by decide +kernel
theorem dX9_lists_50 : decode cX9_lists 50 = .ok (.iconst 0, 1) := by decide +kernel
theorem dX9_lists_51 : decode cX9_lists 51 = .ok (.iconst 1, 1) := by decide +kernel
theorem dX9_lists_52 : decode cX9_lists 52 = .ok (.invokevirtual 282, 3) := by decide +kernel
theorem dX9_lists_55 : decode cX9_lists 55 = .ok (.iload_n 2, 1) := by decide +kernel
theorem dX9_lists_56 : decode cX9_lists 56 = .ok (.ifCond .ne 10, 3) := by decide +kernel
theorem dX9_lists_59 : decode cX9_lists 59 = .ok (.aload_n 0, 1) := by decide +kernel
theorem dX9_lists_60 : decode cX9_lists 60 = .ok (.getfield 244, 3) := by decide +kernel
theorem dX9_lists_63 : decode cX9_lists 63 = .ok (.goto 31, 3) := by decide +kernel
theorem dX9_lists_66 : decode cX9_lists 66 = .ok (.iload_n 2, 1) := by decide +kernel
theorem dX9_lists_67 : decode cX9_lists 67 = .ok (.iconst 1, 1) := by decide +kernel
theorem dX9_lists_68 : decode cX9_lists 68 = .ok (.if_icmp .ne 10, 3) := by decide +kernel
theorem dX9_lists_71 : decode cX9_lists 71 = .ok (.aload_n 0, 1) := by decide +kernel
theorem dX9_lists_72 : decode cX9_lists 72 = .ok (.getfield 247, 3) := by decide +kernel
theorem dX9_lists_75 : decode cX9_lists 75 = .ok (.goto 19, 3) := by decide +kernel
theorem dX9_lists_78 : decode cX9_lists 78 = .ok (.iload_n 2, 1) := by decide +kernel
theorem dX9_lists_79 : decode cX9_lists 79 = .ok (.iconst 2, 1) := by decide +kernel
theorem dX9_lists_80 : decode cX9_lists 80 = .ok (.if_icmp .ne 10, 3) := by decide +kernel
theorem dX9_lists_83 : decode cX9_lists 83 = .ok (.aload_n 0, 1) := by decide +kernel
theorem dX9_lists_84 : decode cX9_lists 84 = .ok (.getfield 250, 3) := by decide +kernel
theorem dX9_lists_87 : decode cX9_lists 87 = .ok (.goto 7, 3) := by decide +kernel
theorem dX9_lists_90 : decode cX9_lists 90 = .ok (.aload_n 0, 1) := by decide +kernel
theorem dX9_lists_91 : decode cX9_lists 91 = .ok (.getfield 253, 3) := by decide +kernel
theorem dX9_lists_94 : decode cX9_lists 94 = .ok (.ireturn, 1) := by decide +kernel
set_option maxRecDepth 20000 in
theorem ggX9_begins_X9_lay : GoodIn wsX9_begins wsX9_lay := goodIn_r _ [13, 14, 4, 7, 2, 15, 16, 17, 18, 19, 12, 20, 5, 21, 22, 23, 24, 25, 26, 27, 28, 29, 30, 31, 32, 33, 34, 35, 36, 37, 38, 43, 44, 45, 46, 47, 48, 49, 50, 51, 52, 53, 54, 55, 56, 57, 58, 59, 60, 61, 62, 63, 64, 65, 66, 67, 68, 69, 70, 71, 72, 73, 74, 75, 76, 77, 78, 79, 80, 81, 82, 83, 84, 85, 86, 87, 88, 89, 90, 91, 92, 93] (by decide +kernel) (by decide +kernel)
set_option maxRecDepth 20000 in
theorem gX9_begins_X9_lay : GoodIn wsX9_begins (wsV RX9 278 RX9 yX9_lay wsX9_lay) := goodIn_app (goodIn_of _ (by decide +kernel)) ggX9_begins_X9_lay
set_option maxRecDepth 20000 in
theorem ggX9_begins_X9_still : GoodIn wsX9_begins wsX9_still := goodIn_r _ [42, 16, 7, 15, 43, 44, 45, 46, 47, 48, 49, 50, 51, 52, 53, 54, 55, 56, 57, 58, 59, 60, 61, 62, 63, 64, 65, 66, 67, 68, 69, 70, 71, 72, 73, 74, 75, 76, 77, 78, 79, 80, 81, 82, 83, 84, 85, 86, 87, 88, 89, 90, 91, 92, 93] (by decide +kernel) (by decide +kernel)
set_option maxRecDepth 20000 in
theorem gX9_begins_X9_still : GoodIn wsX9_begins (wsV RX9 272 RX9 yX9_still wsX9_still) := goodIn_app (goodIn_of _ (by decide +kernel)) ggX9_begins_X9_still
theorem dX9_begins_0 : decode cX9_begins 0 = .ok (.aload_n 0, 1) := by decide +kernel
theorem dX9_begins_1 : decode cX9_begins 1 = .ok (.iload_n 1, 1) := by decide +kernel
theorem dX9_begins_2 : decode cX9_begins 2 = .ok (.iconst 1, 1) := by decide +kernel
theorem dX9_begins_3 : decode cX9_begins 3 = .ok (.iconst 1, 1) := by decide +kernel
theorem dX9_begins_4 : decode cX9_begins 4 = .ok (.invokevirtual 278, 3) := by decide +kernel
theorem dX9_begins_7 : decode cX9_begins 7 = .ok (.aload_n 0, 1) := by decide +kernel
theorem dX9_begins_8 : decode cX9_begins 8 = .ok (.iconst 0, 1) := by decide +kernel
theorem dX9_begins_9 : decode cX9_begins 9 = .ok (.putfield 298, 3) := by decide +kernel
theorem dX9_begins_12 : decode cX9_begins 12 = .ok (.aload_n 0, 1) := by decide +kernel
theorem dX9_begins_13 : decode cX9_begins 13 = .ok (.aload_n 0, 1) := by decide +kernel
theorem dX9_begins_14 : decode cX9_begins 14 = .ok (.getfield 237, 3) := by decide +kernel
theorem dX9_begins_17 : decode cX9_begins 17 = .ok (.putfield 301, 3) := by decide +kernel
theorem dX9_begins_20 : decode cX9_begins 20 = .ok (.iconst 0, 1) := by decide +kernel
theorem dX9_begins_21 : decode cX9_begins 21 = .ok (.istore_n 2, 1) := by decide +kernel
theorem dX9_begins_22 : decode cX9_begins 22 = .ok (.iload_n 2, 1) := by decide +kernel
theorem dX9_begins_23 : decode cX9_begins 23 = .ok (.aload_n 0, 1) := by decide +kernel
theorem dX9_begins_24 : decode cX9_begins 24 = .ok (.getfield 102, 3) := by decide +kernel
theorem dX9_begins_27 : decode cX9_begins 27 = .ok (.if_icmp .ge 67, 3) := by decide +kernel
theorem dX9_begins_30 : decode cX9_begins 30 = .ok (.aload_n 0, 1) := by decide +kernel
theorem dX9_begins_31 : decode cX9_begins 31 = .ok (.getfield 301, 3) := by decide +kernel
theorem dX9_begins_34 : decode cX9_begins 34 = .ok (.aload_n 0, 1) := by decide +kernel
theorem dX9_begins_35 : decode cX9_begins 35 = .ok (.getfield 16, 3) := by decide +kernel
theorem dX9_begins_38 : decode cX9_begins 38 = .ok (.iload_n 2, 1) := by decide +kernel
theorem dX9_begins_39 : decode cX9_begins 39 = .ok (.iaload, 1) := by decide +kernel
theorem dX9_begins_40 : decode cX9_begins 40 = .ok (.ishr, 1) := by decide +kernel
theorem dX9_begins_41 : decode cX9_begins 41 = .ok (.iconst 1, 1) := by decide +kernel
theorem dX9_begins_42 : decode cX9_begins 42 = .ok (.iand, 1) := by decide +kernel
theorem dX9_begins_43 : decode cX9_begins 43 = .ok (.ifCond .ne 5, 3) := by decide +kernel
theorem dX9_begins_46 : decode cX9_begins 46 = .ok (.iconst 0, 1) := by decide +kernel
theorem dX9_begins_47 : decode cX9_begins 47 = .ok (.ireturn, 1) := by decide +kernel
theorem dX9_begins_48 : decode cX9_begins 48 = .ok (.aload_n 0, 1) := by decide +kernel
theorem dX9_begins_49 : decode cX9_begins 49 = .ok (.aload_n 0, 1) := by decide +kernel
theorem dX9_begins_50 : decode cX9_begins 50 = .ok (.iload_n 1, 1) := by decide +kernel
theorem dX9_begins_51 : decode cX9_begins 51 = .ok (.aload_n 0, 1) := by decide +kernel
theorem dX9_begins_52 : decode cX9_begins 52 = .ok (.getfield 16, 3) := by decide +kernel
theorem dX9_begins_55 : decode cX9_begins 55 = .ok (.iload_n 2, 1) := by decide +kernel
theorem dX9_begins_56 : decode cX9_begins 56 = .ok (.iaload, 1) := by decide +kernel
theorem dX9_begins_57 : decode cX9_begins 57 = .ok (.aload_n 0, 1) := by decide +kernel
theorem dX9_begins_58 : decode cX9_begins 58 = .ok (.getfield 298, 3) := by decide +kernel
theorem dX9_begins_61 : decode cX9_begins 61 = .ok (.aload_n 0, 1) := by decide +kernel
theorem dX9_begins_62 : decode cX9_begins 62 = .ok (.getfield 301, 3) := by decide +kernel
theorem dX9_begins_65 : decode cX9_begins 65 = .ok (.invokevirtual 272, 3) := by decide +kernel
theorem dX9_begins_68 : decode cX9_begins 68 = .ok (.putfield 301, 3) := by decide +kernel
theorem dX9_begins_71 : decode cX9_begins 71 = .ok (.aload_n 0, 1) := by decide +kernel
theorem dX9_begins_72 : decode cX9_begins 72 = .ok (.dup, 1) := by decide +kernel
theorem dX9_begins_73 : decode cX9_begins 73 = .ok (.getfield 298, 3) := by decide +kernel
theorem dX9_begins_76 : decode cX9_begins 76 = .ok (.iconst 1, 1) := by decide +kernel
theorem dX9_begins_77 : decode cX9_begins 77 = .ok (.aload_n 0, 1) := by decide +kernel
theorem dX9_begins_78 : decode cX9_begins 78 = .ok (.getfield 16, 3) := by decide +kernel
theorem dX9_begins_81 : decode cX9_begins 81 = .ok (.iload_n 2, 1) := by decide +kernel
theorem dX9_begins_82 : decode cX9_begins 82 = .ok (.iaload, 1) := by decide +kernel
theorem dX9_begins_83 : decode cX9_begins 83 = .ok (.ishl, 1) := by decide +kernel
theorem dX9_begins_84 : decode cX9_begins 84 = .ok (.ior, 1) := by decide +kernel
theorem dX9_begins_85 : decode cX9_begins 85 = .ok (.putfield 298, 3) := by decide +kernel
theorem dX9_begins_88 : decode cX9_begins 88 = .ok (.iinc 2 1, 3) := by decide +kernel
theorem dX9_begins_91 : decode cX9_begins 91 = .ok (.goto (-69), 3) := by decide +kernel
theorem dX9_begins_94 : decode cX9_begins 94 = .ok (.aload_n 0, 1) := by decide +kernel
theorem dX9_begins_95 : decode cX9_begins 95 = .ok (.iconst 0, 1) := by decide +kernel
theorem dX9_begins_96 : decode cX9_begins 96 = .ok (.putfield 304, 3) := by decide +kernel
theorem dX9_begins_99 : decode cX9_begins 99 = .ok (.iconst 0, 1) := by decide +kernel
theorem dX9_begins_100 : decode cX9_begins 100 = .ok (.istore_n 2, 1) := by decide +kernel
theorem dX9_begins_101 : decode cX9_begins 101 = .ok (.iload_n 2, 1) := by decide +kernel
theorem dX9_begins_102 : decode cX9_begins 102 = .ok (.aload_n 0, 1) := by decide +kernel
theorem dX9_begins_103 : decode cX9_begins 103 = .ok (.getfield 234, 3) := by decide +kernel
theorem dX9_begins_106 : decode cX9_begins 106 = .ok (.if_icmp .ge 41, 3) := by decide +kernel
theorem dX9_begins_109 : decode cX9_begins 109 = .ok (.aload_n 0, 1) := by decide +kernel
theorem dX9_begins_110 : decode cX9_begins 110 = .ok (.getfield 301, 3) := by decide +kernel
theorem dX9_begins_113 : decode cX9_begins 113 = .ok (.iload_n 2, 1) := by decide +kernel
theorem dX9_begins_114 : decode cX9_begins 114 = .ok (.ishr, 1) := by decide +kernel
theorem dX9_begins_115 : decode cX9_begins 115 = .ok (.iconst 1, 1) := by decide +kernel
theorem dX9_begins_116 : decode cX9_begins 116 = .ok (.iand, 1) := by decide +kernel
theorem dX9_begins_117 : decode cX9_begins 117 = .ok (.iconst 1, 1) := by decide +kernel
theorem dX9_begins_118 : decode cX9_begins 118 = .ok (.if_icmp .ne 23, 3) := by decide +kernel
theorem dX9_begins_121 : decode cX9_begins 121 = .ok (.aload_n 0, 1) := by decide +kernel
theorem dX9_begins_122 : decode cX9_begins 122 = .ok (.getfield 67, 3) := by decide +kernel
theorem dX9_begins_125 : decode cX9_begins 125 = .ok (.aload_n 0, 1) := by decide +kernel
theorem dX9_begins_126 : decode cX9_begins 126 = .ok (.getfield 304, 3) := by decide +kernel
theorem dX9_begins_129 : decode cX9_begins 129 = .ok (.iload_n 2, 1) := by decide +kernel
theorem dX9_begins_130 : decode cX9_begins 130 = .ok (.iastore, 1) := by decide +kernel
theorem dX9_begins_131 : decode cX9_begins 131 = .ok (.aload_n 0, 1) := by decide +kernel
theorem dX9_begins_132 : decode cX9_begins 132 = .ok (.dup, 1) := by decide +kernel
theorem dX9_begins_133 : decode cX9_begins 133 = .ok (.getfield 304, 3) := by decide +kernel
theorem dX9_begins_136 : decode cX9_begins 136 = .ok (.iconst 1, 1) := by decide +kernel
theorem dX9_begins_137 : decode cX9_begins 137 = .ok (.iadd, 1) := by decide +kernel
theorem dX9_begins_138 : decode cX9_begins 138 = .ok (.putfield 304, 3) := by decide +kernel
theorem dX9_begins_141 : decode cX9_begins 141 = .ok (.iinc 2 1, 3) := by decide +kernel
theorem dX9_begins_144 : decode cX9_begins 144 = .ok (.goto (-43), 3) := by decide +kernel
theorem dX9_begins_147 : decode cX9_begins 147 = .ok (.iconst 1, 1) := by decide +kernel
theorem dX9_begins_148 : decode cX9_begins 148 = .ok (.ireturn, 1) := by decide +kernel
set_option maxRecDepth 20000 in
theorem ggX9_spreads_X9_many : GoodIn wsX9_spreads wsX9_many := goodIn_r _ [10] (by decide +kernel) (by decide +kernel)
set_option maxRecDepth 20000 in
theorem gX9_spreads_X9_many : GoodIn wsX9_spreads (va_wsS RX9 194 yX9_many wsX9_many) := goodIn_app (goodIn_of _ (by decide +kernel)) ggX9_spreads_X9_many
set_option maxRecDepth 20000 in
theorem ggX9_spreads_X9_still : GoodIn wsX9_spreads wsX9_still := goodIn_r _ [14, 15, 16, 17, 18, 19, 20, 21, 22, 23, 24, 25, 26, 27, 28, 29, 30, 31, 32, 33, 34, 35, 36, 37, 38, 39, 40, 41, 42, 43, 44, 45, 46, 47, 48, 49, 50, 51, 52, 53, 54, 55, 56, 57, 58, 59, 60, 61, 62, 63, 64, 65, 66, 67, 68] (by decide +kernel) (by decide +kernel)
set_option maxRecDepth 20000 in
theorem gX9_spreads_X9_still : GoodIn wsX9_spreads (wsV RX9 272 RX9 yX9_still wsX9_still) := goodIn_app (goodIn_of _ (by decide +kernel)) ggX9_spreads_X9_still
theorem dX9_spreads_0 : decode cX9_spreads 0 = .ok (.aload_n 0, 1) := by decide +kernel
theorem dX9_spreads_1 : decode cX9_spreads 1 = .ok (.getfield 71, 3) := by decide +kernel
theorem dX9_spreads_4 : decode cX9_spreads 4 = .ok (.iconst 0, 1) := by decide +kernel
theorem dX9_spreads_5 : decode cX9_spreads 5 = .ok (.aload_n 0, 1) := by decide +kernel
theorem dX9_spreads_6 : decode cX9_spreads 6 = .ok (.getfield 298, 3) := by decide +kernel
theorem dX9_spreads_9 : decode cX9_spreads 9 = .ok (.iastore, 1) := by decide +kernel
theorem dX9_spreads_10 : decode cX9_spreads 10 = .ok (.aload_n 0, 1) := by decide +kernel
theorem dX9_spreads_11 : decode cX9_spreads 11 = .ok (.getfield 74, 3) := by decide +kernel
theorem dX9_spreads_14 : decode cX9_spreads 14 = .ok (.iconst 0, 1) := by decide +kernel
theorem dX9_spreads_15 : decode cX9_spreads 15 = .ok (.aload_n 0, 1) := by decide +kernel
theorem dX9_spreads_16 : decode cX9_spreads 16 = .ok (.getfield 301, 3) := by decide +kernel
theorem dX9_spreads_19 : decode cX9_spreads 19 = .ok (.iastore, 1) := by decide +kernel
theorem dX9_spreads_20 : decode cX9_spreads 20 = .ok (.iconst 1, 1) := by decide +kernel
theorem dX9_spreads_21 : decode cX9_spreads 21 = .ok (.istore_n 2, 1) := by decide +kernel
theorem dX9_spreads_22 : decode cX9_spreads 22 = .ok (.iload_n 2, 1) := by decide +kernel
theorem dX9_spreads_23 : decode cX9_spreads 23 = .ok (.iconst 1, 1) := by decide +kernel
theorem dX9_spreads_24 : decode cX9_spreads 24 = .ok (.aload_n 0, 1) := by decide +kernel
theorem dX9_spreads_25 : decode cX9_spreads 25 = .ok (.getfield 304, 3) := by decide +kernel
theorem dX9_spreads_28 : decode cX9_spreads 28 = .ok (.ishl, 1) := by decide +kernel
theorem dX9_spreads_29 : decode cX9_spreads 29 = .ok (.if_icmp .ge 114, 3) := by decide +kernel
theorem dX9_spreads_32 : decode cX9_spreads 32 = .ok (.iload_n 2, 1) := by decide +kernel
theorem dX9_spreads_33 : decode cX9_spreads 33 = .ok (.iload_n 2, 1) := by decide +kernel
theorem dX9_spreads_34 : decode cX9_spreads 34 = .ok (.iconst 1, 1) := by decide +kernel
theorem dX9_spreads_35 : decode cX9_spreads 35 = .ok (.isub, 1) := by decide +kernel
theorem dX9_spreads_36 : decode cX9_spreads 36 = .ok (.iand, 1) := by decide +kernel
theorem dX9_spreads_37 : decode cX9_spreads 37 = .ok (.istore_n 3, 1) := by decide +kernel
theorem dX9_spreads_38 : decode cX9_spreads 38 = .ok (.aload_n 0, 1) := by decide +kernel
theorem dX9_spreads_39 : decode cX9_spreads 39 = .ok (.getfield 67, 3) := by decide +kernel
theorem dX9_spreads_42 : decode cX9_spreads 42 = .ok (.iload_n 2, 1) := by decide +kernel
theorem dX9_spreads_43 : decode cX9_spreads 43 = .ok (.iload_n 2, 1) := by decide +kernel
theorem dX9_spreads_44 : decode cX9_spreads 44 = .ok (.ineg, 1) := by decide +kernel
theorem dX9_spreads_45 : decode cX9_spreads 45 = .ok (.iand, 1) := by decide +kernel
theorem dX9_spreads_46 : decode cX9_spreads 46 = .ok (.iconst 1, 1) := by decide +kernel
theorem dX9_spreads_47 : decode cX9_spreads 47 = .ok (.isub, 1) := by decide +kernel
theorem dX9_spreads_48 : decode cX9_spreads 48 = .ok (.invokestatic 194, 3) := by decide +kernel
theorem dX9_spreads_51 : decode cX9_spreads 51 = .ok (.iaload, 1) := by decide +kernel
theorem dX9_spreads_52 : decode cX9_spreads 52 = .ok (.istore 4, 2) := by decide +kernel
theorem dX9_spreads_54 : decode cX9_spreads 54 = .ok (.aload_n 0, 1) := by decide +kernel
theorem dX9_spreads_55 : decode cX9_spreads 55 = .ok (.getfield 74, 3) := by decide +kernel
theorem dX9_spreads_58 : decode cX9_spreads 58 = .ok (.iload_n 3, 1) := by decide +kernel
theorem dX9_spreads_59 : decode cX9_spreads 59 = .ok (.iaload, 1) := by decide +kernel
theorem dX9_spreads_60 : decode cX9_spreads 60 = .ok (.iconst (-1), 1) := by decide +kernel
theorem dX9_spreads_61 : decode cX9_spreads 61 = .ok (.if_icmp .eq 22, 3) := by decide +kernel
theorem dX9_spreads_64 : decode cX9_spreads 64 = .ok (.aload_n 0, 1) := by decide +kernel
theorem dX9_spreads_65 : decode cX9_spreads 65 = .ok (.getfield 74, 3) := by decide +kernel
theorem dX9_spreads_68 : decode cX9_spreads 68 = .ok (.iload_n 3, 1) := by decide +kernel
theorem dX9_spreads_69 : decode cX9_spreads 69 = .ok (.iaload, 1) := by decide +kernel
theorem dX9_spreads_70 : decode cX9_spreads 70 = .ok (.iload 4, 2) := by decide +kernel
theorem dX9_spreads_72 : decode cX9_spreads 72 = .ok (.ishr, 1) := by decide +kernel
theorem dX9_spreads_73 : decode cX9_spreads 73 = .ok (.iconst 1, 1) := by decide +kernel
theorem dX9_spreads_74 : decode cX9_spreads 74 = .ok (.iand, 1) := by decide +kernel
theorem dX9_spreads_75 : decode cX9_spreads 75 = .ok (.iconst 1, 1) := by decide +kernel
theorem dX9_spreads_76 : decode cX9_spreads 76 = .ok (.if_icmp .ne 7, 3) := by decide +kernel
theorem dX9_spreads_79 : decode cX9_spreads 79 = .ok (.iconst 1, 1) := by decide +kernel
theorem dX9_spreads_80 : decode cX9_spreads 80 = .ok (.goto 4, 3) := by decide +kernel
theorem dX9_spreads_83 : decode cX9_spreads 83 = .ok (.iconst 0, 1) := by decide +kernel
theorem dX9_spreads_84 : decode cX9_spreads 84 = .ok (.istore 5, 2) := by decide +kernel
theorem dX9_spreads_86 : decode cX9_spreads 86 = .ok (.aload_n 0, 1) := by decide +kernel
theorem dX9_spreads_87 : decode cX9_spreads 87 = .ok (.getfield 71, 3) := by decide +kernel
theorem dX9_spreads_90 : decode cX9_spreads 90 = .ok (.iload_n 2, 1) := by decide +kernel
theorem dX9_spreads_91 : decode cX9_spreads 91 = .ok (.aload_n 0, 1) := by decide +kernel
theorem dX9_spreads_92 : decode cX9_spreads 92 = .ok (.getfield 71, 3) := by decide +kernel
theorem dX9_spreads_95 : decode cX9_spreads 95 = .ok (.iload_n 3, 1) := by decide +kernel
theorem dX9_spreads_96 : decode cX9_spreads 96 = .ok (.iaload, 1) := by decide +kernel
theorem dX9_spreads_97 : decode cX9_spreads 97 = .ok (.iconst 1, 1) := by decide +kernel
theorem dX9_spreads_98 : decode cX9_spreads 98 = .ok (.iload 4, 2) := by decide +kernel
theorem dX9_spreads_100 : decode cX9_spreads 100 = .ok (.ishl, 1) := by decide +kernel
theorem dX9_spreads_101 : decode cX9_spreads 101 = .ok (.ior, 1) := by decide +kernel
theorem dX9_spreads_102 : decode cX9_spreads 102 = .ok (.iastore, 1) := by decide +kernel
theorem dX9_spreads_103 : decode cX9_spreads 103 = .ok (.aload_n 0, 1) := by decide +kernel
theorem dX9_spreads_104 : decode cX9_spreads 104 = .ok (.getfield 74, 3) := by decide +kernel
theorem dX9_spreads_107 : decode cX9_spreads 107 = .ok (.iload_n 2, 1) := by decide +kernel
theorem dX9_spreads_108 : decode cX9_spreads 108 = .ok (.iload 5, 2) := by decide +kernel
theorem dX9_spreads_110 : decode cX9_spreads 110 = .ok (.ifCond .eq 25, 3) := by decide +kernel
theorem dX9_spreads_113 : decode cX9_spreads 113 = .ok (.aload_n 0, 1) := by decide +kernel
theorem dX9_spreads_114 : decode cX9_spreads 114 = .ok (.iload_n 1, 1) := by decide +kernel
theorem dX9_spreads_115 : decode cX9_spreads 115 = .ok (.iload 4, 2) := by decide +kernel
theorem dX9_spreads_117 : decode cX9_spreads 117 = .ok (.aload_n 0, 1) := by decide +kernel
theorem dX9_spreads_118 : decode cX9_spreads 118 = .ok (.getfield 71, 3) := by decide +kernel
theorem dX9_spreads_121 : decode cX9_spreads 121 = .ok (.iload_n 3, 1) := by decide +kernel
theorem dX9_spreads_122 : decode cX9_spreads 122 = .ok (.iaload, 1) := by decide +kernel
theorem dX9_spreads_123 : decode cX9_spreads 123 = .ok (.aload_n 0, 1) := by decide +kernel
theorem dX9_spreads_124 : decode cX9_spreads 124 = .ok (.getfield 74, 3) := by decide +kernel
theorem dX9_spreads_127 : decode cX9_spreads 127 = .ok (.iload_n 3, 1) := by decide +kernel
theorem dX9_spreads_128 : decode cX9_spreads 128 = .ok (.iaload, 1) := by decide +kernel
theorem dX9_spreads_129 : decode cX9_spreads 129 = .ok (.invokevirtual 272, 3) := by decide +kernel
theorem dX9_spreads_132 : decode cX9_spreads 132 = .ok (.goto 4, 3) := by decide +kernel
theorem dX9_spreads_135 : decode cX9_spreads 135 = .ok (.iconst (-1), 1) := by decide +kernel
theorem dX9_spreads_136 : decode cX9_spreads 136 = .ok (.iastore, 1) := by decide +kernel
theorem dX9_spreads_137 : decode cX9_spreads 137 = .ok (.iinc 2 1, 3) := by decide +kernel
theorem dX9_spreads_140 : decode cX9_spreads 140 = .ok (.goto (-118), 3) := by decide +kernel
theorem dX9_spreads_143 : decode cX9_spreads 143 = .ok (.return_, 1) := by decide +kernel
theorem dX9_comes_0 : decode cX9_comes 0 = .ok (.aload_n 0, 1) := by decide +kernel
theorem dX9_comes_1 : decode cX9_comes 1 = .ok (.getfield 74, 3) := by decide +kernel
theorem dX9_comes_4 : decode cX9_comes 4 = .ok (.iload_n 1, 1) := by decide +kernel
theorem dX9_comes_5 : decode cX9_comes 5 = .ok (.iaload, 1) := by decide +kernel
theorem dX9_comes_6 : decode cX9_comes 6 = .ok (.aload_n 0, 1) := by decide +kernel
theorem dX9_comes_7 : decode cX9_comes 7 = .ok (.getfield 67, 3) := by decide +kernel
theorem dX9_comes_10 : decode cX9_comes 10 = .ok (.iload_n 2, 1) := by decide +kernel
theorem dX9_comes_11 : decode cX9_comes 11 = .ok (.iaload, 1) := by decide +kernel
theorem dX9_comes_12 : decode cX9_comes 12 = .ok (.ishr, 1) := by decide +kernel
theorem dX9_comes_13 : decode cX9_comes 13 = .ok (.iconst 1, 1) := by decide +kernel
theorem dX9_comes_14 : decode cX9_comes 14 = .ok (.iand, 1) := by decide +kernel
theorem dX9_comes_15 : decode cX9_comes 15 = .ok (.iconst 1, 1) := by decide +kernel
theorem dX9_comes_16 : decode cX9_comes 16 = .ok (.if_icmp .ne 7, 3) := by decide +kernel
theorem dX9_comes_19 : decode cX9_comes 19 = .ok (.iconst 1, 1) := by decide +kernel
theorem dX9_comes_20 : decode cX9_comes 20 = .ok (.goto 4, 3) := by decide +kernel
theorem dX9_comes_23 : decode cX9_comes 23 = .ok (.iconst 0, 1) := by decide +kernel
theorem dX9_comes_24 : decode cX9_comes 24 = .ok (.ireturn, 1) := by decide +kernel
set_option maxRecDepth 20000 in
theorem ggX9_game_X9_isLaw : GoodIn wsX9_game wsX9_isLaw := goodIn_r _ [9, 10, 11, 12, 8, 13] (by decide +kernel) (by decide +kernel)
set_option maxRecDepth 20000 in
theorem gX9_game_X9_isLaw : GoodIn wsX9_game (va_wsS RX9 213 yX9_isLaw wsX9_isLaw) := goodIn_app (goodIn_of _ (by decide +kernel)) ggX9_game_X9_isLaw
set_option maxRecDepth 20000 in
theorem ggX9_game_X9_in : GoodIn wsX9_game wsX9_in := goodIn_r _ [13] (by decide +kernel) (by decide +kernel)
set_option maxRecDepth 20000 in
theorem gX9_game_X9_in : GoodIn wsX9_game (va_wsS RX9 92 yX9_in wsX9_in) := goodIn_app (goodIn_of _ (by decide +kernel)) ggX9_game_X9_in
set_option maxRecDepth 20000 in
theorem ggX9_game_X9_refuse : GoodIn wsX9_game wsX9_refuse := goodIn_r _ [17, 18, 67, 68, 69, 70, 71, 72, 73, 74, 75, 76, 77, 78, 79, 80, 81, 82, 83, 84, 85, 86, 87, 88, 89, 90, 91, 92, 93, 94, 95, 96, 97, 98, 99, 100, 101, 102, 103, 104, 105, 106, 107, 108, 109, 110, 111, 112, 113, 114, 115, 116, 117] (by decide +kernel) (by decide +kernel)
set_option maxRecDepth 20000 in
theorem gX9_game_X9_refuse : GoodIn wsX9_game (wsV RX9 98 RX9 yX9_refuse wsX9_refuse) := goodIn_app (goodIn_of _ (by decide +kernel)) ggX9_game_X9_refuse
set_option maxRecDepth 20000 in
theorem ggX9_game_X9_begins : GoodIn wsX9_game wsX9_begins := goodIn_r _ [22, 23, 24, 25, 26, 27, 2, 28, 5, 29, 30, 31, 8, 32, 1, 33, 34, 35, 36, 37, 38, 39, 40, 41, 42, 43, 44, 45, 46, 47, 11, 12, 13, 48, 49, 50, 51, 52, 53, 54, 55, 56, 57, 67, 68, 69, 70, 71, 72, 73, 74, 75, 76, 77, 78, 79, 80, 81, 82, 83, 84, 85, 86, 87, 88, 89, 90, 91, 92, 93, 94, 95, 96, 97, 98, 99, 100, 101, 102, 103, 104, 105, 106, 107, 108, 109, 110, 111, 112, 113, 114, 115, 116, 117] (by decide +kernel) (by decide +kernel)
set_option maxRecDepth 20000 in
theorem gX9_game_X9_begins : GoodIn wsX9_game (wsV RX9 307 RX9 yX9_begins wsX9_begins) := goodIn_app (goodIn_of _ (by decide +kernel)) ggX9_game_X9_begins
set_option maxRecDepth 20000 in
theorem ggX9_game_X9_spreads : GoodIn wsX9_game wsX9_spreads := goodIn_r _ [61, 62, 23, 3, 25, 2, 5, 45, 46, 8, 47, 54, 55, 56, 57, 34, 28, 33, 67, 68, 69, 70, 71, 72, 73, 74, 75, 76, 77, 78, 79, 80, 81, 82, 83, 84, 85, 86, 87, 88, 89, 90, 91, 92, 93, 94, 95, 96, 97, 98, 99, 100, 101, 102, 103, 104, 105, 106, 107, 108, 109, 110, 111, 112, 113, 114, 115, 116, 117] (by decide +kernel) (by decide +kernel)
set_option maxRecDepth 20000 in
theorem gX9_game_X9_spreads : GoodIn wsX9_game (wsV RX9 310 RX9 yX9_spreads wsX9_spreads) := goodIn_app (goodIn_of _ (by decide +kernel)) ggX9_game_X9_spreads
set_option maxRecDepth 20000 in
theorem ggX9_game_X9_comes : GoodIn wsX9_game wsX9_comes := goodIn_r _ [66, 3, 5, 67, 68, 69, 70, 71, 72, 73, 74, 75, 76, 77, 78, 79, 80, 81, 82, 83, 84, 85, 86, 87, 88, 89, 90, 91, 92, 93, 94, 95, 96, 97, 98, 99, 100, 101, 102, 103, 104, 105, 106, 107, 108, 109, 110, 111, 112, 113, 114, 115, 116, 117] (by decide +kernel) (by decide +kernel)
set_option maxRecDepth 20000 in
theorem gX9_game_X9_comes : GoodIn wsX9_game (wsV RX9 314 RX9 yX9_comes wsX9_comes) := goodIn_app (goodIn_of _ (by decide +kernel)) ggX9_game_X9_comes
theorem dX9_game_0 : decode cX9_game 0 = .ok (.iload_n 1, 1) := by decide +kernel
theorem dX9_game_1 : decode cX9_game 1 = .ok (.invokestatic 213, 3) := by decide +kernel
theorem dX9_game_4 : decode cX9_game 4 = .ok (.ifCond .eq 13, 3) := by decide +kernel
theorem dX9_game_7 : decode cX9_game 7 = .ok (.iload_n 2, 1) := by decide +kernel
theorem dX9_game_8 : decode cX9_game 8 = .ok (.i2l, 1) := by decide +kernel
theorem dX9_game_9 : decode cX9_game 9 = .ok (.lconst 0, 1) := by decide +kernel
theorem dX9_game_10 : decode cX9_game 10 = .ok (.lconst 1, 1) := by decide +kernel
theorem dX9_game_11 : decode cX9_game 11 = .ok (.invokestatic 92, 3) := by decide +kernel
theorem dX9_game_14 : decode cX9_game 14 = .ok (.ifCond .ne 15, 3) := by decide +kernel
theorem dX9_game_17 : decode cX9_game 17 = .ok (.aload_n 0, 1) := by decide +kernel
theorem dX9_game_18 : decode cX9_game 18 = .ok (.bipush (-2), 2) := by decide +kernel
theorem dX9_game_20 : decode cX9_game 20 = .ok (.invokevirtual 98, 3) := by decide +kernel
theorem dX9_game_23 : decode cX9_game 23 = .ok (.istore_n 3, 1) := by decide +kernel
theorem dX9_game_24 : decode cX9_game 24 = .ok (.iload_n 3, 1) := by decide +kernel
theorem dX9_game_25 : decode cX9_game 25 = .ok (.bipush 8, 2) := by decide +kernel
theorem dX9_game_27 : decode cX9_game 27 = .ok (.isub, 1) := by decide +kernel
theorem dX9_game_28 : decode cX9_game 28 = .ok (.ireturn, 1) := by decide +kernel
theorem dX9_game_29 : decode cX9_game 29 = .ok (.aload_n 0, 1) := by decide +kernel
theorem dX9_game_30 : decode cX9_game 30 = .ok (.getfield 7, 3) := by decide +kernel
theorem dX9_game_33 : decode cX9_game 33 = .ok (.iconst 4, 1) := by decide +kernel
theorem dX9_game_34 : decode cX9_game 34 = .ok (.if_icmp .gt 11, 3) := by decide +kernel
theorem dX9_game_37 : decode cX9_game 37 = .ok (.aload_n 0, 1) := by decide +kernel
theorem dX9_game_38 : decode cX9_game 38 = .ok (.iload_n 1, 1) := by decide +kernel
theorem dX9_game_39 : decode cX9_game 39 = .ok (.invokevirtual 307, 3) := by decide +kernel
theorem dX9_game_42 : decode cX9_game 42 = .ok (.ifCond .ne 15, 3) := by decide +kernel
theorem dX9_game_45 : decode cX9_game 45 = .ok (.aload_n 0, 1) := by decide +kernel
theorem dX9_game_46 : decode cX9_game 46 = .ok (.bipush (-3), 2) := by decide +kernel
theorem dX9_game_48 : decode cX9_game 48 = .ok (.invokevirtual 98, 3) := by decide +kernel
theorem dX9_game_51 : decode cX9_game 51 = .ok (.istore_n 3, 1) := by decide +kernel
theorem dX9_game_52 : decode cX9_game 52 = .ok (.iload_n 3, 1) := by decide +kernel
theorem dX9_game_53 : decode cX9_game 53 = .ok (.bipush 17, 2) := by decide +kernel
theorem dX9_game_55 : decode cX9_game 55 = .ok (.isub, 1) := by decide +kernel
theorem dX9_game_56 : decode cX9_game 56 = .ok (.ireturn, 1) := by decide +kernel
theorem dX9_game_57 : decode cX9_game 57 = .ok (.aload_n 0, 1) := by decide +kernel
theorem dX9_game_58 : decode cX9_game 58 = .ok (.iload_n 1, 1) := by decide +kernel
theorem dX9_game_59 : decode cX9_game 59 = .ok (.invokevirtual 310, 3) := by decide +kernel
theorem dX9_game_62 : decode cX9_game 62 = .ok (.iconst (-1), 1) := by decide +kernel
theorem dX9_game_63 : decode cX9_game 63 = .ok (.istore_n 3, 1) := by decide +kernel
theorem dX9_game_64 : decode cX9_game 64 = .ok (.iconst 1, 1) := by decide +kernel
theorem dX9_game_65 : decode cX9_game 65 = .ok (.aload_n 0, 1) := by decide +kernel
theorem dX9_game_66 : decode cX9_game 66 = .ok (.getfield 304, 3) := by decide +kernel
theorem dX9_game_69 : decode cX9_game 69 = .ok (.ishl, 1) := by decide +kernel
theorem dX9_game_70 : decode cX9_game 70 = .ok (.iconst 1, 1) := by decide +kernel
theorem dX9_game_71 : decode cX9_game 71 = .ok (.isub, 1) := by decide +kernel
theorem dX9_game_72 : decode cX9_game 72 = .ok (.istore 4, 2) := by decide +kernel
theorem dX9_game_74 : decode cX9_game 74 = .ok (.iload 4, 2) := by decide +kernel
theorem dX9_game_76 : decode cX9_game 76 = .ok (.ifCond .lt 96, 3) := by decide +kernel
theorem dX9_game_79 : decode cX9_game 79 = .ok (.iconst (-1), 1) := by decide +kernel
theorem dX9_game_80 : decode cX9_game 80 = .ok (.istore_n 3, 1) := by decide +kernel
theorem dX9_game_81 : decode cX9_game 81 = .ok (.aload_n 0, 1) := by decide +kernel
theorem dX9_game_82 : decode cX9_game 82 = .ok (.getfield 304, 3) := by decide +kernel
theorem dX9_game_85 : decode cX9_game 85 = .ok (.iconst 1, 1) := by decide +kernel
theorem dX9_game_86 : decode cX9_game 86 = .ok (.isub, 1) := by decide +kernel
theorem dX9_game_87 : decode cX9_game 87 = .ok (.istore 5, 2) := by decide +kernel
theorem dX9_game_89 : decode cX9_game 89 = .ok (.iload 5, 2) := by decide +kernel
theorem dX9_game_91 : decode cX9_game 91 = .ok (.ifCond .lt 58, 3) := by decide +kernel
theorem dX9_game_94 : decode cX9_game 94 = .ok (.aload_n 0, 1) := by decide +kernel
theorem dX9_game_95 : decode cX9_game 95 = .ok (.getfield 74, 3) := by decide +kernel
theorem dX9_game_98 : decode cX9_game 98 = .ok (.iload 4, 2) := by decide +kernel
theorem dX9_game_100 : decode cX9_game 100 = .ok (.iaload, 1) := by decide +kernel
theorem dX9_game_101 : decode cX9_game 101 = .ok (.iconst (-1), 1) := by decide +kernel
theorem dX9_game_102 : decode cX9_game 102 = .ok (.if_icmp .eq 47, 3) := by decide +kernel
theorem dX9_game_105 : decode cX9_game 105 = .ok (.aload_n 0, 1) := by decide +kernel
theorem dX9_game_106 : decode cX9_game 106 = .ok (.iload 4, 2) := by decide +kernel
theorem dX9_game_108 : decode cX9_game 108 = .ok (.iload 5, 2) := by decide +kernel
theorem dX9_game_110 : decode cX9_game 110 = .ok (.invokevirtual 314, 3) := by decide +kernel
theorem dX9_game_113 : decode cX9_game 113 = .ok (.ifCond .eq 28, 3) := by decide +kernel
theorem dX9_game_116 : decode cX9_game 116 = .ok (.aload_n 0, 1) := by decide +kernel
theorem dX9_game_117 : decode cX9_game 117 = .ok (.getfield 77, 3) := by decide +kernel
theorem dX9_game_120 : decode cX9_game 120 = .ok (.iload 4, 2) := by decide +kernel
theorem dX9_game_122 : decode cX9_game 122 = .ok (.iconst 1, 1) := by decide +kernel
theorem dX9_game_123 : decode cX9_game 123 = .ok (.iload 5, 2) := by decide +kernel
theorem dX9_game_125 : decode cX9_game 125 = .ok (.ishl, 1) := by decide +kernel
theorem dX9_game_126 : decode cX9_game 126 = .ok (.ior, 1) := by decide +kernel
theorem dX9_game_127 : decode cX9_game 127 = .ok (.baload, 1) := by decide +kernel
theorem dX9_game_128 : decode cX9_game 128 = .ok (.ifCond .ne 13, 3) := by decide +kernel
theorem dX9_game_131 : decode cX9_game 131 = .ok (.aload_n 0, 1) := by decide +kernel
theorem dX9_game_132 : decode cX9_game 132 = .ok (.getfield 67, 3) := by decide +kernel
theorem dX9_game_135 : decode cX9_game 135 = .ok (.iload 5, 2) := by decide +kernel
theorem dX9_game_137 : decode cX9_game 137 = .ok (.iaload, 1) := by decide +kernel
theorem dX9_game_138 : decode cX9_game 138 = .ok (.goto 4, 3) := by decide +kernel
theorem dX9_game_141 : decode cX9_game 141 = .ok (.iload_n 3, 1) := by decide +kernel
theorem dX9_game_142 : decode cX9_game 142 = .ok (.istore_n 3, 1) := by decide +kernel
theorem dX9_game_143 : decode cX9_game 143 = .ok (.iinc 5 (-1), 3) := by decide +kernel
theorem dX9_game_146 : decode cX9_game 146 = .ok (.goto (-57), 3) := by decide +kernel
theorem dX9_game_149 : decode cX9_game 149 = .ok (.aload_n 0, 1) := by decide +kernel
theorem dX9_game_150 : decode cX9_game 150 = .ok (.getfield 77, 3) := by decide +kernel
theorem dX9_game_153 : decode cX9_game 153 = .ok (.iload 4, 2) := by decide +kernel
theorem dX9_game_155 : decode cX9_game 155 = .ok (.iload_n 3, 1) := by decide +kernel
theorem dX9_game_156 : decode cX9_game 156 = .ok (.iconst (-1), 1) := by decide +kernel
theorem dX9_game_157 : decode cX9_game 157 = .ok (.if_icmp .eq 7, 3) := by decide +kernel
theorem dX9_game_160 : decode cX9_game 160 = .ok (.iconst 1, 1) := by decide +kernel
theorem dX9_game_161 : decode cX9_game 161 = .ok (.goto 4, 3) := by decide +kernel
theorem dX9_game_164 : decode cX9_game 164 = .ok (.iconst 0, 1) := by decide +kernel
theorem dX9_game_165 : decode cX9_game 165 = .ok (.bastore, 1) := by decide +kernel
theorem dX9_game_166 : decode cX9_game 166 = .ok (.iinc 4 (-1), 3) := by decide +kernel
theorem dX9_game_169 : decode cX9_game 169 = .ok (.goto (-95), 3) := by decide +kernel
theorem dX9_game_172 : decode cX9_game 172 = .ok (.iload_n 2, 1) := by decide +kernel
theorem dX9_game_173 : decode cX9_game 173 = .ok (.iconst 1, 1) := by decide +kernel
theorem dX9_game_174 : decode cX9_game 174 = .ok (.if_icmp .ne 7, 3) := by decide +kernel
theorem dX9_game_177 : decode cX9_game 177 = .ok (.iload_n 3, 1) := by decide +kernel
theorem dX9_game_178 : decode cX9_game 178 = .ok (.goto 17, 3) := by decide +kernel
theorem dX9_game_181 : decode cX9_game 181 = .ok (.aload_n 0, 1) := by decide +kernel
theorem dX9_game_182 : decode cX9_game 182 = .ok (.getfield 77, 3) := by decide +kernel
theorem dX9_game_185 : decode cX9_game 185 = .ok (.iconst 0, 1) := by decide +kernel
theorem dX9_game_186 : decode cX9_game 186 = .ok (.baload, 1) := by decide +kernel
theorem dX9_game_187 : decode cX9_game 187 = .ok (.ifCond .eq 7, 3) := by decide +kernel
theorem dX9_game_190 : decode cX9_game 190 = .ok (.iconst 1, 1) := by decide +kernel
theorem dX9_game_191 : decode cX9_game 191 = .ok (.goto 4, 3) := by decide +kernel
theorem dX9_game_194 : decode cX9_game 194 = .ok (.iconst 0, 1) := by decide +kernel
theorem dX9_game_195 : decode cX9_game 195 = .ok (.ireturn, 1) := by decide +kernel
theorem dX9_common_0 : decode cX9_common 0 = .ok (.iload_n 0, 1) := by decide +kernel
theorem dX9_common_1 : decode cX9_common 1 = .ok (.ifCond .ne 9, 3) := by decide +kernel
theorem dX9_common_4 : decode cX9_common 4 = .ok (.sipush 840, 3) := by decide +kernel
theorem dX9_common_7 : decode cX9_common 7 = .ok (.goto 55, 3) := by decide +kernel
theorem dX9_common_10 : decode cX9_common 10 = .ok (.iload_n 0, 1) := by decide +kernel
theorem dX9_common_11 : decode cX9_common 11 = .ok (.iconst 1, 1) := by decide +kernel
theorem dX9_common_12 : decode cX9_common 12 = .ok (.if_icmp .ne 9, 3) := by decide +kernel
theorem dX9_common_15 : decode cX9_common 15 = .ok (.sipush 420, 3) := by decide +kernel
theorem dX9_common_18 : decode cX9_common 18 = .ok (.goto 44, 3) := by decide +kernel
theorem dX9_common_21 : decode cX9_common 21 = .ok (.iload_n 0, 1) := by decide +kernel
theorem dX9_common_22 : decode cX9_common 22 = .ok (.iconst 4, 1) := by decide +kernel
theorem dX9_common_23 : decode cX9_common 23 = .ok (.if_icmp .ge 8, 3) := by decide +kernel
theorem dX9_common_26 : decode cX9_common 26 = .ok (.bipush 60, 2) := by decide +kernel
theorem dX9_common_28 : decode cX9_common 28 = .ok (.goto 34, 3) := by decide +kernel
theorem dX9_common_31 : decode cX9_common 31 = .ok (.iload_n 0, 1) := by decide +kernel
theorem dX9_common_32 : decode cX9_common 32 = .ok (.iconst 4, 1) := by decide +kernel
theorem dX9_common_33 : decode cX9_common 33 = .ok (.if_icmp .ne 8, 3) := by decide +kernel
theorem dX9_common_36 : decode cX9_common 36 = .ok (.bipush 12, 2) := by decide +kernel
theorem dX9_common_38 : decode cX9_common 38 = .ok (.goto 24, 3) := by decide +kernel
theorem dX9_common_41 : decode cX9_common 41 = .ok (.iload_n 0, 1) := by decide +kernel
theorem dX9_common_42 : decode cX9_common 42 = .ok (.iconst 5, 1) := by decide +kernel
theorem dX9_common_43 : decode cX9_common 43 = .ok (.if_icmp .ne 8, 3) := by decide +kernel
theorem dX9_common_46 : decode cX9_common 46 = .ok (.bipush 6, 2) := by decide +kernel
theorem dX9_common_48 : decode cX9_common 48 = .ok (.goto 14, 3) := by decide +kernel
theorem dX9_common_51 : decode cX9_common 51 = .ok (.iload_n 0, 1) := by decide +kernel
theorem dX9_common_52 : decode cX9_common 52 = .ok (.bipush 6, 2) := by decide +kernel
theorem dX9_common_54 : decode cX9_common 54 = .ok (.if_icmp .ne 7, 3) := by decide +kernel
theorem dX9_common_57 : decode cX9_common 57 = .ok (.iconst 2, 1) := by decide +kernel
theorem dX9_common_58 : decode cX9_common 58 = .ok (.goto 4, 3) := by decide +kernel
theorem dX9_common_61 : decode cX9_common 61 = .ok (.iconst 1, 1) := by decide +kernel
theorem dX9_common_62 : decode cX9_common 62 = .ok (.ireturn, 1) := by decide +kernel
set_option maxRecDepth 20000 in
theorem ggX9_chance_X9_isLaw : GoodIn wsX9_chance wsX9_isLaw := goodIn_r _ [9, 10, 11, 12, 8, 13] (by decide +kernel) (by decide +kernel)
set_option maxRecDepth 20000 in
theorem gX9_chance_X9_isLaw : GoodIn wsX9_chance (va_wsS RX9 213 yX9_isLaw wsX9_isLaw) := goodIn_app (goodIn_of _ (by decide +kernel)) ggX9_chance_X9_isLaw
set_option maxRecDepth 20000 in
theorem ggX9_chance_X9_refuse : GoodIn wsX9_chance wsX9_refuse := goodIn_r _ [17, 18, 80, 81, 82, 83, 84, 85, 86, 87, 88, 89, 90, 91, 92, 93, 94, 95, 96, 97, 98, 99, 100, 101, 102, 103, 104, 105, 106, 107, 108, 109, 110, 111, 112, 113, 114, 115, 116, 117, 118, 119, 120, 121, 122, 123, 124, 125, 126, 127, 128, 129, 130] (by decide +kernel) (by decide +kernel)
set_option maxRecDepth 20000 in
theorem gX9_chance_X9_refuse : GoodIn wsX9_chance (wsV RX9 98 RX9 yX9_refuse wsX9_refuse) := goodIn_app (goodIn_of _ (by decide +kernel)) ggX9_chance_X9_refuse
set_option maxRecDepth 20000 in
theorem ggX9_chance_X9_begins : GoodIn wsX9_chance wsX9_begins := goodIn_r _ [22, 23, 24, 25, 26, 27, 2, 28, 29, 30, 31, 32, 8, 33, 1, 34, 35, 36, 37, 38, 39, 40, 41, 42, 43, 44, 45, 46, 47, 48, 11, 12, 13, 49, 50, 51, 52, 53, 54, 55, 56, 57, 58, 80, 81, 82, 83, 84, 85, 86, 87, 88, 89, 90, 91, 92, 93, 94, 95, 96, 97, 98, 99, 100, 101, 102, 103, 104, 105, 106, 107, 108, 109, 110, 111, 112, 113, 114, 115, 116, 117, 118, 119, 120, 121, 122, 123, 124, 125, 126, 127, 128, 129, 130] (by decide +kernel) (by decide +kernel)
set_option maxRecDepth 20000 in
theorem gX9_chance_X9_begins : GoodIn wsX9_chance (wsV RX9 307 RX9 yX9_begins wsX9_begins) := goodIn_app (goodIn_of _ (by decide +kernel)) ggX9_chance_X9_begins
set_option maxRecDepth 20000 in
theorem ggX9_chance_X9_spreads : GoodIn wsX9_chance wsX9_spreads := goodIn_r _ [62, 63, 23, 4, 25, 2, 29, 46, 47, 8, 48, 55, 56, 57, 58, 35, 28, 34, 80, 81, 82, 83, 84, 85, 86, 87, 88, 89, 90, 91, 92, 93, 94, 95, 96, 97, 98, 99, 100, 101, 102, 103, 104, 105, 106, 107, 108, 109, 110, 111, 112, 113, 114, 115, 116, 117, 118, 119, 120, 121, 122, 123, 124, 125, 126, 127, 128, 129, 130] (by decide +kernel) (by decide +kernel)
set_option maxRecDepth 20000 in
theorem gX9_chance_X9_spreads : GoodIn wsX9_chance (wsV RX9 310 RX9 yX9_spreads wsX9_spreads) := goodIn_app (goodIn_of _ (by decide +kernel)) ggX9_chance_X9_spreads
set_option maxRecDepth 20000 in
theorem ggX9_chance_X9_common : GoodIn wsX9_chance wsX9_common := goodIn_r _ [66] (by decide +kernel) (by decide +kernel)
set_option maxRecDepth 20000 in
theorem gX9_chance_X9_common : GoodIn wsX9_chance (va_wsS RX9 317 yX9_common wsX9_common) := goodIn_app (goodIn_of _ (by decide +kernel)) ggX9_chance_X9_common
set_option maxRecDepth 20000 in
theorem ggX9_chance_X9_many : GoodIn wsX9_chance wsX9_many := goodIn_r _ [48] (by decide +kernel) (by decide +kernel)
set_option maxRecDepth 20000 in
theorem gX9_chance_X9_many : GoodIn wsX9_chance (va_wsS RX9 194 yX9_many wsX9_many) := goodIn_app (goodIn_of _ (by decide +kernel)) ggX9_chance_X9_many
set_option maxRecDepth 20000 in
theorem ggX9_chance_X9_comes : GoodIn wsX9_chance wsX9_comes := goodIn_r _ [70, 4, 29, 80, 81, 82, 83, 84, 85, 86, 87, 88, 89, 90, 91, 92, 93, 94, 95, 96, 97, 98, 99, 100, 101, 102, 103, 104, 105, 106, 107, 108, 109, 110, 111, 112, 113, 114, 115, 116, 117, 118, 119, 120, 121, 122, 123, 124, 125, 126, 127, 128, 129, 130] (by decide +kernel) (by decide +kernel)
set_option maxRecDepth 20000 in
theorem gX9_chance_X9_comes : GoodIn wsX9_chance (wsV RX9 314 RX9 yX9_comes wsX9_comes) := goodIn_app (goodIn_of _ (by decide +kernel)) ggX9_chance_X9_comes
set_option maxRecDepth 20000 in
theorem ggX9_chance_X9_tell : GoodIn wsX9_chance wsX9_tell := goodIn_r _ [74, 75, 76, 77, 78, 8, 79, 80, 81, 82, 83, 84, 85, 86, 87, 88, 89, 90, 91, 92, 93, 94, 95, 96, 97, 98, 99, 100, 101, 102, 103, 104, 105, 106, 107, 108, 109, 110, 111, 112, 113, 114, 115, 116, 117, 118, 119, 120, 121, 122, 123, 124, 125, 126, 127, 128, 129, 130] (by decide +kernel) (by decide +kernel)
set_option maxRecDepth 20000 in
theorem gX9_chance_X9_tell : GoodIn wsX9_chance (wsV RX9 230 RX9 yX9_tell wsX9_tell) := goodIn_app (goodIn_of _ (by decide +kernel)) ggX9_chance_X9_tell
theorem dX9_chance_0 : decode cX9_chance 0 = .ok (.iload_n 1, 1) := by decide +kernel
theorem dX9_chance_1 : decode cX9_chance 1 = .ok (.invokestatic 213, 3) := by decide +kernel
theorem dX9_chance_4 : decode cX9_chance 4 = .ok (.ifCond .ne 10, 3) := by decide +kernel
theorem dX9_chance_7 : decode cX9_chance 7 = .ok (.aload_n 0, 1) := by decide +kernel
theorem dX9_chance_8 : decode cX9_chance 8 = .ok (.bipush (-2), 2) := by decide +kernel
theorem dX9_chance_10 : decode cX9_chance 10 = .ok (.invokevirtual 98, 3) := by decide +kernel
theorem dX9_chance_13 : decode cX9_chance 13 = .ok (.ireturn, 1) := by decide +kernel
theorem dX9_chance_14 : decode cX9_chance 14 = .ok (.aload_n 0, 1) := by decide +kernel
theorem dX9_chance_15 : decode cX9_chance 15 = .ok (.getfield 7, 3) := by decide +kernel
theorem dX9_chance_18 : decode cX9_chance 18 = .ok (.iconst 4, 1) := by decide +kernel
theorem dX9_chance_19 : decode cX9_chance 19 = .ok (.if_icmp .gt 20, 3) := by decide +kernel
theorem dX9_chance_22 : decode cX9_chance 22 = .ok (.aload_n 0, 1) := by decide +kernel
theorem dX9_chance_23 : decode cX9_chance 23 = .ok (.iload_n 1, 1) := by decide +kernel
theorem dX9_chance_24 : decode cX9_chance 24 = .ok (.invokevirtual 307, 3) := by decide +kernel
theorem dX9_chance_27 : decode cX9_chance 27 = .ok (.ifCond .eq 12, 3) := by decide +kernel
theorem dX9_chance_30 : decode cX9_chance 30 = .ok (.aload_n 0, 1) := by decide +kernel
theorem dX9_chance_31 : decode cX9_chance 31 = .ok (.getfield 304, 3) := by decide +kernel
theorem dX9_chance_34 : decode cX9_chance 34 = .ok (.bipush 8, 2) := by decide +kernel
theorem dX9_chance_36 : decode cX9_chance 36 = .ok (.if_icmp .le 10, 3) := by decide +kernel
theorem dX9_chance_39 : decode cX9_chance 39 = .ok (.aload_n 0, 1) := by decide +kernel
theorem dX9_chance_40 : decode cX9_chance 40 = .ok (.bipush (-3), 2) := by decide +kernel
theorem dX9_chance_42 : decode cX9_chance 42 = .ok (.invokevirtual 98, 3) := by decide +kernel
theorem dX9_chance_45 : decode cX9_chance 45 = .ok (.ireturn, 1) := by decide +kernel
theorem dX9_chance_46 : decode cX9_chance 46 = .ok (.aload_n 0, 1) := by decide +kernel
theorem dX9_chance_47 : decode cX9_chance 47 = .ok (.iload_n 1, 1) := by decide +kernel
theorem dX9_chance_48 : decode cX9_chance 48 = .ok (.invokevirtual 310, 3) := by decide +kernel
theorem dX9_chance_51 : decode cX9_chance 51 = .ok (.aload_n 0, 1) := by decide +kernel
theorem dX9_chance_52 : decode cX9_chance 52 = .ok (.getfield 84, 3) := by decide +kernel
theorem dX9_chance_55 : decode cX9_chance 55 = .ok (.bipush 8, 2) := by decide +kernel
theorem dX9_chance_57 : decode cX9_chance 57 = .ok (.lconst 1, 1) := by decide +kernel
theorem dX9_chance_58 : decode cX9_chance 58 = .ok (.lastore, 1) := by decide +kernel
theorem dX9_chance_59 : decode cX9_chance 59 = .ok (.bipush 7, 2) := by decide +kernel
theorem dX9_chance_61 : decode cX9_chance 61 = .ok (.istore_n 2, 1) := by decide +kernel
theorem dX9_chance_62 : decode cX9_chance 62 = .ok (.iload_n 2, 1) := by decide +kernel
theorem dX9_chance_63 : decode cX9_chance 63 = .ok (.ifCond .lt 29, 3) := by decide +kernel
theorem dX9_chance_66 : decode cX9_chance 66 = .ok (.aload_n 0, 1) := by decide +kernel
theorem dX9_chance_67 : decode cX9_chance 67 = .ok (.getfield 84, 3) := by decide +kernel
theorem dX9_chance_70 : decode cX9_chance 70 = .ok (.iload_n 2, 1) := by decide +kernel
theorem dX9_chance_71 : decode cX9_chance 71 = .ok (.aload_n 0, 1) := by decide +kernel
theorem dX9_chance_72 : decode cX9_chance 72 = .ok (.getfield 84, 3) := by decide +kernel
theorem dX9_chance_75 : decode cX9_chance 75 = .ok (.iload_n 2, 1) := by decide +kernel
theorem dX9_chance_76 : decode cX9_chance 76 = .ok (.iconst 1, 1) := by decide +kernel
theorem dX9_chance_77 : decode cX9_chance 77 = .ok (.iadd, 1) := by decide +kernel
theorem dX9_chance_78 : decode cX9_chance 78 = .ok (.laload, 1) := by decide +kernel
theorem dX9_chance_79 : decode cX9_chance 79 = .ok (.iload_n 2, 1) := by decide +kernel
theorem dX9_chance_80 : decode cX9_chance 80 = .ok (.invokestatic 317, 3) := by decide +kernel
theorem dX9_chance_83 : decode cX9_chance 83 = .ok (.i2l, 1) := by decide +kernel
theorem dX9_chance_84 : decode cX9_chance 84 = .ok (.lmul, 1) := by decide +kernel
theorem dX9_chance_85 : decode cX9_chance 85 = .ok (.lastore, 1) := by decide +kernel
theorem dX9_chance_86 : decode cX9_chance 86 = .ok (.iinc 2 (-1), 3) := by decide +kernel
theorem dX9_chance_89 : decode cX9_chance 89 = .ok (.goto (-27), 3) := by decide +kernel
theorem dX9_chance_92 : decode cX9_chance 92 = .ok (.iconst 1, 1) := by decide +kernel
theorem dX9_chance_93 : decode cX9_chance 93 = .ok (.aload_n 0, 1) := by decide +kernel
theorem dX9_chance_94 : decode cX9_chance 94 = .ok (.getfield 304, 3) := by decide +kernel
theorem dX9_chance_97 : decode cX9_chance 97 = .ok (.ishl, 1) := by decide +kernel
theorem dX9_chance_98 : decode cX9_chance 98 = .ok (.iconst 1, 1) := by decide +kernel
theorem dX9_chance_99 : decode cX9_chance 99 = .ok (.isub, 1) := by decide +kernel
theorem dX9_chance_100 : decode cX9_chance 100 = .ok (.istore_n 2, 1) := by decide +kernel
theorem dX9_chance_101 : decode cX9_chance 101 = .ok (.iload_n 2, 1) := by decide +kernel
theorem dX9_chance_102 : decode cX9_chance 102 = .ok (.ifCond .lt 121, 3) := by decide +kernel
theorem dX9_chance_105 : decode cX9_chance 105 = .ok (.iload_n 2, 1) := by decide +kernel
theorem dX9_chance_106 : decode cX9_chance 106 = .ok (.invokestatic 194, 3) := by decide +kernel
theorem dX9_chance_109 : decode cX9_chance 109 = .ok (.istore_n 3, 1) := by decide +kernel
theorem dX9_chance_110 : decode cX9_chance 110 = .ok (.aload_n 0, 1) := by decide +kernel
theorem dX9_chance_111 : decode cX9_chance 111 = .ok (.getfield 74, 3) := by decide +kernel
theorem dX9_chance_114 : decode cX9_chance 114 = .ok (.iload_n 2, 1) := by decide +kernel
theorem dX9_chance_115 : decode cX9_chance 115 = .ok (.iaload, 1) := by decide +kernel
theorem dX9_chance_116 : decode cX9_chance 116 = .ok (.iconst (-1), 1) := by decide +kernel
theorem dX9_chance_117 : decode cX9_chance 117 = .ok (.if_icmp .ne 7, 3) := by decide +kernel
theorem dX9_chance_120 : decode cX9_chance 120 = .ok (.iconst 0, 1) := by decide +kernel
theorem dX9_chance_121 : decode cX9_chance 121 = .ok (.goto 12, 3) := by decide +kernel
theorem dX9_chance_124 : decode cX9_chance 124 = .ok (.aload_n 0, 1) := by decide +kernel
theorem dX9_chance_125 : decode cX9_chance 125 = .ok (.getfield 74, 3) := by decide +kernel
theorem dX9_chance_128 : decode cX9_chance 128 = .ok (.iload_n 2, 1) := by decide +kernel
theorem dX9_chance_129 : decode cX9_chance 129 = .ok (.iaload, 1) := by decide +kernel
theorem dX9_chance_130 : decode cX9_chance 130 = .ok (.invokestatic 194, 3) := by decide +kernel
theorem dX9_chance_133 : decode cX9_chance 133 = .ok (.istore 4, 2) := by decide +kernel
theorem dX9_chance_135 : decode cX9_chance 135 = .ok (.aload_n 0, 1) := by decide +kernel
theorem dX9_chance_136 : decode cX9_chance 136 = .ok (.getfield 81, 3) := by decide +kernel
theorem dX9_chance_139 : decode cX9_chance 139 = .ok (.iload_n 2, 1) := by decide +kernel
theorem dX9_chance_140 : decode cX9_chance 140 = .ok (.lconst 0, 1) := by decide +kernel
theorem dX9_chance_141 : decode cX9_chance 141 = .ok (.lastore, 1) := by decide +kernel
theorem dX9_chance_142 : decode cX9_chance 142 = .ok (.iconst 0, 1) := by decide +kernel
theorem dX9_chance_143 : decode cX9_chance 143 = .ok (.istore 5, 2) := by decide +kernel
theorem dX9_chance_145 : decode cX9_chance 145 = .ok (.iload 5, 2) := by decide +kernel
theorem dX9_chance_147 : decode cX9_chance 147 = .ok (.aload_n 0, 1) := by decide +kernel
theorem dX9_chance_148 : decode cX9_chance 148 = .ok (.getfield 304, 3) := by decide +kernel
theorem dX9_chance_151 : decode cX9_chance 151 = .ok (.if_icmp .ge 66, 3) := by decide +kernel
theorem dX9_chance_154 : decode cX9_chance 154 = .ok (.iload 4, 2) := by decide +kernel
theorem dX9_chance_156 : decode cX9_chance 156 = .ok (.ifCond .le 61, 3) := by decide +kernel
theorem dX9_chance_159 : decode cX9_chance 159 = .ok (.aload_n 0, 1) := by decide +kernel
theorem dX9_chance_160 : decode cX9_chance 160 = .ok (.getfield 81, 3) := by decide +kernel
theorem dX9_chance_163 : decode cX9_chance 163 = .ok (.iload_n 2, 1) := by decide +kernel
theorem dX9_chance_164 : decode cX9_chance 164 = .ok (.dup2, 1) := by decide +kernel
theorem dX9_chance_165 : decode cX9_chance 165 = .ok (.laload, 1) := by decide +kernel
theorem dX9_chance_166 : decode cX9_chance 166 = .ok (.aload_n 0, 1) := by decide +kernel
theorem dX9_chance_167 : decode cX9_chance 167 = .ok (.iload_n 2, 1) := by decide +kernel
theorem dX9_chance_168 : decode cX9_chance 168 = .ok (.iload 5, 2) := by decide +kernel
theorem dX9_chance_170 : decode cX9_chance 170 = .ok (.invokevirtual 314, 3) := by decide +kernel
theorem dX9_chance_173 : decode cX9_chance 173 = .ok (.ifCond .eq 35, 3) := by decide +kernel
theorem dX9_chance_176 : decode cX9_chance 176 = .ok (.aload_n 0, 1) := by decide +kernel
theorem dX9_chance_177 : decode cX9_chance 177 = .ok (.getfield 84, 3) := by decide +kernel
theorem dX9_chance_180 : decode cX9_chance 180 = .ok (.iload_n 3, 1) := by decide +kernel
theorem dX9_chance_181 : decode cX9_chance 181 = .ok (.iconst 1, 1) := by decide +kernel
theorem dX9_chance_182 : decode cX9_chance 182 = .ok (.iadd, 1) := by decide +kernel
theorem dX9_chance_183 : decode cX9_chance 183 = .ok (.laload, 1) := by decide +kernel
theorem dX9_chance_184 : decode cX9_chance 184 = .ok (.aload_n 0, 1) := by decide +kernel
theorem dX9_chance_185 : decode cX9_chance 185 = .ok (.getfield 81, 3) := by decide +kernel
theorem dX9_chance_188 : decode cX9_chance 188 = .ok (.iload_n 2, 1) := by decide +kernel
theorem dX9_chance_189 : decode cX9_chance 189 = .ok (.iconst 1, 1) := by decide +kernel
theorem dX9_chance_190 : decode cX9_chance 190 = .ok (.iload 5, 2) := by decide +kernel
theorem dX9_chance_192 : decode cX9_chance 192 = .ok (.ishl, 1) := by decide +kernel
theorem dX9_chance_193 : decode cX9_chance 193 = .ok (.ior, 1) := by decide +kernel
theorem dX9_chance_194 : decode cX9_chance 194 = .ok (.laload, 1) := by decide +kernel
theorem dX9_chance_195 : decode cX9_chance 195 = .ok (.lsub, 1) := by decide +kernel
theorem dX9_chance_196 : decode cX9_chance 196 = .ok (.iload_n 3, 1) := by decide +kernel
theorem dX9_chance_197 : decode cX9_chance 197 = .ok (.invokestatic 317, 3) := by decide +kernel
theorem dX9_chance_200 : decode cX9_chance 200 = .ok (.iload 4, 2) := by decide +kernel
theorem dX9_chance_202 : decode cX9_chance 202 = .ok (.idiv, 1) := by decide +kernel
theorem dX9_chance_203 : decode cX9_chance 203 = .ok (.i2l, 1) := by decide +kernel
theorem dX9_chance_204 : decode cX9_chance 204 = .ok (.lmul, 1) := by decide +kernel
theorem dX9_chance_205 : decode cX9_chance 205 = .ok (.goto 4, 3) := by decide +kernel
theorem dX9_chance_208 : decode cX9_chance 208 = .ok (.lconst 0, 1) := by decide +kernel
theorem dX9_chance_209 : decode cX9_chance 209 = .ok (.ladd, 1) := by decide +kernel
theorem dX9_chance_210 : decode cX9_chance 210 = .ok (.lastore, 1) := by decide +kernel
theorem dX9_chance_211 : decode cX9_chance 211 = .ok (.iinc 5 1, 3) := by decide +kernel
theorem dX9_chance_214 : decode cX9_chance 214 = .ok (.goto (-69), 3) := by decide +kernel
theorem dX9_chance_217 : decode cX9_chance 217 = .ok (.iinc 2 (-1), 3) := by decide +kernel
theorem dX9_chance_220 : decode cX9_chance 220 = .ok (.goto (-119), 3) := by decide +kernel
theorem dX9_chance_223 : decode cX9_chance 223 = .ok (.aload_n 0, 1) := by decide +kernel
theorem dX9_chance_224 : decode cX9_chance 224 = .ok (.aload_n 0, 1) := by decide +kernel
theorem dX9_chance_225 : decode cX9_chance 225 = .ok (.getfield 81, 3) := by decide +kernel
theorem dX9_chance_228 : decode cX9_chance 228 = .ok (.iconst 0, 1) := by decide +kernel
theorem dX9_chance_229 : decode cX9_chance 229 = .ok (.laload, 1) := by decide +kernel
theorem dX9_chance_230 : decode cX9_chance 230 = .ok (.aload_n 0, 1) := by decide +kernel
theorem dX9_chance_231 : decode cX9_chance 231 = .ok (.getfield 84, 3) := by decide +kernel
theorem dX9_chance_234 : decode cX9_chance 234 = .ok (.iconst 0, 1) := by decide +kernel
theorem dX9_chance_235 : decode cX9_chance 235 = .ok (.laload, 1) := by decide +kernel
theorem dX9_chance_236 : decode cX9_chance 236 = .ok (.invokevirtual 230, 3) := by decide +kernel
theorem dX9_chance_239 : decode cX9_chance 239 = .ok (.iconst 1, 1) := by decide +kernel
theorem dX9_chance_240 : decode cX9_chance 240 = .ok (.ireturn, 1) := by decide +kernel
set_option maxRecDepth 20000 in
theorem ggX9_greatest_X9_in : GoodIn wsX9_greatest wsX9_in := goodIn_r _ [5] (by decide +kernel) (by decide +kernel)
set_option maxRecDepth 20000 in
theorem gX9_greatest_X9_in : GoodIn wsX9_greatest (va_wsS RX9 92 yX9_in wsX9_in) := goodIn_app (goodIn_of _ (by decide +kernel)) ggX9_greatest_X9_in
set_option maxRecDepth 20000 in
theorem ggX9_greatest_X9_chosen : GoodIn wsX9_greatest wsX9_chosen := goodIn_r _ [9, 10, 16, 17, 18, 19, 20, 21, 22, 23, 24, 25, 26, 27, 28, 29, 30, 31, 32, 33, 34, 35, 36, 37, 38, 39, 40, 41, 42, 43, 44, 45, 46, 47, 48, 49, 50, 51, 52, 53, 54, 55, 56, 57, 58, 59, 60, 61, 62, 63, 64, 65, 66] (by decide +kernel) (by decide +kernel)
set_option maxRecDepth 20000 in
theorem gX9_greatest_X9_chosen : GoodIn wsX9_greatest (wsV RX9 226 RX9 yX9_chosen wsX9_chosen) := goodIn_app (goodIn_of _ (by decide +kernel)) ggX9_greatest_X9_chosen
set_option maxRecDepth 20000 in
theorem ggX9_greatest_X9_refuse : GoodIn wsX9_greatest wsX9_refuse := goodIn_r _ [14, 15, 16, 17, 18, 19, 20, 21, 22, 23, 24, 25, 26, 27, 28, 29, 30, 31, 32, 33, 34, 35, 36, 37, 38, 39, 40, 41, 42, 43, 44, 45, 46, 47, 48, 49, 50, 51, 52, 53, 54, 55, 56, 57, 58, 59, 60, 61, 62, 63, 64, 65, 66] (by decide +kernel) (by decide +kernel)
set_option maxRecDepth 20000 in
theorem gX9_greatest_X9_refuse : GoodIn wsX9_greatest (wsV RX9 98 RX9 yX9_refuse wsX9_refuse) := goodIn_app (goodIn_of _ (by decide +kernel)) ggX9_greatest_X9_refuse
theorem dX9_greatest_0 : decode cX9_greatest 0 = .ok (.iload_n 1, 1) := by decide +kernel
theorem dX9_greatest_1 : decode cX9_greatest 1 = .ok (.i2l, 1) := by decide +kernel
theorem dX9_greatest_2 : decode cX9_greatest 2 = .ok (.lconst 0, 1) := by decide +kernel
theorem dX9_greatest_3 : decode cX9_greatest 3 = .ok (.ldc2_w 320, 3) := by decide +kernel
theorem dX9_greatest_6 : decode cX9_greatest 6 = .ok (.invokestatic 92, 3) := by decide +kernel
theorem dX9_greatest_9 : decode cX9_greatest 9 = .ok (.ifCond .eq 14, 3) := by decide +kernel
theorem dX9_greatest_12 : decode cX9_greatest 12 = .ok (.aload_n 0, 1) := by decide +kernel
theorem dX9_greatest_13 : decode cX9_greatest 13 = .ok (.iload_n 1, 1) := by decide +kernel
theorem dX9_greatest_14 : decode cX9_greatest 14 = .ok (.iload_n 1, 1) := by decide +kernel
theorem dX9_greatest_15 : decode cX9_greatest 15 = .ok (.iconst 2, 1) := by decide +kernel
theorem dX9_greatest_16 : decode cX9_greatest 16 = .ok (.idiv, 1) := by decide +kernel
theorem dX9_greatest_17 : decode cX9_greatest 17 = .ok (.invokevirtual 226, 3) := by decide +kernel
theorem dX9_greatest_20 : decode cX9_greatest 20 = .ok (.goto 10, 3) := by decide +kernel
theorem dX9_greatest_23 : decode cX9_greatest 23 = .ok (.aload_n 0, 1) := by decide +kernel
theorem dX9_greatest_24 : decode cX9_greatest 24 = .ok (.bipush (-2), 2) := by decide +kernel
theorem dX9_greatest_26 : decode cX9_greatest 26 = .ok (.invokevirtual 98, 3) := by decide +kernel
theorem dX9_greatest_29 : decode cX9_greatest 29 = .ok (.i2l, 1) := by decide +kernel
theorem dX9_greatest_30 : decode cX9_greatest 30 = .ok (.lreturn, 1) := by decide +kernel
set_option maxRecDepth 20000 in
theorem ggX9_shared_X9_in : GoodIn wsX9_shared wsX9_in := goodIn_r _ [7] (by decide +kernel) (by decide +kernel)
set_option maxRecDepth 20000 in
theorem gX9_shared_X9_in : GoodIn wsX9_shared (va_wsS RX9 92 yX9_in wsX9_in) := goodIn_app (goodIn_of _ (by decide +kernel)) ggX9_shared_X9_in
set_option maxRecDepth 20000 in
theorem ggX9_shared_X9_chosen : GoodIn wsX9_shared wsX9_chosen := goodIn_r _ [11, 12, 18, 19, 20, 21, 22, 23, 24, 25, 26, 27, 28, 29, 30, 31, 32, 33, 34, 35, 36, 37, 38, 39, 40, 41, 42, 43, 44, 45, 46, 47, 48, 49, 50, 51, 52, 53, 54, 55, 56, 57, 58, 59, 60, 61, 62, 63, 64, 65, 66, 67, 68] (by decide +kernel) (by decide +kernel)
set_option maxRecDepth 20000 in
theorem gX9_shared_X9_chosen : GoodIn wsX9_shared (wsV RX9 226 RX9 yX9_chosen wsX9_chosen) := goodIn_app (goodIn_of _ (by decide +kernel)) ggX9_shared_X9_chosen
set_option maxRecDepth 20000 in
theorem ggX9_shared_X9_refuse : GoodIn wsX9_shared wsX9_refuse := goodIn_r _ [16, 17, 18, 19, 20, 21, 22, 23, 24, 25, 26, 27, 28, 29, 30, 31, 32, 33, 34, 35, 36, 37, 38, 39, 40, 41, 42, 43, 44, 45, 46, 47, 48, 49, 50, 51, 52, 53, 54, 55, 56, 57, 58, 59, 60, 61, 62, 63, 64, 65, 66, 67, 68] (by decide +kernel) (by decide +kernel)
set_option maxRecDepth 20000 in
theorem gX9_shared_X9_refuse : GoodIn wsX9_shared (wsV RX9 98 RX9 yX9_refuse wsX9_refuse) := goodIn_app (goodIn_of _ (by decide +kernel)) ggX9_shared_X9_refuse
theorem dX9_shared_0 : decode cX9_shared 0 = .ok (.iload_n 2, 1) := by decide +kernel
theorem dX9_shared_1 : decode cX9_shared 1 = .ok (.i2l, 1) := by decide +kernel
theorem dX9_shared_2 : decode cX9_shared 2 = .ok (.lconst 1, 1) := by decide +kernel
theorem dX9_shared_3 : decode cX9_shared 3 = .ok (.ldc2_w 322, 3) := by decide +kernel
theorem dX9_shared_6 : decode cX9_shared 6 = .ok (.invokestatic 92, 3) := by decide +kernel
theorem dX9_shared_9 : decode cX9_shared 9 = .ok (.ifCond .eq 33, 3) := by decide +kernel
theorem dX9_shared_12 : decode cX9_shared 12 = .ok (.iload_n 1, 1) := by decide +kernel
theorem dX9_shared_13 : decode cX9_shared 13 = .ok (.i2l, 1) := by decide +kernel
theorem dX9_shared_14 : decode cX9_shared 14 = .ok (.ldc2_w 324, 3) := by decide +kernel
theorem dX9_shared_17 : decode cX9_shared 17 = .ok (.iload_n 2, 1) := by decide +kernel
theorem dX9_shared_18 : decode cX9_shared 18 = .ok (.i2l, 1) := by decide +kernel
theorem dX9_shared_19 : decode cX9_shared 19 = .ok (.lmul, 1) := by decide +kernel
theorem dX9_shared_20 : decode cX9_shared 20 = .ok (.ldc2_w 320, 3) := by decide +kernel
theorem dX9_shared_23 : decode cX9_shared 23 = .ok (.invokestatic 92, 3) := by decide +kernel
theorem dX9_shared_26 : decode cX9_shared 26 = .ok (.ifCond .eq 16, 3) := by decide +kernel
theorem dX9_shared_29 : decode cX9_shared 29 = .ok (.aload_n 0, 1) := by decide +kernel
theorem dX9_shared_30 : decode cX9_shared 30 = .ok (.iload_n 1, 1) := by decide +kernel
theorem dX9_shared_31 : decode cX9_shared 31 = .ok (.iconst 1, 1) := by decide +kernel
theorem dX9_shared_32 : decode cX9_shared 32 = .ok (.isub, 1) := by decide +kernel
theorem dX9_shared_33 : decode cX9_shared 33 = .ok (.iload_n 2, 1) := by decide +kernel
theorem dX9_shared_34 : decode cX9_shared 34 = .ok (.iconst 1, 1) := by decide +kernel
theorem dX9_shared_35 : decode cX9_shared 35 = .ok (.isub, 1) := by decide +kernel
theorem dX9_shared_36 : decode cX9_shared 36 = .ok (.invokevirtual 226, 3) := by decide +kernel
theorem dX9_shared_39 : decode cX9_shared 39 = .ok (.goto 10, 3) := by decide +kernel
theorem dX9_shared_42 : decode cX9_shared 42 = .ok (.aload_n 0, 1) := by decide +kernel
theorem dX9_shared_43 : decode cX9_shared 43 = .ok (.bipush (-2), 2) := by decide +kernel
theorem dX9_shared_45 : decode cX9_shared 45 = .ok (.invokevirtual 98, 3) := by decide +kernel
theorem dX9_shared_48 : decode cX9_shared 48 = .ok (.i2l, 1) := by decide +kernel
theorem dX9_shared_49 : decode cX9_shared 49 = .ok (.lreturn, 1) := by decide +kernel
set_option maxRecDepth 20000 in
theorem ggX9_several_X9_in : GoodIn wsX9_several wsX9_in := goodIn_r _ [7] (by decide +kernel) (by decide +kernel)
set_option maxRecDepth 20000 in
theorem gX9_several_X9_in : GoodIn wsX9_several (va_wsS RX9 92 yX9_in wsX9_in) := goodIn_app (goodIn_of _ (by decide +kernel)) ggX9_several_X9_in
set_option maxRecDepth 20000 in
theorem ggX9_several_X9_refuse : GoodIn wsX9_several wsX9_refuse := goodIn_r _ [11, 12, 13, 14, 15, 16, 17, 18, 19, 20, 21, 22, 23, 24, 25, 26, 27, 28, 29, 30, 31, 32, 33, 34, 35, 36, 37, 38, 39, 40, 41, 42, 43, 44, 45, 46, 47, 48, 49, 50, 51, 52, 53, 54, 55, 56, 57, 58, 59, 60, 61, 62, 63] (by decide +kernel) (by decide +kernel)
set_option maxRecDepth 20000 in
theorem gX9_several_X9_refuse : GoodIn wsX9_several (wsV RX9 98 RX9 yX9_refuse wsX9_refuse) := goodIn_app (goodIn_of _ (by decide +kernel)) ggX9_several_X9_refuse
theorem dX9_several_0 : decode cX9_several 0 = .ok (.iload_n 1, 1) := by decide +kernel
theorem dX9_several_1 : decode cX9_several 1 = .ok (.i2l, 1) := by decide +kernel
theorem dX9_several_2 : decode cX9_several 2 = .ok (.lconst 0, 1) := by decide +kernel
theorem dX9_several_3 : decode cX9_several 3 = .ok (.ldc2_w 326, 3) := by decide +kernel
theorem dX9_several_6 : decode cX9_several 6 = .ok (.invokestatic 92, 3) := by decide +kernel
theorem dX9_several_9 : decode cX9_several 9 = .ok (.ifCond .eq 15, 3) := by decide +kernel
theorem dX9_several_12 : decode cX9_several 12 = .ok (.iload_n 2, 1) := by decide +kernel
theorem dX9_several_13 : decode cX9_several 13 = .ok (.i2l, 1) := by decide +kernel
theorem dX9_several_14 : decode cX9_several 14 = .ok (.lconst 0, 1) := by decide +kernel
theorem dX9_several_15 : decode cX9_several 15 = .ok (.ldc2_w 328, 3) := by decide +kernel
theorem dX9_several_18 : decode cX9_several 18 = .ok (.invokestatic 92, 3) := by decide +kernel
theorem dX9_several_21 : decode cX9_several 21 = .ok (.ifCond .ne 10, 3) := by decide +kernel
theorem dX9_several_24 : decode cX9_several 24 = .ok (.aload_n 0, 1) := by decide +kernel
theorem dX9_several_25 : decode cX9_several 25 = .ok (.bipush (-2), 2) := by decide +kernel
theorem dX9_several_27 : decode cX9_several 27 = .ok (.invokevirtual 98, 3) := by decide +kernel
theorem dX9_several_30 : decode cX9_several 30 = .ok (.ireturn, 1) := by decide +kernel
theorem dX9_several_31 : decode cX9_several 31 = .ok (.aload_n 0, 1) := by decide +kernel
theorem dX9_several_32 : decode cX9_several 32 = .ok (.getfield 23, 3) := by decide +kernel
theorem dX9_several_35 : decode cX9_several 35 = .ok (.iload_n 1, 1) := by decide +kernel
theorem dX9_several_36 : decode cX9_several 36 = .ok (.iaload, 1) := by decide +kernel
theorem dX9_several_37 : decode cX9_several 37 = .ok (.istore_n 3, 1) := by decide +kernel
theorem dX9_several_38 : decode cX9_several 38 = .ok (.aload_n 0, 1) := by decide +kernel
theorem dX9_several_39 : decode cX9_several 39 = .ok (.getfield 23, 3) := by decide +kernel
theorem dX9_several_42 : decode cX9_several 42 = .ok (.iload_n 1, 1) := by decide +kernel
theorem dX9_several_43 : decode cX9_several 43 = .ok (.iload_n 2, 1) := by decide +kernel
theorem dX9_several_44 : decode cX9_several 44 = .ok (.iastore, 1) := by decide +kernel
theorem dX9_several_45 : decode cX9_several 45 = .ok (.iload_n 3, 1) := by decide +kernel
theorem dX9_several_46 : decode cX9_several 46 = .ok (.ireturn, 1) := by decide +kernel
theorem dX9_spread_0 : decode cX9_spread 0 = .ok (.iconst 0, 1) := by decide +kernel
theorem dX9_spread_1 : decode cX9_spread 1 = .ok (.istore_n 1, 1) := by decide +kernel
theorem dX9_spread_2 : decode cX9_spread 2 = .ok (.iload_n 1, 1) := by decide +kernel
theorem dX9_spread_3 : decode cX9_spread 3 = .ok (.bipush 72, 2) := by decide +kernel
theorem dX9_spread_5 : decode cX9_spread 5 = .ok (.if_icmp .gt 24, 3) := by decide +kernel
theorem dX9_spread_8 : decode cX9_spread 8 = .ok (.aload_n 0, 1) := by decide +kernel
theorem dX9_spread_9 : decode cX9_spread 9 = .ok (.getfield 87, 3) := by decide +kernel
theorem dX9_spread_12 : decode cX9_spread 12 = .ok (.iload_n 1, 1) := by decide +kernel
theorem dX9_spread_13 : decode cX9_spread 13 = .ok (.iload_n 1, 1) := by decide +kernel
theorem dX9_spread_14 : decode cX9_spread 14 = .ok (.ifCond .ne 7, 3) := by decide +kernel
theorem dX9_spread_17 : decode cX9_spread 17 = .ok (.lconst 1, 1) := by decide +kernel
theorem dX9_spread_18 : decode cX9_spread 18 = .ok (.goto 4, 3) := by decide +kernel
theorem dX9_spread_21 : decode cX9_spread 21 = .ok (.lconst 0, 1) := by decide +kernel
theorem dX9_spread_22 : decode cX9_spread 22 = .ok (.lastore, 1) := by decide +kernel
theorem dX9_spread_23 : decode cX9_spread 23 = .ok (.iinc 1 1, 3) := by decide +kernel
theorem dX9_spread_26 : decode cX9_spread 26 = .ok (.goto (-24), 3) := by decide +kernel
theorem dX9_spread_29 : decode cX9_spread 29 = .ok (.iconst 0, 1) := by decide +kernel
theorem dX9_spread_30 : decode cX9_spread 30 = .ok (.istore_n 1, 1) := by decide +kernel
theorem dX9_spread_31 : decode cX9_spread 31 = .ok (.iconst 0, 1) := by decide +kernel
theorem dX9_spread_32 : decode cX9_spread 32 = .ok (.istore_n 2, 1) := by decide +kernel
theorem dX9_spread_33 : decode cX9_spread 33 = .ok (.iload_n 2, 1) := by decide +kernel
theorem dX9_spread_34 : decode cX9_spread 34 = .ok (.bipush 8, 2) := by decide +kernel
theorem dX9_spread_36 : decode cX9_spread 36 = .ok (.if_icmp .ge 75, 3) := by decide +kernel
theorem dX9_spread_39 : decode cX9_spread 39 = .ok (.iload_n 1, 1) := by decide +kernel
theorem dX9_spread_40 : decode cX9_spread 40 = .ok (.aload_n 0, 1) := by decide +kernel
theorem dX9_spread_41 : decode cX9_spread 41 = .ok (.getfield 23, 3) := by decide +kernel
theorem dX9_spread_44 : decode cX9_spread 44 = .ok (.iload_n 2, 1) := by decide +kernel
theorem dX9_spread_45 : decode cX9_spread 45 = .ok (.iaload, 1) := by decide +kernel
theorem dX9_spread_46 : decode cX9_spread 46 = .ok (.iadd, 1) := by decide +kernel
theorem dX9_spread_47 : decode cX9_spread 47 = .ok (.istore_n 1, 1) := by decide +kernel
theorem dX9_spread_48 : decode cX9_spread 48 = .ok (.bipush 72, 2) := by decide +kernel
theorem dX9_spread_50 : decode cX9_spread 50 = .ok (.istore_n 3, 1) := by decide +kernel
theorem dX9_spread_51 : decode cX9_spread 51 = .ok (.iload_n 3, 1) := by decide +kernel
theorem dX9_spread_52 : decode cX9_spread 52 = .ok (.ifCond .lt 53, 3) := by decide +kernel
theorem dX9_spread_55 : decode cX9_spread 55 = .ok (.iconst 1, 1) := by decide +kernel
theorem dX9_spread_56 : decode cX9_spread 56 = .ok (.istore 4, 2) := by decide +kernel
theorem dX9_spread_58 : decode cX9_spread 58 = .ok (.iload 4, 2) := by decide +kernel
theorem dX9_spread_60 : decode cX9_spread 60 = .ok (.aload_n 0, 1) := by decide +kernel
theorem dX9_spread_61 : decode cX9_spread 61 = .ok (.getfield 23, 3) := by decide +kernel
theorem dX9_spread_64 : decode cX9_spread 64 = .ok (.iload_n 2, 1) := by decide +kernel
theorem dX9_spread_65 : decode cX9_spread 65 = .ok (.iaload, 1) := by decide +kernel
theorem dX9_spread_66 : decode cX9_spread 66 = .ok (.if_icmp .gt 33, 3) := by decide +kernel
theorem dX9_spread_69 : decode cX9_spread 69 = .ok (.iload 4, 2) := by decide +kernel
theorem dX9_spread_71 : decode cX9_spread 71 = .ok (.iload_n 3, 1) := by decide +kernel
theorem dX9_spread_72 : decode cX9_spread 72 = .ok (.if_icmp .gt 27, 3) := by decide +kernel
theorem dX9_spread_75 : decode cX9_spread 75 = .ok (.aload_n 0, 1) := by decide +kernel
theorem dX9_spread_76 : decode cX9_spread 76 = .ok (.getfield 87, 3) := by decide +kernel
theorem dX9_spread_79 : decode cX9_spread 79 = .ok (.iload_n 3, 1) := by decide +kernel
theorem dX9_spread_80 : decode cX9_spread 80 = .ok (.dup2, 1) := by decide +kernel
theorem dX9_spread_81 : decode cX9_spread 81 = .ok (.laload, 1) := by decide +kernel
theorem dX9_spread_82 : decode cX9_spread 82 = .ok (.aload_n 0, 1) := by decide +kernel
theorem dX9_spread_83 : decode cX9_spread 83 = .ok (.getfield 87, 3) := by decide +kernel
theorem dX9_spread_86 : decode cX9_spread 86 = .ok (.iload_n 3, 1) := by decide +kernel
theorem dX9_spread_87 : decode cX9_spread 87 = .ok (.iload 4, 2) := by decide +kernel
theorem dX9_spread_89 : decode cX9_spread 89 = .ok (.isub, 1) := by decide +kernel
theorem dX9_spread_90 : decode cX9_spread 90 = .ok (.laload, 1) := by decide +kernel
theorem dX9_spread_91 : decode cX9_spread 91 = .ok (.ladd, 1) := by decide +kernel
theorem dX9_spread_92 : decode cX9_spread 92 = .ok (.lastore, 1) := by decide +kernel
theorem dX9_spread_93 : decode cX9_spread 93 = .ok (.iinc 4 1, 3) := by decide +kernel
theorem dX9_spread_96 : decode cX9_spread 96 = .ok (.goto (-38), 3) := by decide +kernel
theorem dX9_spread_99 : decode cX9_spread 99 = .ok (.iinc 3 (-1), 3) := by decide +kernel
theorem dX9_spread_102 : decode cX9_spread 102 = .ok (.goto (-51), 3) := by decide +kernel
theorem dX9_spread_105 : decode cX9_spread 105 = .ok (.iinc 2 1, 3) := by decide +kernel
theorem dX9_spread_108 : decode cX9_spread 108 = .ok (.goto (-75), 3) := by decide +kernel
theorem dX9_spread_111 : decode cX9_spread 111 = .ok (.iload_n 1, 1) := by decide +kernel
theorem dX9_spread_112 : decode cX9_spread 112 = .ok (.ireturn, 1) := by decide +kernel
set_option maxRecDepth 20000 in
theorem ggX9_things_X9_in : GoodIn wsX9_things wsX9_in := goodIn_r _ [6] (by decide +kernel) (by decide +kernel)
set_option maxRecDepth 20000 in
theorem gX9_things_X9_in : GoodIn wsX9_things (va_wsS RX9 92 yX9_in wsX9_in) := goodIn_app (goodIn_of _ (by decide +kernel)) ggX9_things_X9_in
set_option maxRecDepth 20000 in
theorem ggX9_things_X9_refuse : GoodIn wsX9_things wsX9_refuse := goodIn_r _ [10, 11, 17, 18, 19, 20, 21, 22, 23, 24, 25, 26, 27, 28, 29, 30, 31, 32, 33, 34, 35, 36, 37, 38, 39, 40, 41, 42, 43, 44, 45, 46, 47, 48, 49, 50, 51, 52, 53, 54, 55, 56, 57, 58, 59, 60, 61, 62, 63, 64, 65, 66, 67] (by decide +kernel) (by decide +kernel)
set_option maxRecDepth 20000 in
theorem gX9_things_X9_refuse : GoodIn wsX9_things (wsV RX9 98 RX9 yX9_refuse wsX9_refuse) := goodIn_app (goodIn_of _ (by decide +kernel)) ggX9_things_X9_refuse
set_option maxRecDepth 20000 in
theorem ggX9_things_X9_spread : GoodIn wsX9_things wsX9_spread := goodIn_r _ [15, 2, 16, 17, 18, 19, 20, 21, 22, 23, 24, 25, 26, 27, 28, 29, 30, 31, 32, 33, 34, 35, 36, 37, 38, 39, 40, 41, 42, 43, 44, 45, 46, 47, 48, 49, 50, 51, 52, 53, 54, 55, 56, 57, 58, 59, 60, 61, 62, 63, 64, 65, 66, 67] (by decide +kernel) (by decide +kernel)
set_option maxRecDepth 20000 in
theorem gX9_things_X9_spread : GoodIn wsX9_things (wsV RX9 332 RX9 yX9_spread wsX9_spread) := goodIn_app (goodIn_of _ (by decide +kernel)) ggX9_things_X9_spread
theorem dX9_things_0 : decode cX9_things 0 = .ok (.iload_n 1, 1) := by decide +kernel
theorem dX9_things_1 : decode cX9_things 1 = .ok (.i2l, 1) := by decide +kernel
theorem dX9_things_2 : decode cX9_things 2 = .ok (.lconst 0, 1) := by decide +kernel
theorem dX9_things_3 : decode cX9_things 3 = .ok (.ldc2_w 330, 3) := by decide +kernel
theorem dX9_things_6 : decode cX9_things 6 = .ok (.invokestatic 92, 3) := by decide +kernel
theorem dX9_things_9 : decode cX9_things 9 = .ok (.ifCond .ne 11, 3) := by decide +kernel
theorem dX9_things_12 : decode cX9_things 12 = .ok (.aload_n 0, 1) := by decide +kernel
theorem dX9_things_13 : decode cX9_things 13 = .ok (.bipush (-2), 2) := by decide +kernel
theorem dX9_things_15 : decode cX9_things 15 = .ok (.invokevirtual 98, 3) := by decide +kernel
theorem dX9_things_18 : decode cX9_things 18 = .ok (.i2l, 1) := by decide +kernel
theorem dX9_things_19 : decode cX9_things 19 = .ok (.lreturn, 1) := by decide +kernel
theorem dX9_things_20 : decode cX9_things 20 = .ok (.aload_n 0, 1) := by decide +kernel
theorem dX9_things_21 : decode cX9_things 21 = .ok (.invokevirtual 332, 3) := by decide +kernel
theorem dX9_things_24 : decode cX9_things 24 = .ok (.istore_n 2, 1) := by decide +kernel
theorem dX9_things_25 : decode cX9_things 25 = .ok (.iload_n 1, 1) := by decide +kernel
theorem dX9_things_26 : decode cX9_things 26 = .ok (.iload_n 2, 1) := by decide +kernel
theorem dX9_things_27 : decode cX9_things 27 = .ok (.if_icmp .le 7, 3) := by decide +kernel
theorem dX9_things_30 : decode cX9_things 30 = .ok (.lconst 0, 1) := by decide +kernel
theorem dX9_things_31 : decode cX9_things 31 = .ok (.goto 9, 3) := by decide +kernel
theorem dX9_things_34 : decode cX9_things 34 = .ok (.aload_n 0, 1) := by decide +kernel
theorem dX9_things_35 : decode cX9_things 35 = .ok (.getfield 87, 3) := by decide +kernel
theorem dX9_things_38 : decode cX9_things 38 = .ok (.iload_n 1, 1) := by decide +kernel
theorem dX9_things_39 : decode cX9_things 39 = .ok (.laload, 1) := by decide +kernel
theorem dX9_things_40 : decode cX9_things 40 = .ok (.lreturn, 1) := by decide +kernel
set_option maxRecDepth 20000 in
theorem ggX9_middle_X9_in : GoodIn wsX9_middle wsX9_in := goodIn_r _ [5] (by decide +kernel) (by decide +kernel)
set_option maxRecDepth 20000 in
theorem gX9_middle_X9_in : GoodIn wsX9_middle (va_wsS RX9 92 yX9_in wsX9_in) := goodIn_app (goodIn_of _ (by decide +kernel)) ggX9_middle_X9_in
set_option maxRecDepth 20000 in
theorem ggX9_middle_X9_refuse : GoodIn wsX9_middle wsX9_refuse := goodIn_r _ [9, 10, 16, 17, 18, 19, 20, 21, 22, 23, 24, 25, 26, 27, 28, 29, 30, 31, 32, 33, 34, 35, 36, 37, 38, 39, 40, 41, 42, 43, 44, 45, 46, 47, 48, 49, 50, 51, 52, 53, 54, 55, 56, 57, 58, 59, 60, 61, 62, 63, 64, 65, 66] (by decide +kernel) (by decide +kernel)
set_option maxRecDepth 20000 in
theorem gX9_middle_X9_refuse : GoodIn wsX9_middle (wsV RX9 98 RX9 yX9_refuse wsX9_refuse) := goodIn_app (goodIn_of _ (by decide +kernel)) ggX9_middle_X9_refuse
set_option maxRecDepth 20000 in
theorem ggX9_middle_X9_spread : GoodIn wsX9_middle wsX9_spread := goodIn_r _ [14, 1, 15, 16, 17, 18, 19, 20, 21, 22, 23, 24, 25, 26, 27, 28, 29, 30, 31, 32, 33, 34, 35, 36, 37, 38, 39, 40, 41, 42, 43, 44, 45, 46, 47, 48, 49, 50, 51, 52, 53, 54, 55, 56, 57, 58, 59, 60, 61, 62, 63, 64, 65, 66] (by decide +kernel) (by decide +kernel)
set_option maxRecDepth 20000 in
theorem gX9_middle_X9_spread : GoodIn wsX9_middle (wsV RX9 332 RX9 yX9_spread wsX9_spread) := goodIn_app (goodIn_of _ (by decide +kernel)) ggX9_middle_X9_spread
theorem dX9_middle_0 : decode cX9_middle 0 = .ok (.iload_n 1, 1) := by decide +kernel
theorem dX9_middle_1 : decode cX9_middle 1 = .ok (.i2l, 1) := by decide +kernel
theorem dX9_middle_2 : decode cX9_middle 2 = .ok (.lconst 0, 1) := by decide +kernel
theorem dX9_middle_3 : decode cX9_middle 3 = .ok (.lconst 1, 1) := by decide +kernel
theorem dX9_middle_4 : decode cX9_middle 4 = .ok (.invokestatic 92, 3) := by decide +kernel
theorem dX9_middle_7 : decode cX9_middle 7 = .ok (.ifCond .ne 10, 3) := by decide +kernel
theorem dX9_middle_10 : decode cX9_middle 10 = .ok (.aload_n 0, 1) := by decide +kernel
theorem dX9_middle_11 : decode cX9_middle 11 = .ok (.bipush (-2), 2) := by decide +kernel
theorem dX9_middle_13 : decode cX9_middle 13 = .ok (.invokevirtual 98, 3) := by decide +kernel
theorem dX9_middle_16 : decode cX9_middle 16 = .ok (.ireturn, 1) := by decide +kernel
theorem dX9_middle_17 : decode cX9_middle 17 = .ok (.aload_n 0, 1) := by decide +kernel
theorem dX9_middle_18 : decode cX9_middle 18 = .ok (.invokevirtual 332, 3) := by decide +kernel
theorem dX9_middle_21 : decode cX9_middle 21 = .ok (.istore_n 2, 1) := by decide +kernel
theorem dX9_middle_22 : decode cX9_middle 22 = .ok (.iconst 0, 1) := by decide +kernel
theorem dX9_middle_23 : decode cX9_middle 23 = .ok (.istore_n 3, 1) := by decide +kernel
theorem dX9_middle_24 : decode cX9_middle 24 = .ok (.iconst 1, 1) := by decide +kernel
theorem dX9_middle_25 : decode cX9_middle 25 = .ok (.istore 4, 2) := by decide +kernel
theorem dX9_middle_27 : decode cX9_middle 27 = .ok (.iload 4, 2) := by decide +kernel
theorem dX9_middle_29 : decode cX9_middle 29 = .ok (.bipush 72, 2) := by decide +kernel
theorem dX9_middle_31 : decode cX9_middle 31 = .ok (.if_icmp .gt 33, 3) := by decide +kernel
theorem dX9_middle_34 : decode cX9_middle 34 = .ok (.aload_n 0, 1) := by decide +kernel
theorem dX9_middle_35 : decode cX9_middle 35 = .ok (.getfield 87, 3) := by decide +kernel
theorem dX9_middle_38 : decode cX9_middle 38 = .ok (.iload 4, 2) := by decide +kernel
theorem dX9_middle_40 : decode cX9_middle 40 = .ok (.laload, 1) := by decide +kernel
theorem dX9_middle_41 : decode cX9_middle 41 = .ok (.aload_n 0, 1) := by decide +kernel
theorem dX9_middle_42 : decode cX9_middle 42 = .ok (.getfield 87, 3) := by decide +kernel
theorem dX9_middle_45 : decode cX9_middle 45 = .ok (.iload_n 3, 1) := by decide +kernel
theorem dX9_middle_46 : decode cX9_middle 46 = .ok (.laload, 1) := by decide +kernel
theorem dX9_middle_47 : decode cX9_middle 47 = .ok (.lcmp, 1) := by decide +kernel
theorem dX9_middle_48 : decode cX9_middle 48 = .ok (.ifCond .le 8, 3) := by decide +kernel
theorem dX9_middle_51 : decode cX9_middle 51 = .ok (.iload 4, 2) := by decide +kernel
theorem dX9_middle_53 : decode cX9_middle 53 = .ok (.goto 4, 3) := by decide +kernel
theorem dX9_middle_56 : decode cX9_middle 56 = .ok (.iload_n 3, 1) := by decide +kernel
theorem dX9_middle_57 : decode cX9_middle 57 = .ok (.istore_n 3, 1) := by decide +kernel
theorem dX9_middle_58 : decode cX9_middle 58 = .ok (.iinc 4 1, 3) := by decide +kernel
theorem dX9_middle_61 : decode cX9_middle 61 = .ok (.goto (-34), 3) := by decide +kernel
theorem dX9_middle_64 : decode cX9_middle 64 = .ok (.iload_n 1, 1) := by decide +kernel
theorem dX9_middle_65 : decode cX9_middle 65 = .ok (.ifCond .ne 7, 3) := by decide +kernel
theorem dX9_middle_68 : decode cX9_middle 68 = .ok (.iload_n 3, 1) := by decide +kernel
theorem dX9_middle_69 : decode cX9_middle 69 = .ok (.goto 4, 3) := by decide +kernel
theorem dX9_middle_72 : decode cX9_middle 72 = .ok (.iload_n 2, 1) := by decide +kernel
theorem dX9_middle_73 : decode cX9_middle 73 = .ok (.ireturn, 1) := by decide +kernel
set_option maxRecDepth 20000 in
theorem ggX9_part_X9_refuse : GoodIn wsX9_part wsX9_refuse := goodIn_r _ [7, 8, 9, 10, 11, 12, 13, 14, 15, 16, 17, 18, 19, 20, 21, 22, 23, 24, 25, 26, 27, 28, 29, 30, 31, 32, 33, 34, 35, 36, 37, 38, 39, 40, 41, 42, 43, 44, 45, 46, 47, 48, 49, 50, 51, 52, 53, 54, 55, 56, 57, 58, 59] (by decide +kernel) (by decide +kernel)
set_option maxRecDepth 20000 in
theorem gX9_part_X9_refuse : GoodIn wsX9_part (wsV RX9 98 RX9 yX9_refuse wsX9_refuse) := goodIn_app (goodIn_of _ (by decide +kernel)) ggX9_part_X9_refuse
theorem dX9_part_0 : decode cX9_part 0 = .ok (.iload_n 1, 1) := by decide +kernel
theorem dX9_part_1 : decode cX9_part 1 = .ok (.ifCond .ne 10, 3) := by decide +kernel
theorem dX9_part_4 : decode cX9_part 4 = .ok (.aload_n 0, 1) := by decide +kernel
theorem dX9_part_5 : decode cX9_part 5 = .ok (.getfield 223, 3) := by decide +kernel
theorem dX9_part_8 : decode cX9_part 8 = .ok (.goto 22, 3) := by decide +kernel
theorem dX9_part_11 : decode cX9_part 11 = .ok (.iload_n 1, 1) := by decide +kernel
theorem dX9_part_12 : decode cX9_part 12 = .ok (.iconst 1, 1) := by decide +kernel
theorem dX9_part_13 : decode cX9_part 13 = .ok (.if_icmp .ne 10, 3) := by decide +kernel
theorem dX9_part_16 : decode cX9_part 16 = .ok (.aload_n 0, 1) := by decide +kernel
theorem dX9_part_17 : decode cX9_part 17 = .ok (.getfield 29, 3) := by decide +kernel
theorem dX9_part_20 : decode cX9_part 20 = .ok (.goto 10, 3) := by decide +kernel
theorem dX9_part_23 : decode cX9_part 23 = .ok (.aload_n 0, 1) := by decide +kernel
theorem dX9_part_24 : decode cX9_part 24 = .ok (.bipush (-2), 2) := by decide +kernel
theorem dX9_part_26 : decode cX9_part 26 = .ok (.invokevirtual 98, 3) := by decide +kernel
theorem dX9_part_29 : decode cX9_part 29 = .ok (.i2l, 1) := by decide +kernel
theorem dX9_part_30 : decode cX9_part 30 = .ok (.lreturn, 1) := by decide +kernel
set_option maxRecDepth 20000 in
theorem ggX9_image_X9_in : GoodIn wsX9_image wsX9_in := goodIn_r _ [12] (by decide +kernel) (by decide +kernel)
set_option maxRecDepth 20000 in
theorem gX9_image_X9_in : GoodIn wsX9_image (va_wsS RX9 92 yX9_in wsX9_in) := goodIn_app (goodIn_of _ (by decide +kernel)) ggX9_image_X9_in
set_option maxRecDepth 20000 in
theorem ggX9_image_X9_refuse : GoodIn wsX9_image wsX9_refuse := goodIn_r _ [16, 17, 18, 19, 20, 21, 22, 23, 24, 25, 26, 27, 28, 29, 30, 31, 32, 33, 34, 35, 36, 37, 38, 39, 40, 41, 42, 43, 44, 45, 46, 47, 48, 49, 50, 51, 52, 53, 54, 55, 56, 57, 58, 59, 60, 61, 62, 63, 64, 65, 66, 67, 68] (by decide +kernel) (by decide +kernel)
set_option maxRecDepth 20000 in
theorem gX9_image_X9_refuse : GoodIn wsX9_image (wsV RX9 98 RX9 yX9_refuse wsX9_refuse) := goodIn_app (goodIn_of _ (by decide +kernel)) ggX9_image_X9_refuse
theorem dX9_image_0 : decode cX9_image 0 = .ok (.iload_n 1, 1) := by decide +kernel
theorem dX9_image_1 : decode cX9_image 1 = .ok (.i2l, 1) := by decide +kernel
theorem dX9_image_2 : decode cX9_image 2 = .ok (.lconst 0, 1) := by decide +kernel
theorem dX9_image_3 : decode cX9_image 3 = .ok (.lconst 1, 1) := by decide +kernel
theorem dX9_image_4 : decode cX9_image 4 = .ok (.invokestatic 92, 3) := by decide +kernel
theorem dX9_image_7 : decode cX9_image 7 = .ok (.ifCond .ne 10, 3) := by decide +kernel
theorem dX9_image_10 : decode cX9_image 10 = .ok (.aload_n 0, 1) := by decide +kernel
theorem dX9_image_11 : decode cX9_image 11 = .ok (.bipush (-2), 2) := by decide +kernel
theorem dX9_image_13 : decode cX9_image 13 = .ok (.invokevirtual 98, 3) := by decide +kernel
theorem dX9_image_16 : decode cX9_image 16 = .ok (.ireturn, 1) := by decide +kernel
theorem dX9_image_17 : decode cX9_image 17 = .ok (.bipush 48, 2) := by decide +kernel
theorem dX9_image_19 : decode cX9_image 19 = .ok (.iload_n 1, 1) := by decide +kernel
theorem dX9_image_20 : decode cX9_image 20 = .ok (.imul, 1) := by decide +kernel
theorem dX9_image_21 : decode cX9_image 21 = .ok (.istore_n 2, 1) := by decide +kernel
theorem dX9_image_22 : decode cX9_image 22 = .ok (.aload_n 0, 1) := by decide +kernel
theorem dX9_image_23 : decode cX9_image 23 = .ok (.getfield 33, 3) := by decide +kernel
theorem dX9_image_26 : decode cX9_image 26 = .ok (.iload_n 2, 1) := by decide +kernel
theorem dX9_image_27 : decode cX9_image 27 = .ok (.iconst 1, 1) := by decide +kernel
theorem dX9_image_28 : decode cX9_image 28 = .ok (.iastore, 1) := by decide +kernel
theorem dX9_image_29 : decode cX9_image 29 = .ok (.aload_n 0, 1) := by decide +kernel
theorem dX9_image_30 : decode cX9_image 30 = .ok (.getfield 33, 3) := by decide +kernel
theorem dX9_image_33 : decode cX9_image 33 = .ok (.iload_n 2, 1) := by decide +kernel
theorem dX9_image_34 : decode cX9_image 34 = .ok (.iconst 1, 1) := by decide +kernel
theorem dX9_image_35 : decode cX9_image 35 = .ok (.iadd, 1) := by decide +kernel
theorem dX9_image_36 : decode cX9_image 36 = .ok (.aload_n 0, 1) := by decide +kernel
theorem dX9_image_37 : decode cX9_image 37 = .ok (.getfield 7, 3) := by decide +kernel
theorem dX9_image_40 : decode cX9_image 40 = .ok (.iastore, 1) := by decide +kernel
theorem dX9_image_41 : decode cX9_image 41 = .ok (.aload_n 0, 1) := by decide +kernel
theorem dX9_image_42 : decode cX9_image 42 = .ok (.getfield 33, 3) := by decide +kernel
theorem dX9_image_45 : decode cX9_image 45 = .ok (.iload_n 2, 1) := by decide +kernel
theorem dX9_image_46 : decode cX9_image 46 = .ok (.iconst 2, 1) := by decide +kernel
theorem dX9_image_47 : decode cX9_image 47 = .ok (.iadd, 1) := by decide +kernel
theorem dX9_image_48 : decode cX9_image 48 = .ok (.aload_n 0, 1) := by decide +kernel
theorem dX9_image_49 : decode cX9_image 49 = .ok (.getfield 105, 3) := by decide +kernel
theorem dX9_image_52 : decode cX9_image 52 = .ok (.iastore, 1) := by decide +kernel
theorem dX9_image_53 : decode cX9_image 53 = .ok (.aload_n 0, 1) := by decide +kernel
theorem dX9_image_54 : decode cX9_image 54 = .ok (.getfield 33, 3) := by decide +kernel
theorem dX9_image_57 : decode cX9_image 57 = .ok (.iload_n 2, 1) := by decide +kernel
theorem dX9_image_58 : decode cX9_image 58 = .ok (.iconst 3, 1) := by decide +kernel
theorem dX9_image_59 : decode cX9_image 59 = .ok (.iadd, 1) := by decide +kernel
theorem dX9_image_60 : decode cX9_image 60 = .ok (.aload_n 0, 1) := by decide +kernel
theorem dX9_image_61 : decode cX9_image 61 = .ok (.getfield 13, 3) := by decide +kernel
theorem dX9_image_64 : decode cX9_image 64 = .ok (.iastore, 1) := by decide +kernel
theorem dX9_image_65 : decode cX9_image 65 = .ok (.aload_n 0, 1) := by decide +kernel
theorem dX9_image_66 : decode cX9_image 66 = .ok (.getfield 33, 3) := by decide +kernel
theorem dX9_image_69 : decode cX9_image 69 = .ok (.iload_n 2, 1) := by decide +kernel
theorem dX9_image_70 : decode cX9_image 70 = .ok (.iconst 4, 1) := by decide +kernel
theorem dX9_image_71 : decode cX9_image 71 = .ok (.iadd, 1) := by decide +kernel
theorem dX9_image_72 : decode cX9_image 72 = .ok (.aload_n 0, 1) := by decide +kernel
theorem dX9_image_73 : decode cX9_image 73 = .ok (.getfield 102, 3) := by decide +kernel
theorem dX9_image_76 : decode cX9_image 76 = .ok (.iastore, 1) := by decide +kernel
theorem dX9_image_77 : decode cX9_image 77 = .ok (.iconst 0, 1) := by decide +kernel
theorem dX9_image_78 : decode cX9_image 78 = .ok (.istore_n 3, 1) := by decide +kernel
theorem dX9_image_79 : decode cX9_image 79 = .ok (.iload_n 3, 1) := by decide +kernel
theorem dX9_image_80 : decode cX9_image 80 = .ok (.bipush 16, 2) := by decide +kernel
theorem dX9_image_82 : decode cX9_image 82 = .ok (.if_icmp .ge 42, 3) := by decide +kernel
theorem dX9_image_85 : decode cX9_image 85 = .ok (.aload_n 0, 1) := by decide +kernel
theorem dX9_image_86 : decode cX9_image 86 = .ok (.getfield 33, 3) := by decide +kernel
theorem dX9_image_89 : decode cX9_image 89 = .ok (.iload_n 2, 1) := by decide +kernel
theorem dX9_image_90 : decode cX9_image 90 = .ok (.iconst 5, 1) := by decide +kernel
theorem dX9_image_91 : decode cX9_image 91 = .ok (.iadd, 1) := by decide +kernel
theorem dX9_image_92 : decode cX9_image 92 = .ok (.iload_n 3, 1) := by decide +kernel
theorem dX9_image_93 : decode cX9_image 93 = .ok (.iadd, 1) := by decide +kernel
theorem dX9_image_94 : decode cX9_image 94 = .ok (.aload_n 0, 1) := by decide +kernel
theorem dX9_image_95 : decode cX9_image 95 = .ok (.getfield 16, 3) := by decide +kernel
theorem dX9_image_98 : decode cX9_image 98 = .ok (.iload_n 3, 1) := by decide +kernel
theorem dX9_image_99 : decode cX9_image 99 = .ok (.iaload, 1) := by decide +kernel
theorem dX9_image_100 : decode cX9_image 100 = .ok (.iastore, 1) := by decide +kernel
theorem dX9_image_101 : decode cX9_image 101 = .ok (.aload_n 0, 1) := by decide +kernel
theorem dX9_image_102 : decode cX9_image 102 = .ok (.getfield 33, 3) := by decide +kernel
theorem dX9_image_105 : decode cX9_image 105 = .ok (.iload_n 2, 1) := by decide +kernel
theorem dX9_image_106 : decode cX9_image 106 = .ok (.bipush 21, 2) := by decide +kernel
theorem dX9_image_108 : decode cX9_image 108 = .ok (.iadd, 1) := by decide +kernel
theorem dX9_image_109 : decode cX9_image 109 = .ok (.iload_n 3, 1) := by decide +kernel
theorem dX9_image_110 : decode cX9_image 110 = .ok (.iadd, 1) := by decide +kernel
theorem dX9_image_111 : decode cX9_image 111 = .ok (.aload_n 0, 1) := by decide +kernel
theorem dX9_image_112 : decode cX9_image 112 = .ok (.getfield 20, 3) := by decide +kernel
theorem dX9_image_115 : decode cX9_image 115 = .ok (.iload_n 3, 1) := by decide +kernel
theorem dX9_image_116 : decode cX9_image 116 = .ok (.iaload, 1) := by decide +kernel
theorem dX9_image_117 : decode cX9_image 117 = .ok (.iastore, 1) := by decide +kernel
theorem dX9_image_118 : decode cX9_image 118 = .ok (.iinc 3 1, 3) := by decide +kernel
theorem dX9_image_121 : decode cX9_image 121 = .ok (.goto (-42), 3) := by decide +kernel
theorem dX9_image_124 : decode cX9_image 124 = .ok (.iconst 0, 1) := by decide +kernel
theorem dX9_image_125 : decode cX9_image 125 = .ok (.istore_n 3, 1) := by decide +kernel
theorem dX9_image_126 : decode cX9_image 126 = .ok (.iload_n 3, 1) := by decide +kernel
theorem dX9_image_127 : decode cX9_image 127 = .ok (.bipush 8, 2) := by decide +kernel
theorem dX9_image_129 : decode cX9_image 129 = .ok (.if_icmp .ge 26, 3) := by decide +kernel
theorem dX9_image_132 : decode cX9_image 132 = .ok (.aload_n 0, 1) := by decide +kernel
theorem dX9_image_133 : decode cX9_image 133 = .ok (.getfield 33, 3) := by decide +kernel
theorem dX9_image_136 : decode cX9_image 136 = .ok (.iload_n 2, 1) := by decide +kernel
theorem dX9_image_137 : decode cX9_image 137 = .ok (.bipush 37, 2) := by decide +kernel
theorem dX9_image_139 : decode cX9_image 139 = .ok (.iadd, 1) := by decide +kernel
theorem dX9_image_140 : decode cX9_image 140 = .ok (.iload_n 3, 1) := by decide +kernel
theorem dX9_image_141 : decode cX9_image 141 = .ok (.iadd, 1) := by decide +kernel
theorem dX9_image_142 : decode cX9_image 142 = .ok (.aload_n 0, 1) := by decide +kernel
theorem dX9_image_143 : decode cX9_image 143 = .ok (.getfield 23, 3) := by decide +kernel
theorem dX9_image_146 : decode cX9_image 146 = .ok (.iload_n 3, 1) := by decide +kernel
theorem dX9_image_147 : decode cX9_image 147 = .ok (.iaload, 1) := by decide +kernel
theorem dX9_image_148 : decode cX9_image 148 = .ok (.iastore, 1) := by decide +kernel
theorem dX9_image_149 : decode cX9_image 149 = .ok (.iinc 3 1, 3) := by decide +kernel
theorem dX9_image_152 : decode cX9_image 152 = .ok (.goto (-26), 3) := by decide +kernel
theorem dX9_image_155 : decode cX9_image 155 = .ok (.iconst 1, 1) := by decide +kernel
theorem dX9_image_156 : decode cX9_image 156 = .ok (.ireturn, 1) := by decide +kernel
set_option maxRecDepth 20000 in
theorem ggX9_from_X9_in : GoodIn wsX9_from wsX9_in := goodIn_r _ [12] (by decide +kernel) (by decide +kernel)
set_option maxRecDepth 20000 in
theorem gX9_from_X9_in : GoodIn wsX9_from (va_wsS RX9 92 yX9_in wsX9_in) := goodIn_app (goodIn_of _ (by decide +kernel)) ggX9_from_X9_in
set_option maxRecDepth 20000 in
theorem ggX9_from_X9_refuse : GoodIn wsX9_from wsX9_refuse := goodIn_r _ [16, 17, 18, 19, 20, 21, 22, 23, 24, 25, 26, 27, 28, 29, 30, 31, 32, 33, 34, 35, 36, 37, 38, 39, 40, 41, 42, 43, 44, 45, 46, 47, 48, 49, 50, 51, 52, 53, 54, 55, 56, 57, 58, 59, 60, 61, 62, 63, 64, 65, 66, 67, 68] (by decide +kernel) (by decide +kernel)
set_option maxRecDepth 20000 in
theorem gX9_from_X9_refuse : GoodIn wsX9_from (wsV RX9 98 RX9 yX9_refuse wsX9_refuse) := goodIn_app (goodIn_of _ (by decide +kernel)) ggX9_from_X9_refuse
theorem dX9_from_0 : decode cX9_from 0 = .ok (.iload_n 1, 1) := by decide +kernel
theorem dX9_from_1 : decode cX9_from 1 = .ok (.i2l, 1) := by decide +kernel
theorem dX9_from_2 : decode cX9_from 2 = .ok (.lconst 0, 1) := by decide +kernel
theorem dX9_from_3 : decode cX9_from 3 = .ok (.lconst 1, 1) := by decide +kernel
theorem dX9_from_4 : decode cX9_from 4 = .ok (.invokestatic 92, 3) := by decide +kernel
theorem dX9_from_7 : decode cX9_from 7 = .ok (.ifCond .ne 10, 3) := by decide +kernel
theorem dX9_from_10 : decode cX9_from 10 = .ok (.aload_n 0, 1) := by decide +kernel
theorem dX9_from_11 : decode cX9_from 11 = .ok (.bipush (-2), 2) := by decide +kernel
theorem dX9_from_13 : decode cX9_from 13 = .ok (.invokevirtual 98, 3) := by decide +kernel
theorem dX9_from_16 : decode cX9_from 16 = .ok (.ireturn, 1) := by decide +kernel
theorem dX9_from_17 : decode cX9_from 17 = .ok (.bipush 48, 2) := by decide +kernel
theorem dX9_from_19 : decode cX9_from 19 = .ok (.iload_n 1, 1) := by decide +kernel
theorem dX9_from_20 : decode cX9_from 20 = .ok (.imul, 1) := by decide +kernel
theorem dX9_from_21 : decode cX9_from 21 = .ok (.istore_n 2, 1) := by decide +kernel
theorem dX9_from_22 : decode cX9_from 22 = .ok (.aload_n 0, 1) := by decide +kernel
theorem dX9_from_23 : decode cX9_from 23 = .ok (.getfield 33, 3) := by decide +kernel
theorem dX9_from_26 : decode cX9_from 26 = .ok (.iload_n 2, 1) := by decide +kernel
theorem dX9_from_27 : decode cX9_from 27 = .ok (.iaload, 1) := by decide +kernel
theorem dX9_from_28 : decode cX9_from 28 = .ok (.ifCond .ne 10, 3) := by decide +kernel
theorem dX9_from_31 : decode cX9_from 31 = .ok (.aload_n 0, 1) := by decide +kernel
theorem dX9_from_32 : decode cX9_from 32 = .ok (.bipush (-3), 2) := by decide +kernel
theorem dX9_from_34 : decode cX9_from 34 = .ok (.invokevirtual 98, 3) := by decide +kernel
theorem dX9_from_37 : decode cX9_from 37 = .ok (.ireturn, 1) := by decide +kernel
theorem dX9_from_38 : decode cX9_from 38 = .ok (.aload_n 0, 1) := by decide +kernel
theorem dX9_from_39 : decode cX9_from 39 = .ok (.aload_n 0, 1) := by decide +kernel
theorem dX9_from_40 : decode cX9_from 40 = .ok (.getfield 33, 3) := by decide +kernel
theorem dX9_from_43 : decode cX9_from 43 = .ok (.iload_n 2, 1) := by decide +kernel
theorem dX9_from_44 : decode cX9_from 44 = .ok (.iconst 1, 1) := by decide +kernel
theorem dX9_from_45 : decode cX9_from 45 = .ok (.iadd, 1) := by decide +kernel
theorem dX9_from_46 : decode cX9_from 46 = .ok (.iaload, 1) := by decide +kernel
theorem dX9_from_47 : decode cX9_from 47 = .ok (.putfield 7, 3) := by decide +kernel
theorem dX9_from_50 : decode cX9_from 50 = .ok (.aload_n 0, 1) := by decide +kernel
theorem dX9_from_51 : decode cX9_from 51 = .ok (.aload_n 0, 1) := by decide +kernel
theorem dX9_from_52 : decode cX9_from 52 = .ok (.getfield 33, 3) := by decide +kernel
theorem dX9_from_55 : decode cX9_from 55 = .ok (.iload_n 2, 1) := by decide +kernel
theorem dX9_from_56 : decode cX9_from 56 = .ok (.iconst 2, 1) := by decide +kernel
theorem dX9_from_57 : decode cX9_from 57 = .ok (.iadd, 1) := by decide +kernel
theorem dX9_from_58 : decode cX9_from 58 = .ok (.iaload, 1) := by decide +kernel
theorem dX9_from_59 : decode cX9_from 59 = .ok (.putfield 105, 3) := by decide +kernel
theorem dX9_from_62 : decode cX9_from 62 = .ok (.aload_n 0, 1) := by decide +kernel
theorem dX9_from_63 : decode cX9_from 63 = .ok (.aload_n 0, 1) := by decide +kernel
theorem dX9_from_64 : decode cX9_from 64 = .ok (.getfield 33, 3) := by decide +kernel
theorem dX9_from_67 : decode cX9_from 67 = .ok (.iload_n 2, 1) := by decide +kernel
theorem dX9_from_68 : decode cX9_from 68 = .ok (.iconst 3, 1) := by decide +kernel
theorem dX9_from_69 : decode cX9_from 69 = .ok (.iadd, 1) := by decide +kernel
theorem dX9_from_70 : decode cX9_from 70 = .ok (.iaload, 1) := by decide +kernel
theorem dX9_from_71 : decode cX9_from 71 = .ok (.putfield 13, 3) := by decide +kernel
theorem dX9_from_74 : decode cX9_from 74 = .ok (.aload_n 0, 1) := by decide +kernel
theorem dX9_from_75 : decode cX9_from 75 = .ok (.aload_n 0, 1) := by decide +kernel
theorem dX9_from_76 : decode cX9_from 76 = .ok (.getfield 33, 3) := by decide +kernel
theorem dX9_from_79 : decode cX9_from 79 = .ok (.iload_n 2, 1) := by decide +kernel
theorem dX9_from_80 : decode cX9_from 80 = .ok (.iconst 4, 1) := by decide +kernel
theorem dX9_from_81 : decode cX9_from 81 = .ok (.iadd, 1) := by decide +kernel
theorem dX9_from_82 : decode cX9_from 82 = .ok (.iaload, 1) := by decide +kernel
theorem dX9_from_83 : decode cX9_from 83 = .ok (.putfield 102, 3) := by decide +kernel
theorem dX9_from_86 : decode cX9_from 86 = .ok (.iconst 0, 1) := by decide +kernel
theorem dX9_from_87 : decode cX9_from 87 = .ok (.istore_n 3, 1) := by decide +kernel
theorem dX9_from_88 : decode cX9_from 88 = .ok (.iload_n 3, 1) := by decide +kernel
theorem dX9_from_89 : decode cX9_from 89 = .ok (.bipush 16, 2) := by decide +kernel
theorem dX9_from_91 : decode cX9_from 91 = .ok (.if_icmp .ge 42, 3) := by decide +kernel
theorem dX9_from_94 : decode cX9_from 94 = .ok (.aload_n 0, 1) := by decide +kernel
theorem dX9_from_95 : decode cX9_from 95 = .ok (.getfield 16, 3) := by decide +kernel
theorem dX9_from_98 : decode cX9_from 98 = .ok (.iload_n 3, 1) := by decide +kernel
theorem dX9_from_99 : decode cX9_from 99 = .ok (.aload_n 0, 1) := by decide +kernel
theorem dX9_from_100 : decode cX9_from 100 = .ok (.getfield 33, 3) := by decide +kernel
theorem dX9_from_103 : decode cX9_from 103 = .ok (.iload_n 2, 1) := by decide +kernel
theorem dX9_from_104 : decode cX9_from 104 = .ok (.iconst 5, 1) := by decide +kernel
theorem dX9_from_105 : decode cX9_from 105 = .ok (.iadd, 1) := by decide +kernel
theorem dX9_from_106 : decode cX9_from 106 = .ok (.iload_n 3, 1) := by decide +kernel
theorem dX9_from_107 : decode cX9_from 107 = .ok (.iadd, 1) := by decide +kernel
theorem dX9_from_108 : decode cX9_from 108 = .ok (.iaload, 1) := by decide +kernel
theorem dX9_from_109 : decode cX9_from 109 = .ok (.iastore, 1) := by decide +kernel
theorem dX9_from_110 : decode cX9_from 110 = .ok (.aload_n 0, 1) := by decide +kernel
theorem dX9_from_111 : decode cX9_from 111 = .ok (.getfield 20, 3) := by decide +kernel
theorem dX9_from_114 : decode cX9_from 114 = .ok (.iload_n 3, 1) := by decide +kernel
theorem dX9_from_115 : decode cX9_from 115 = .ok (.aload_n 0, 1) := by decide +kernel
theorem dX9_from_116 : decode cX9_from 116 = .ok (.getfield 33, 3) := by decide +kernel
theorem dX9_from_119 : decode cX9_from 119 = .ok (.iload_n 2, 1) := by decide +kernel
theorem dX9_from_120 : decode cX9_from 120 = .ok (.bipush 21, 2) := by decide +kernel
theorem dX9_from_122 : decode cX9_from 122 = .ok (.iadd, 1) := by decide +kernel
theorem dX9_from_123 : decode cX9_from 123 = .ok (.iload_n 3, 1) := by decide +kernel
theorem dX9_from_124 : decode cX9_from 124 = .ok (.iadd, 1) := by decide +kernel
theorem dX9_from_125 : decode cX9_from 125 = .ok (.iaload, 1) := by decide +kernel
theorem dX9_from_126 : decode cX9_from 126 = .ok (.iastore, 1) := by decide +kernel
theorem dX9_from_127 : decode cX9_from 127 = .ok (.iinc 3 1, 3) := by decide +kernel
theorem dX9_from_130 : decode cX9_from 130 = .ok (.goto (-42), 3) := by decide +kernel
theorem dX9_from_133 : decode cX9_from 133 = .ok (.iconst 0, 1) := by decide +kernel
theorem dX9_from_134 : decode cX9_from 134 = .ok (.istore_n 3, 1) := by decide +kernel
theorem dX9_from_135 : decode cX9_from 135 = .ok (.iload_n 3, 1) := by decide +kernel
theorem dX9_from_136 : decode cX9_from 136 = .ok (.bipush 8, 2) := by decide +kernel
theorem dX9_from_138 : decode cX9_from 138 = .ok (.if_icmp .ge 26, 3) := by decide +kernel
theorem dX9_from_141 : decode cX9_from 141 = .ok (.aload_n 0, 1) := by decide +kernel
theorem dX9_from_142 : decode cX9_from 142 = .ok (.getfield 23, 3) := by decide +kernel
theorem dX9_from_145 : decode cX9_from 145 = .ok (.iload_n 3, 1) := by decide +kernel
theorem dX9_from_146 : decode cX9_from 146 = .ok (.aload_n 0, 1) := by decide +kernel
theorem dX9_from_147 : decode cX9_from 147 = .ok (.getfield 33, 3) := by decide +kernel
theorem dX9_from_150 : decode cX9_from 150 = .ok (.iload_n 2, 1) := by decide +kernel
theorem dX9_from_151 : decode cX9_from 151 = .ok (.bipush 37, 2) := by decide +kernel
theorem dX9_from_153 : decode cX9_from 153 = .ok (.iadd, 1) := by decide +kernel
theorem dX9_from_154 : decode cX9_from 154 = .ok (.iload_n 3, 1) := by decide +kernel
theorem dX9_from_155 : decode cX9_from 155 = .ok (.iadd, 1) := by decide +kernel
theorem dX9_from_156 : decode cX9_from 156 = .ok (.iaload, 1) := by decide +kernel
theorem dX9_from_157 : decode cX9_from 157 = .ok (.iastore, 1) := by decide +kernel
theorem dX9_from_158 : decode cX9_from 158 = .ok (.iinc 3 1, 3) := by decide +kernel
theorem dX9_from_161 : decode cX9_from 161 = .ok (.goto (-26), 3) := by decide +kernel
theorem dX9_from_164 : decode cX9_from 164 = .ok (.iconst 1, 1) := by decide +kernel
theorem dX9_from_165 : decode cX9_from 165 = .ok (.ireturn, 1) := by decide +kernel
set_option maxRecDepth 20000 in
theorem ggX9_status_X9_in : GoodIn wsX9_status wsX9_in := goodIn_r _ [6] (by decide +kernel) (by decide +kernel)
set_option maxRecDepth 20000 in
theorem gX9_status_X9_in : GoodIn wsX9_status (va_wsS RX9 92 yX9_in wsX9_in) := goodIn_app (goodIn_of _ (by decide +kernel)) ggX9_status_X9_in
set_option maxRecDepth 20000 in
theorem ggX9_status_X9_refuse : GoodIn wsX9_status wsX9_refuse := goodIn_r _ [10, 2, 11, 12, 13, 14, 15, 16, 17, 18, 19, 20, 21, 22, 23, 24, 25, 26, 27, 28, 29, 30, 31, 32, 33, 34, 35, 36, 37, 38, 39, 40, 41, 42, 43, 44, 45, 46, 47, 48, 49, 50, 51, 52, 53, 54, 55, 56, 57, 58, 59, 60, 61] (by decide +kernel) (by decide +kernel)
set_option maxRecDepth 20000 in
theorem gX9_status_X9_refuse : GoodIn wsX9_status (wsV RX9 98 RX9 yX9_refuse wsX9_refuse) := goodIn_app (goodIn_of _ (by decide +kernel)) ggX9_status_X9_refuse
theorem dX9_status_0 : decode cX9_status 0 = .ok (.iload_n 1, 1) := by decide +kernel
theorem dX9_status_1 : decode cX9_status 1 = .ok (.i2l, 1) := by decide +kernel
theorem dX9_status_2 : decode cX9_status 2 = .ok (.lconst 0, 1) := by decide +kernel
theorem dX9_status_3 : decode cX9_status 3 = .ok (.ldc2_w 324, 3) := by decide +kernel
theorem dX9_status_6 : decode cX9_status 6 = .ok (.invokestatic 92, 3) := by decide +kernel
theorem dX9_status_9 : decode cX9_status 9 = .ok (.ifCond .ne 14, 3) := by decide +kernel
theorem dX9_status_12 : decode cX9_status 12 = .ok (.aload_n 0, 1) := by decide +kernel
theorem dX9_status_13 : decode cX9_status 13 = .ok (.bipush (-2), 2) := by decide +kernel
theorem dX9_status_15 : decode cX9_status 15 = .ok (.invokevirtual 98, 3) := by decide +kernel
theorem dX9_status_18 : decode cX9_status 18 = .ok (.istore_n 2, 1) := by decide +kernel
theorem dX9_status_19 : decode cX9_status 19 = .ok (.iload_n 2, 1) := by decide +kernel
theorem dX9_status_20 : decode cX9_status 20 = .ok (.iconst 1, 1) := by decide +kernel
theorem dX9_status_21 : decode cX9_status 21 = .ok (.iadd, 1) := by decide +kernel
theorem dX9_status_22 : decode cX9_status 22 = .ok (.ireturn, 1) := by decide +kernel
theorem dX9_status_23 : decode cX9_status 23 = .ok (.aload_n 0, 1) := by decide +kernel
theorem dX9_status_24 : decode cX9_status 24 = .ok (.getfield 36, 3) := by decide +kernel
theorem dX9_status_27 : decode cX9_status 27 = .ok (.iload_n 1, 1) := by decide +kernel
theorem dX9_status_28 : decode cX9_status 28 = .ok (.iaload, 1) := by decide +kernel
theorem dX9_status_29 : decode cX9_status 29 = .ok (.ireturn, 1) := by decide +kernel
theorem dX9_counted_0 : decode cX9_counted 0 = .ok (.iload_n 1, 1) := by decide +kernel
theorem dX9_counted_1 : decode cX9_counted 1 = .ok (.ifCond .ne 10, 3) := by decide +kernel
theorem dX9_counted_4 : decode cX9_counted 4 = .ok (.aload_n 0, 1) := by decide +kernel
theorem dX9_counted_5 : decode cX9_counted 5 = .ok (.getfield 7, 3) := by decide +kernel
theorem dX9_counted_8 : decode cX9_counted 8 = .ok (.goto 43, 3) := by decide +kernel
theorem dX9_counted_11 : decode cX9_counted 11 = .ok (.iload_n 1, 1) := by decide +kernel
theorem dX9_counted_12 : decode cX9_counted 12 = .ok (.iconst 1, 1) := by decide +kernel
theorem dX9_counted_13 : decode cX9_counted 13 = .ok (.if_icmp .ne 10, 3) := by decide +kernel
theorem dX9_counted_16 : decode cX9_counted 16 = .ok (.aload_n 0, 1) := by decide +kernel
theorem dX9_counted_17 : decode cX9_counted 17 = .ok (.getfield 102, 3) := by decide +kernel
theorem dX9_counted_20 : decode cX9_counted 20 = .ok (.goto 31, 3) := by decide +kernel
theorem dX9_counted_23 : decode cX9_counted 23 = .ok (.iload_n 1, 1) := by decide +kernel
theorem dX9_counted_24 : decode cX9_counted 24 = .ok (.iconst 2, 1) := by decide +kernel
theorem dX9_counted_25 : decode cX9_counted 25 = .ok (.if_icmp .ne 10, 3) := by decide +kernel
theorem dX9_counted_28 : decode cX9_counted 28 = .ok (.aload_n 0, 1) := by decide +kernel
theorem dX9_counted_29 : decode cX9_counted 29 = .ok (.getfield 117, 3) := by decide +kernel
theorem dX9_counted_32 : decode cX9_counted 32 = .ok (.goto 19, 3) := by decide +kernel
theorem dX9_counted_35 : decode cX9_counted 35 = .ok (.iload_n 1, 1) := by decide +kernel
theorem dX9_counted_36 : decode cX9_counted 36 = .ok (.iconst 3, 1) := by decide +kernel
theorem dX9_counted_37 : decode cX9_counted 37 = .ok (.if_icmp .ne 10, 3) := by decide +kernel
theorem dX9_counted_40 : decode cX9_counted 40 = .ok (.aload_n 0, 1) := by decide +kernel
theorem dX9_counted_41 : decode cX9_counted 41 = .ok (.getfield 105, 3) := by decide +kernel
theorem dX9_counted_44 : decode cX9_counted 44 = .ok (.goto 7, 3) := by decide +kernel
theorem dX9_counted_47 : decode cX9_counted 47 = .ok (.aload_n 0, 1) := by decide +kernel
theorem dX9_counted_48 : decode cX9_counted 48 = .ok (.getfield 13, 3) := by decide +kernel
theorem dX9_counted_51 : decode cX9_counted 51 = .ok (.ireturn, 1) := by decide +kernel
set_option maxRecDepth 20000 in
theorem ggX9_count_X9_in : GoodIn wsX9_count wsX9_in := goodIn_r _ [5] (by decide +kernel) (by decide +kernel)
set_option maxRecDepth 20000 in
theorem gX9_count_X9_in : GoodIn wsX9_count (va_wsS RX9 92 yX9_in wsX9_in) := goodIn_app (goodIn_of _ (by decide +kernel)) ggX9_count_X9_in
set_option maxRecDepth 20000 in
theorem ggX9_count_X9_counted : GoodIn wsX9_count wsX9_counted := goodIn_r _ [9, 10, 11, 12, 13, 14, 20, 21, 22, 23, 24, 25, 26, 27, 28, 29, 30, 31, 32, 33, 34, 35, 36, 37, 38, 39, 40, 41, 42, 43, 44, 45, 46, 47, 48, 49, 50, 51, 52, 53, 54, 55, 56, 57, 58, 59, 60, 61, 62, 63, 64, 65, 66, 67, 68, 69, 70] (by decide +kernel) (by decide +kernel)
set_option maxRecDepth 20000 in
theorem gX9_count_X9_counted : GoodIn wsX9_count (wsV RX9 335 RX9 yX9_counted wsX9_counted) := goodIn_app (goodIn_of _ (by decide +kernel)) ggX9_count_X9_counted
set_option maxRecDepth 20000 in
theorem ggX9_count_X9_refuse : GoodIn wsX9_count wsX9_refuse := goodIn_r _ [18, 19, 20, 21, 22, 23, 24, 25, 26, 27, 28, 29, 30, 31, 32, 33, 34, 35, 36, 37, 38, 39, 40, 41, 42, 43, 44, 45, 46, 47, 48, 49, 50, 51, 52, 53, 54, 55, 56, 57, 58, 59, 60, 61, 62, 63, 64, 65, 66, 67, 68, 69, 70] (by decide +kernel) (by decide +kernel)
set_option maxRecDepth 20000 in
theorem gX9_count_X9_refuse : GoodIn wsX9_count (wsV RX9 98 RX9 yX9_refuse wsX9_refuse) := goodIn_app (goodIn_of _ (by decide +kernel)) ggX9_count_X9_refuse
theorem dX9_count_0 : decode cX9_count 0 = .ok (.iload_n 1, 1) := by decide +kernel
theorem dX9_count_1 : decode cX9_count 1 = .ok (.i2l, 1) := by decide +kernel
theorem dX9_count_2 : decode cX9_count 2 = .ok (.lconst 0, 1) := by decide +kernel
theorem dX9_count_3 : decode cX9_count 3 = .ok (.ldc2_w 90, 3) := by decide +kernel
theorem dX9_count_6 : decode cX9_count 6 = .ok (.invokestatic 92, 3) := by decide +kernel
theorem dX9_count_9 : decode cX9_count 9 = .ok (.ifCond .eq 11, 3) := by decide +kernel
theorem dX9_count_12 : decode cX9_count 12 = .ok (.aload_n 0, 1) := by decide +kernel
theorem dX9_count_13 : decode cX9_count 13 = .ok (.iload_n 1, 1) := by decide +kernel
theorem dX9_count_14 : decode cX9_count 14 = .ok (.invokevirtual 335, 3) := by decide +kernel
theorem dX9_count_17 : decode cX9_count 17 = .ok (.goto 9, 3) := by decide +kernel
theorem dX9_count_20 : decode cX9_count 20 = .ok (.aload_n 0, 1) := by decide +kernel
theorem dX9_count_21 : decode cX9_count 21 = .ok (.bipush (-2), 2) := by decide +kernel
theorem dX9_count_23 : decode cX9_count 23 = .ok (.invokevirtual 98, 3) := by decide +kernel
theorem dX9_count_26 : decode cX9_count 26 = .ok (.ireturn, 1) := by decide +kernel
set_option maxRecDepth 20000 in
theorem ggX9_digest_X9_counted : GoodIn wsX9_digest wsX9_counted := goodIn_r _ [13, 14, 3, 15, 16, 17, 18, 19, 20, 21, 22, 23, 24, 25, 26, 27, 28, 29, 30, 31, 32, 33, 34, 35, 36, 37, 38, 39, 40, 41, 42, 43, 44, 45, 46, 47, 48, 49, 50, 51, 52, 53, 54, 55, 56, 57, 58, 59, 60, 61, 62, 63, 64, 65, 66, 67, 68] (by decide +kernel) (by decide +kernel)
set_option maxRecDepth 20000 in
theorem gX9_digest_X9_counted : GoodIn wsX9_digest (wsV RX9 335 RX9 yX9_counted wsX9_counted) := goodIn_app (goodIn_of _ (by decide +kernel)) ggX9_digest_X9_counted
theorem dX9_digest_0 : decode cX9_digest 0 = .ok (.ldc2_w 338, 3) := by decide +kernel
theorem dX9_digest_3 : decode cX9_digest 3 = .ok (.lstore_n 1, 1) := by decide +kernel
theorem dX9_digest_4 : decode cX9_digest 4 = .ok (.iconst 0, 1) := by decide +kernel
theorem dX9_digest_5 : decode cX9_digest 5 = .ok (.istore_n 3, 1) := by decide +kernel
theorem dX9_digest_6 : decode cX9_digest 6 = .ok (.iload_n 3, 1) := by decide +kernel
theorem dX9_digest_7 : decode cX9_digest 7 = .ok (.iconst 5, 1) := by decide +kernel
theorem dX9_digest_8 : decode cX9_digest 8 = .ok (.if_icmp .ge 22, 3) := by decide +kernel
theorem dX9_digest_11 : decode cX9_digest 11 = .ok (.ldc2_w 340, 3) := by decide +kernel
theorem dX9_digest_14 : decode cX9_digest 14 = .ok (.lload_n 1, 1) := by decide +kernel
theorem dX9_digest_15 : decode cX9_digest 15 = .ok (.lmul, 1) := by decide +kernel
theorem dX9_digest_16 : decode cX9_digest 16 = .ok (.aload_n 0, 1) := by decide +kernel
theorem dX9_digest_17 : decode cX9_digest 17 = .ok (.iload_n 3, 1) := by decide +kernel
theorem dX9_digest_18 : decode cX9_digest 18 = .ok (.invokevirtual 335, 3) := by decide +kernel
theorem dX9_digest_21 : decode cX9_digest 21 = .ok (.i2l, 1) := by decide +kernel
theorem dX9_digest_22 : decode cX9_digest 22 = .ok (.ladd, 1) := by decide +kernel
theorem dX9_digest_23 : decode cX9_digest 23 = .ok (.lstore_n 1, 1) := by decide +kernel
theorem dX9_digest_24 : decode cX9_digest 24 = .ok (.iinc 3 1, 3) := by decide +kernel
theorem dX9_digest_27 : decode cX9_digest 27 = .ok (.goto (-21), 3) := by decide +kernel
theorem dX9_digest_30 : decode cX9_digest 30 = .ok (.iconst 0, 1) := by decide +kernel
theorem dX9_digest_31 : decode cX9_digest 31 = .ok (.istore_n 3, 1) := by decide +kernel
theorem dX9_digest_32 : decode cX9_digest 32 = .ok (.iload_n 3, 1) := by decide +kernel
theorem dX9_digest_33 : decode cX9_digest 33 = .ok (.aload_n 0, 1) := by decide +kernel
theorem dX9_digest_34 : decode cX9_digest 34 = .ok (.getfield 102, 3) := by decide +kernel
theorem dX9_digest_37 : decode cX9_digest 37 = .ok (.if_icmp .ge 35, 3) := by decide +kernel
theorem dX9_digest_40 : decode cX9_digest 40 = .ok (.ldc2_w 340, 3) := by decide +kernel
theorem dX9_digest_43 : decode cX9_digest 43 = .ok (.ldc2_w 340, 3) := by decide +kernel
theorem dX9_digest_46 : decode cX9_digest 46 = .ok (.lload_n 1, 1) := by decide +kernel
theorem dX9_digest_47 : decode cX9_digest 47 = .ok (.lmul, 1) := by decide +kernel
theorem dX9_digest_48 : decode cX9_digest 48 = .ok (.aload_n 0, 1) := by decide +kernel
theorem dX9_digest_49 : decode cX9_digest 49 = .ok (.getfield 16, 3) := by decide +kernel
theorem dX9_digest_52 : decode cX9_digest 52 = .ok (.iload_n 3, 1) := by decide +kernel
theorem dX9_digest_53 : decode cX9_digest 53 = .ok (.iaload, 1) := by decide +kernel
theorem dX9_digest_54 : decode cX9_digest 54 = .ok (.i2l, 1) := by decide +kernel
theorem dX9_digest_55 : decode cX9_digest 55 = .ok (.ladd, 1) := by decide +kernel
theorem dX9_digest_56 : decode cX9_digest 56 = .ok (.lmul, 1) := by decide +kernel
theorem dX9_digest_57 : decode cX9_digest 57 = .ok (.aload_n 0, 1) := by decide +kernel
theorem dX9_digest_58 : decode cX9_digest 58 = .ok (.getfield 20, 3) := by decide +kernel
theorem dX9_digest_61 : decode cX9_digest 61 = .ok (.iload_n 3, 1) := by decide +kernel
theorem dX9_digest_62 : decode cX9_digest 62 = .ok (.iaload, 1) := by decide +kernel
theorem dX9_digest_63 : decode cX9_digest 63 = .ok (.i2l, 1) := by decide +kernel
theorem dX9_digest_64 : decode cX9_digest 64 = .ok (.ladd, 1) := by decide +kernel
theorem dX9_digest_65 : decode cX9_digest 65 = .ok (.lstore_n 1, 1) := by decide +kernel
theorem dX9_digest_66 : decode cX9_digest 66 = .ok (.iinc 3 1, 3) := by decide +kernel
theorem dX9_digest_69 : decode cX9_digest 69 = .ok (.goto (-37), 3) := by decide +kernel
theorem dX9_digest_72 : decode cX9_digest 72 = .ok (.iconst 0, 1) := by decide +kernel
theorem dX9_digest_73 : decode cX9_digest 73 = .ok (.istore_n 3, 1) := by decide +kernel
theorem dX9_digest_74 : decode cX9_digest 74 = .ok (.iload_n 3, 1) := by decide +kernel
theorem dX9_digest_75 : decode cX9_digest 75 = .ok (.bipush 8, 2) := by decide +kernel
theorem dX9_digest_77 : decode cX9_digest 77 = .ok (.if_icmp .ge 23, 3) := by decide +kernel
theorem dX9_digest_80 : decode cX9_digest 80 = .ok (.ldc2_w 340, 3) := by decide +kernel
theorem dX9_digest_83 : decode cX9_digest 83 = .ok (.lload_n 1, 1) := by decide +kernel
theorem dX9_digest_84 : decode cX9_digest 84 = .ok (.lmul, 1) := by decide +kernel
theorem dX9_digest_85 : decode cX9_digest 85 = .ok (.aload_n 0, 1) := by decide +kernel
theorem dX9_digest_86 : decode cX9_digest 86 = .ok (.getfield 23, 3) := by decide +kernel
theorem dX9_digest_89 : decode cX9_digest 89 = .ok (.iload_n 3, 1) := by decide +kernel
theorem dX9_digest_90 : decode cX9_digest 90 = .ok (.iaload, 1) := by decide +kernel
theorem dX9_digest_91 : decode cX9_digest 91 = .ok (.i2l, 1) := by decide +kernel
theorem dX9_digest_92 : decode cX9_digest 92 = .ok (.ladd, 1) := by decide +kernel
theorem dX9_digest_93 : decode cX9_digest 93 = .ok (.lstore_n 1, 1) := by decide +kernel
theorem dX9_digest_94 : decode cX9_digest 94 = .ok (.iinc 3 1, 3) := by decide +kernel
theorem dX9_digest_97 : decode cX9_digest 97 = .ok (.goto (-23), 3) := by decide +kernel
theorem dX9_digest_100 : decode cX9_digest 100 = .ok (.ldc2_w 340, 3) := by decide +kernel
theorem dX9_digest_103 : decode cX9_digest 103 = .ok (.ldc2_w 340, 3) := by decide +kernel
theorem dX9_digest_106 : decode cX9_digest 106 = .ok (.lload_n 1, 1) := by decide +kernel
theorem dX9_digest_107 : decode cX9_digest 107 = .ok (.lmul, 1) := by decide +kernel
theorem dX9_digest_108 : decode cX9_digest 108 = .ok (.aload_n 0, 1) := by decide +kernel
theorem dX9_digest_109 : decode cX9_digest 109 = .ok (.getfield 223, 3) := by decide +kernel
theorem dX9_digest_112 : decode cX9_digest 112 = .ok (.ladd, 1) := by decide +kernel
theorem dX9_digest_113 : decode cX9_digest 113 = .ok (.lmul, 1) := by decide +kernel
theorem dX9_digest_114 : decode cX9_digest 114 = .ok (.aload_n 0, 1) := by decide +kernel
theorem dX9_digest_115 : decode cX9_digest 115 = .ok (.getfield 29, 3) := by decide +kernel
theorem dX9_digest_118 : decode cX9_digest 118 = .ok (.ladd, 1) := by decide +kernel
theorem dX9_digest_119 : decode cX9_digest 119 = .ok (.lreturn, 1) := by decide +kernel
set_option maxRecDepth 20000 in
theorem ggJ6_highestOneBit_0f7a4_J6_numberOfLeadingZeros_0f7a4 : GoodIn wsJ6_highestOneBit_0f7a4 wsJ6_numberOfLeadingZeros_0f7a4 := goodIn_r _ [5, 6] (by decide +kernel) (by decide +kernel)
set_option maxRecDepth 20000 in
theorem gJ6_highestOneBit_0f7a4_J6_numberOfLeadingZeros_0f7a4 : GoodIn wsJ6_highestOneBit_0f7a4 (va_wsS RJ6 51 yJ6_numberOfLeadingZeros_0f7a4 wsJ6_numberOfLeadingZeros_0f7a4) := goodIn_app (goodIn_of _ (by decide +kernel)) ggJ6_highestOneBit_0f7a4_J6_numberOfLeadingZeros_0f7a4
