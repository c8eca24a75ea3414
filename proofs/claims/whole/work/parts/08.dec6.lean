theorem dX9_divisor_13 : decode cX9_divisor 13 = .ok (.lload 4, 2) := by decide +kernel
theorem dX9_divisor_15 : decode cX9_divisor 15 = .ok (.lload 6, 2) := by decide +kernel
theorem dX9_divisor_17 : decode cX9_divisor 17 = .ok (.lrem, 1) := by decide +kernel
theorem dX9_divisor_18 : decode cX9_divisor 18 = .ok (.lstore 8, 2) := by decide +kernel
theorem dX9_divisor_20 : decode cX9_divisor 20 = .ok (.lload 6, 2) := by decide +kernel
theorem dX9_divisor_22 : decode cX9_divisor 22 = .ok (.lstore 4, 2) := by decide +kernel
theorem dX9_divisor_24 : decode cX9_divisor 24 = .ok (.lload 8, 2) := by decide +kernel
theorem dX9_divisor_26 : decode cX9_divisor 26 = .ok (.lstore 6, 2) := by decide +kernel
theorem dX9_divisor_28 : decode cX9_divisor 28 = .ok (.goto (-22), 3) := by decide +kernel
theorem dX9_divisor_31 : decode cX9_divisor 31 = .ok (.lload 4, 2) := by decide +kernel
theorem dX9_divisor_33 : decode cX9_divisor 33 = .ok (.lreturn, 1) := by decide +kernel
set_option maxRecDepth 20000 in
theorem ggX9_tell_X9_divisor : GoodIn wsX9_tell wsX9_divisor := goodIn_r _ [6] (by decide +kernel) (by decide +kernel)
set_option maxRecDepth 20000 in
theorem gX9_tell_X9_divisor : GoodIn wsX9_tell (va_wsS RX9 219 yX9_divisor wsX9_divisor) := goodIn_app (goodIn_of _ (by decide +kernel)) ggX9_tell_X9_divisor
theorem dX9_tell_0 : decode cX9_tell 0 = .ok (.lload_n 1, 1) := by decide +kernel
theorem dX9_tell_1 : decode cX9_tell 1 = .ok (.lload_n 3, 1) := by decide +kernel
theorem dX9_tell_2 : decode cX9_tell 2 = .ok (.invokestatic 219, 3) := by decide +kernel
theorem dX9_tell_5 : decode cX9_tell 5 = .ok (.lstore 5, 2) := by decide +kernel
theorem dX9_tell_7 : decode cX9_tell 7 = .ok (.aload_n 0, 1) := by decide +kernel
theorem dX9_tell_8 : decode cX9_tell 8 = .ok (.lload_n 1, 1) := by decide +kernel
theorem dX9_tell_9 : decode cX9_tell 9 = .ok (.lload 5, 2) := by decide +kernel
theorem dX9_tell_11 : decode cX9_tell 11 = .ok (.ldiv, 1) := by decide +kernel
theorem dX9_tell_12 : decode cX9_tell 12 = .ok (.putfield 223, 3) := by decide +kernel
theorem dX9_tell_15 : decode cX9_tell 15 = .ok (.aload_n 0, 1) := by decide +kernel
theorem dX9_tell_16 : decode cX9_tell 16 = .ok (.lload_n 3, 1) := by decide +kernel
theorem dX9_tell_17 : decode cX9_tell 17 = .ok (.lload 5, 2) := by decide +kernel
theorem dX9_tell_19 : decode cX9_tell 19 = .ok (.ldiv, 1) := by decide +kernel
theorem dX9_tell_20 : decode cX9_tell 20 = .ok (.putfield 29, 3) := by decide +kernel
theorem dX9_tell_23 : decode cX9_tell 23 = .ok (.return_, 1) := by decide +kernel
theorem dX9_chosen_0 : decode cX9_chosen 0 = .ok (.iconst 0, 1) := by decide +kernel
theorem dX9_chosen_1 : decode cX9_chosen 1 = .ok (.istore_n 3, 1) := by decide +kernel
theorem dX9_chosen_2 : decode cX9_chosen 2 = .ok (.iload_n 3, 1) := by decide +kernel
theorem dX9_chosen_3 : decode cX9_chosen 3 = .ok (.iload_n 1, 1) := by decide +kernel
theorem dX9_chosen_4 : decode cX9_chosen 4 = .ok (.if_icmp .gt 57, 3) := by decide +kernel
theorem dX9_chosen_7 : decode cX9_chosen 7 = .ok (.aload_n 0, 1) := by decide +kernel
theorem dX9_chosen_8 : decode cX9_chosen 8 = .ok (.getfield 45, 3) := by decide +kernel
theorem dX9_chosen_11 : decode cX9_chosen 11 = .ok (.iload_n 3, 1) := by decide +kernel
theorem dX9_chosen_12 : decode cX9_chosen 12 = .ok (.iload_n 3, 1) := by decide +kernel
theorem dX9_chosen_13 : decode cX9_chosen 13 = .ok (.ifCond .ne 7, 3) := by decide +kernel
theorem dX9_chosen_16 : decode cX9_chosen 16 = .ok (.lconst 1, 1) := by decide +kernel
theorem dX9_chosen_17 : decode cX9_chosen 17 = .ok (.goto 4, 3) := by decide +kernel
theorem dX9_chosen_20 : decode cX9_chosen 20 = .ok (.lconst 0, 1) := by decide +kernel
theorem dX9_chosen_21 : decode cX9_chosen 21 = .ok (.lastore, 1) := by decide +kernel
theorem dX9_chosen_22 : decode cX9_chosen 22 = .ok (.iload_n 3, 1) := by decide +kernel
theorem dX9_chosen_23 : decode cX9_chosen 23 = .ok (.istore 4, 2) := by decide +kernel
theorem dX9_chosen_25 : decode cX9_chosen 25 = .ok (.iload 4, 2) := by decide +kernel
theorem dX9_chosen_27 : decode cX9_chosen 27 = .ok (.ifCond .le 28, 3) := by decide +kernel
theorem dX9_chosen_30 : decode cX9_chosen 30 = .ok (.aload_n 0, 1) := by decide +kernel
theorem dX9_chosen_31 : decode cX9_chosen 31 = .ok (.getfield 45, 3) := by decide +kernel
theorem dX9_chosen_34 : decode cX9_chosen 34 = .ok (.iload 4, 2) := by decide +kernel
theorem dX9_chosen_36 : decode cX9_chosen 36 = .ok (.dup2, 1) := by decide +kernel
theorem dX9_chosen_37 : decode cX9_chosen 37 = .ok (.laload, 1) := by decide +kernel
theorem dX9_chosen_38 : decode cX9_chosen 38 = .ok (.aload_n 0, 1) := by decide +kernel
theorem dX9_chosen_39 : decode cX9_chosen 39 = .ok (.getfield 45, 3) := by decide +kernel
theorem dX9_chosen_42 : decode cX9_chosen 42 = .ok (.iload 4, 2) := by decide +kernel
theorem dX9_chosen_44 : decode cX9_chosen 44 = .ok (.iconst 1, 1) := by decide +kernel
theorem dX9_chosen_45 : decode cX9_chosen 45 = .ok (.isub, 1) := by decide +kernel
theorem dX9_chosen_46 : decode cX9_chosen 46 = .ok (.laload, 1) := by decide +kernel
theorem dX9_chosen_47 : decode cX9_chosen 47 = .ok (.ladd, 1) := by decide +kernel
theorem dX9_chosen_48 : decode cX9_chosen 48 = .ok (.lastore, 1) := by decide +kernel
theorem dX9_chosen_49 : decode cX9_chosen 49 = .ok (.iinc 4 (-1), 3) := by decide +kernel
theorem dX9_chosen_52 : decode cX9_chosen 52 = .ok (.goto (-27), 3) := by decide +kernel
theorem dX9_chosen_55 : decode cX9_chosen 55 = .ok (.iinc 3 1, 3) := by decide +kernel
theorem dX9_chosen_58 : decode cX9_chosen 58 = .ok (.goto (-56), 3) := by decide +kernel
theorem dX9_chosen_61 : decode cX9_chosen 61 = .ok (.aload_n 0, 1) := by decide +kernel
theorem dX9_chosen_62 : decode cX9_chosen 62 = .ok (.getfield 45, 3) := by decide +kernel
theorem dX9_chosen_65 : decode cX9_chosen 65 = .ok (.iload_n 2, 1) := by decide +kernel
theorem dX9_chosen_66 : decode cX9_chosen 66 = .ok (.laload, 1) := by decide +kernel
theorem dX9_chosen_67 : decode cX9_chosen 67 = .ok (.lreturn, 1) := by decide +kernel
set_option maxRecDepth 20000 in
theorem ggX9_fullness_X9_many : GoodIn wsX9_fullness wsX9_many := goodIn_r _ [7] (by decide +kernel) (by decide +kernel)
set_option maxRecDepth 20000 in
theorem gX9_fullness_X9_many : GoodIn wsX9_fullness (va_wsS RX9 194 yX9_many wsX9_many) := goodIn_app (goodIn_of _ (by decide +kernel)) ggX9_fullness_X9_many
set_option maxRecDepth 20000 in
theorem ggX9_fullness_X9_chosen : GoodIn wsX9_fullness wsX9_chosen := goodIn_r _ [11, 12, 22, 23, 24, 25, 26, 27, 28, 29, 30, 31, 32, 33, 34, 35, 36, 37, 38, 39, 40, 41, 42, 43, 44, 45, 46, 47, 48, 49, 50, 51, 52, 53, 54, 55, 56, 57, 58, 59, 60, 61, 62, 63, 64, 65, 66, 67, 68, 69, 70, 71, 72] (by decide +kernel) (by decide +kernel)
set_option maxRecDepth 20000 in
theorem gX9_fullness_X9_chosen : GoodIn wsX9_fullness (wsV RX9 226 RX9 yX9_chosen wsX9_chosen) := goodIn_app (goodIn_of _ (by decide +kernel)) ggX9_fullness_X9_chosen
set_option maxRecDepth 20000 in
theorem ggX9_fullness_X9_divisor : GoodIn wsX9_fullness wsX9_divisor := goodIn_r _ [15] (by decide +kernel) (by decide +kernel)
set_option maxRecDepth 20000 in
theorem gX9_fullness_X9_divisor : GoodIn wsX9_fullness (va_wsS RX9 219 yX9_divisor wsX9_divisor) := goodIn_app (goodIn_of _ (by decide +kernel)) ggX9_fullness_X9_divisor
set_option maxRecDepth 20000 in
theorem ggX9_fullness_X9_tell : GoodIn wsX9_fullness wsX9_tell := goodIn_r _ [19, 20, 21, 13, 14, 6, 15, 22, 23, 24, 25, 26, 27, 28, 29, 30, 31, 32, 33, 34, 35, 36, 37, 38, 39, 40, 41, 42, 43, 44, 45, 46, 47, 48, 49, 50, 51, 52, 53, 54, 55, 56, 57, 58, 59, 60, 61, 62, 63, 64, 65, 66, 67, 68, 69, 70, 71, 72] (by decide +kernel) (by decide +kernel)
set_option maxRecDepth 20000 in
theorem gX9_fullness_X9_tell : GoodIn wsX9_fullness (wsV RX9 230 RX9 yX9_tell wsX9_tell) := goodIn_app (goodIn_of _ (by decide +kernel)) ggX9_fullness_X9_tell
theorem dX9_fullness_0 : decode cX9_fullness 0 = .ok (.lconst 0, 1) := by decide +kernel
theorem dX9_fullness_1 : decode cX9_fullness 1 = .ok (.lstore_n 1, 1) := by decide +kernel
theorem dX9_fullness_2 : decode cX9_fullness 2 = .ok (.lconst 1, 1) := by decide +kernel
theorem dX9_fullness_3 : decode cX9_fullness 3 = .ok (.lstore_n 3, 1) := by decide +kernel
theorem dX9_fullness_4 : decode cX9_fullness 4 = .ok (.iconst 0, 1) := by decide +kernel
theorem dX9_fullness_5 : decode cX9_fullness 5 = .ok (.istore 5, 2) := by decide +kernel
theorem dX9_fullness_7 : decode cX9_fullness 7 = .ok (.iload 5, 2) := by decide +kernel
theorem dX9_fullness_9 : decode cX9_fullness 9 = .ok (.aload_n 0, 1) := by decide +kernel
theorem dX9_fullness_10 : decode cX9_fullness 10 = .ok (.getfield 102, 3) := by decide +kernel
theorem dX9_fullness_13 : decode cX9_fullness 13 = .ok (.if_icmp .ge 58, 3) := by decide +kernel
theorem dX9_fullness_16 : decode cX9_fullness 16 = .ok (.aload_n 0, 1) := by decide +kernel
theorem dX9_fullness_17 : decode cX9_fullness 17 = .ok (.aload_n 0, 1) := by decide +kernel
theorem dX9_fullness_18 : decode cX9_fullness 18 = .ok (.getfield 7, 3) := by decide +kernel
theorem dX9_fullness_21 : decode cX9_fullness 21 = .ok (.aload_n 0, 1) := by decide +kernel
theorem dX9_fullness_22 : decode cX9_fullness 22 = .ok (.getfield 16, 3) := by decide +kernel
theorem dX9_fullness_25 : decode cX9_fullness 25 = .ok (.iload 5, 2) := by decide +kernel
theorem dX9_fullness_27 : decode cX9_fullness 27 = .ok (.iaload, 1) := by decide +kernel
theorem dX9_fullness_28 : decode cX9_fullness 28 = .ok (.invokestatic 194, 3) := by decide +kernel
theorem dX9_fullness_31 : decode cX9_fullness 31 = .ok (.invokevirtual 226, 3) := by decide +kernel
theorem dX9_fullness_34 : decode cX9_fullness 34 = .ok (.lstore 6, 2) := by decide +kernel
theorem dX9_fullness_36 : decode cX9_fullness 36 = .ok (.lload_n 1, 1) := by decide +kernel
theorem dX9_fullness_37 : decode cX9_fullness 37 = .ok (.lload 6, 2) := by decide +kernel
theorem dX9_fullness_39 : decode cX9_fullness 39 = .ok (.lmul, 1) := by decide +kernel
theorem dX9_fullness_40 : decode cX9_fullness 40 = .ok (.lload_n 3, 1) := by decide +kernel
theorem dX9_fullness_41 : decode cX9_fullness 41 = .ok (.ladd, 1) := by decide +kernel
theorem dX9_fullness_42 : decode cX9_fullness 42 = .ok (.lstore_n 1, 1) := by decide +kernel
theorem dX9_fullness_43 : decode cX9_fullness 43 = .ok (.lload_n 3, 1) := by decide +kernel
theorem dX9_fullness_44 : decode cX9_fullness 44 = .ok (.lload 6, 2) := by decide +kernel
theorem dX9_fullness_46 : decode cX9_fullness 46 = .ok (.lmul, 1) := by decide +kernel
theorem dX9_fullness_47 : decode cX9_fullness 47 = .ok (.lstore_n 3, 1) := by decide +kernel
theorem dX9_fullness_48 : decode cX9_fullness 48 = .ok (.lload_n 1, 1) := by decide +kernel
theorem dX9_fullness_49 : decode cX9_fullness 49 = .ok (.lload_n 3, 1) := by decide +kernel
theorem dX9_fullness_50 : decode cX9_fullness 50 = .ok (.invokestatic 219, 3) := by decide +kernel
theorem dX9_fullness_53 : decode cX9_fullness 53 = .ok (.lstore 8, 2) := by decide +kernel
theorem dX9_fullness_55 : decode cX9_fullness 55 = .ok (.lload_n 1, 1) := by decide +kernel
theorem dX9_fullness_56 : decode cX9_fullness 56 = .ok (.lload 8, 2) := by decide +kernel
theorem dX9_fullness_58 : decode cX9_fullness 58 = .ok (.ldiv, 1) := by decide +kernel
theorem dX9_fullness_59 : decode cX9_fullness 59 = .ok (.lstore_n 1, 1) := by decide +kernel
theorem dX9_fullness_60 : decode cX9_fullness 60 = .ok (.lload_n 3, 1) := by decide +kernel
theorem dX9_fullness_61 : decode cX9_fullness 61 = .ok (.lload 8, 2) := by decide +kernel
theorem dX9_fullness_63 : decode cX9_fullness 63 = .ok (.ldiv, 1) := by decide +kernel
theorem dX9_fullness_64 : decode cX9_fullness 64 = .ok (.lstore_n 3, 1) := by decide +kernel
theorem dX9_fullness_65 : decode cX9_fullness 65 = .ok (.iinc 5 1, 3) := by decide +kernel
theorem dX9_fullness_68 : decode cX9_fullness 68 = .ok (.goto (-61), 3) := by decide +kernel
theorem dX9_fullness_71 : decode cX9_fullness 71 = .ok (.aload_n 0, 1) := by decide +kernel
theorem dX9_fullness_72 : decode cX9_fullness 72 = .ok (.lload_n 1, 1) := by decide +kernel
theorem dX9_fullness_73 : decode cX9_fullness 73 = .ok (.lload_n 3, 1) := by decide +kernel
theorem dX9_fullness_74 : decode cX9_fullness 74 = .ok (.invokevirtual 230, 3) := by decide +kernel
theorem dX9_fullness_77 : decode cX9_fullness 77 = .ok (.iconst 1, 1) := by decide +kernel
theorem dX9_fullness_78 : decode cX9_fullness 78 = .ok (.ireturn, 1) := by decide +kernel
theorem dX9_item_0 : decode cX9_item 0 = .ok (.iload_n 2, 1) := by decide +kernel
theorem dX9_item_1 : decode cX9_item 1 = .ok (.ifCond .eq 7, 3) := by decide +kernel
theorem dX9_item_4 : decode cX9_item 4 = .ok (.iload_n 1, 1) := by decide +kernel
theorem dX9_item_5 : decode cX9_item 5 = .ok (.goto 9, 3) := by decide +kernel
theorem dX9_item_8 : decode cX9_item 8 = .ok (.aload_n 0, 1) := by decide +kernel
theorem dX9_item_9 : decode cX9_item 9 = .ok (.getfield 16, 3) := by decide +kernel
theorem dX9_item_12 : decode cX9_item 12 = .ok (.iload_n 1, 1) := by decide +kernel
theorem dX9_item_13 : decode cX9_item 13 = .ok (.iaload, 1) := by decide +kernel
theorem dX9_item_14 : decode cX9_item 14 = .ok (.ireturn, 1) := by decide +kernel
set_option maxRecDepth 20000 in
theorem ggX9_lay_X9_item : GoodIn wsX9_lay wsX9_item := goodIn_r _ [11, 12, 31, 32, 33, 34, 35, 36, 37, 38, 39, 40, 41, 42, 43, 44, 45, 46, 47, 48, 49, 50, 51, 52, 53, 54, 55, 56, 57, 58, 59, 60, 61, 62, 63, 64, 65, 66, 67, 68, 69, 70, 71, 72, 73, 74, 75, 76, 77, 78, 79, 80, 81] (by decide +kernel) (by decide +kernel)
set_option maxRecDepth 20000 in
theorem gX9_lay_X9_item : GoodIn wsX9_lay (wsV RX9 240 RX9 yX9_item wsX9_item) := goodIn_app (goodIn_of _ (by decide +kernel)) ggX9_lay_X9_item
set_option maxRecDepth 20000 in
theorem ggX9_lay_X9_fits : GoodIn wsX9_lay wsX9_fits := goodIn_r _ [16, 17, 18, 19, 20, 10, 21, 22, 23, 24, 31, 32, 33, 34, 35, 36, 37, 38, 39, 40, 41, 42, 43, 44, 45, 46, 47, 48, 49, 50, 51, 52, 53, 54, 55, 56, 57, 58, 59, 60, 61, 62, 63, 64, 65, 66, 67, 68, 69, 70, 71, 72, 73, 74, 75, 76, 77, 78, 79, 80, 81] (by decide +kernel) (by decide +kernel)
set_option maxRecDepth 20000 in
theorem gX9_lay_X9_fits : GoodIn wsX9_lay (wsV RX9 200 RX9 yX9_fits wsX9_fits) := goodIn_app (goodIn_of _ (by decide +kernel)) ggX9_lay_X9_fits
set_option maxRecDepth 20000 in
theorem ggX9_lay_X9_areNested : GoodIn wsX9_lay wsX9_areNested := goodIn_r _ [27] (by decide +kernel) (by decide +kernel)
set_option maxRecDepth 20000 in
theorem gX9_lay_X9_areNested : GoodIn wsX9_lay (va_wsS RX9 197 yX9_areNested wsX9_areNested) := goodIn_app (goodIn_of _ (by decide +kernel)) ggX9_lay_X9_areNested
set_option maxRecDepth 20000 in
theorem ggX9_lay_X9_agree : GoodIn wsX9_lay wsX9_agree := goodIn_r _ [30, 25, 26, 10, 27] (by decide +kernel) (by decide +kernel)
set_option maxRecDepth 20000 in
theorem gX9_lay_X9_agree : GoodIn wsX9_lay (va_wsS RX9 206 yX9_agree wsX9_agree) := goodIn_app (goodIn_of _ (by decide +kernel)) ggX9_lay_X9_agree
theorem dX9_lay_0 : decode cX9_lay 0 = .ok (.aload_n 0, 1) := by decide +kernel
theorem dX9_lay_1 : decode cX9_lay 1 = .ok (.iload_n 2, 1) := by decide +kernel
theorem dX9_lay_2 : decode cX9_lay 2 = .ok (.ifCond .eq 12, 3) := by decide +kernel
theorem dX9_lay_5 : decode cX9_lay 5 = .ok (.iconst 1, 1) := by decide +kernel
theorem dX9_lay_6 : decode cX9_lay 6 = .ok (.aload_n 0, 1) := by decide +kernel
theorem dX9_lay_7 : decode cX9_lay 7 = .ok (.getfield 7, 3) := by decide +kernel
theorem dX9_lay_10 : decode cX9_lay 10 = .ok (.ishl, 1) := by decide +kernel
theorem dX9_lay_11 : decode cX9_lay 11 = .ok (.goto 7, 3) := by decide +kernel
theorem dX9_lay_14 : decode cX9_lay 14 = .ok (.aload_n 0, 1) := by decide +kernel
theorem dX9_lay_15 : decode cX9_lay 15 = .ok (.getfield 102, 3) := by decide +kernel
theorem dX9_lay_18 : decode cX9_lay 18 = .ok (.putfield 234, 3) := by decide +kernel
theorem dX9_lay_21 : decode cX9_lay 21 = .ok (.aload_n 0, 1) := by decide +kernel
theorem dX9_lay_22 : decode cX9_lay 22 = .ok (.iconst 0, 1) := by decide +kernel
theorem dX9_lay_23 : decode cX9_lay 23 = .ok (.putfield 237, 3) := by decide +kernel
theorem dX9_lay_26 : decode cX9_lay 26 = .ok (.iconst 0, 1) := by decide +kernel
theorem dX9_lay_27 : decode cX9_lay 27 = .ok (.istore 4, 2) := by decide +kernel
theorem dX9_lay_29 : decode cX9_lay 29 = .ok (.iload 4, 2) := by decide +kernel
theorem dX9_lay_31 : decode cX9_lay 31 = .ok (.aload_n 0, 1) := by decide +kernel
theorem dX9_lay_32 : decode cX9_lay 32 = .ok (.getfield 234, 3) := by decide +kernel
theorem dX9_lay_35 : decode cX9_lay 35 = .ok (.if_icmp .ge 163, 3) := by decide +kernel
theorem dX9_lay_38 : decode cX9_lay 38 = .ok (.aload_n 0, 1) := by decide +kernel
theorem dX9_lay_39 : decode cX9_lay 39 = .ok (.dup, 1) := by decide +kernel
theorem dX9_lay_40 : decode cX9_lay 40 = .ok (.getfield 237, 3) := by decide +kernel
theorem dX9_lay_43 : decode cX9_lay 43 = .ok (.iload_n 3, 1) := by decide +kernel
theorem dX9_lay_44 : decode cX9_lay 44 = .ok (.ifCond .eq 18, 3) := by decide +kernel
theorem dX9_lay_47 : decode cX9_lay 47 = .ok (.aload_n 0, 1) := by decide +kernel
theorem dX9_lay_48 : decode cX9_lay 48 = .ok (.iload_n 1, 1) := by decide +kernel
theorem dX9_lay_49 : decode cX9_lay 49 = .ok (.aload_n 0, 1) := by decide +kernel
theorem dX9_lay_50 : decode cX9_lay 50 = .ok (.iload 4, 2) := by decide +kernel
theorem dX9_lay_52 : decode cX9_lay 52 = .ok (.iload_n 2, 1) := by decide +kernel
theorem dX9_lay_53 : decode cX9_lay 53 = .ok (.invokevirtual 240, 3) := by decide +kernel
theorem dX9_lay_56 : decode cX9_lay 56 = .ok (.invokevirtual 200, 3) := by decide +kernel
theorem dX9_lay_59 : decode cX9_lay 59 = .ok (.ifCond .eq 10, 3) := by decide +kernel
theorem dX9_lay_62 : decode cX9_lay 62 = .ok (.iconst 1, 1) := by decide +kernel
theorem dX9_lay_63 : decode cX9_lay 63 = .ok (.iload 4, 2) := by decide +kernel
theorem dX9_lay_65 : decode cX9_lay 65 = .ok (.ishl, 1) := by decide +kernel
theorem dX9_lay_66 : decode cX9_lay 66 = .ok (.goto 4, 3) := by decide +kernel
theorem dX9_lay_69 : decode cX9_lay 69 = .ok (.iconst 0, 1) := by decide +kernel
theorem dX9_lay_70 : decode cX9_lay 70 = .ok (.ior, 1) := by decide +kernel
theorem dX9_lay_71 : decode cX9_lay 71 = .ok (.putfield 237, 3) := by decide +kernel
theorem dX9_lay_74 : decode cX9_lay 74 = .ok (.aload_n 0, 1) := by decide +kernel
theorem dX9_lay_75 : decode cX9_lay 75 = .ok (.getfield 49, 3) := by decide +kernel
theorem dX9_lay_78 : decode cX9_lay 78 = .ok (.iload 4, 2) := by decide +kernel
theorem dX9_lay_80 : decode cX9_lay 80 = .ok (.iconst 0, 1) := by decide +kernel
theorem dX9_lay_81 : decode cX9_lay 81 = .ok (.iastore, 1) := by decide +kernel
theorem dX9_lay_82 : decode cX9_lay 82 = .ok (.aload_n 0, 1) := by decide +kernel
theorem dX9_lay_83 : decode cX9_lay 83 = .ok (.getfield 52, 3) := by decide +kernel
theorem dX9_lay_86 : decode cX9_lay 86 = .ok (.iload 4, 2) := by decide +kernel
theorem dX9_lay_88 : decode cX9_lay 88 = .ok (.iconst 0, 1) := by decide +kernel
theorem dX9_lay_89 : decode cX9_lay 89 = .ok (.iastore, 1) := by decide +kernel
theorem dX9_lay_90 : decode cX9_lay 90 = .ok (.iconst 0, 1) := by decide +kernel
theorem dX9_lay_91 : decode cX9_lay 91 = .ok (.istore 5, 2) := by decide +kernel
theorem dX9_lay_93 : decode cX9_lay 93 = .ok (.iload 5, 2) := by decide +kernel
theorem dX9_lay_95 : decode cX9_lay 95 = .ok (.aload_n 0, 1) := by decide +kernel
theorem dX9_lay_96 : decode cX9_lay 96 = .ok (.getfield 234, 3) := by decide +kernel
theorem dX9_lay_99 : decode cX9_lay 99 = .ok (.if_icmp .ge 93, 3) := by decide +kernel
theorem dX9_lay_102 : decode cX9_lay 102 = .ok (.aload_n 0, 1) := by decide +kernel
theorem dX9_lay_103 : decode cX9_lay 103 = .ok (.getfield 49, 3) := by decide +kernel
theorem dX9_lay_106 : decode cX9_lay 106 = .ok (.iload 4, 2) := by decide +kernel
theorem dX9_lay_108 : decode cX9_lay 108 = .ok (.dup2, 1) := by decide +kernel
theorem dX9_lay_109 : decode cX9_lay 109 = .ok (.iaload, 1) := by decide +kernel
theorem dX9_lay_110 : decode cX9_lay 110 = .ok (.aload_n 0, 1) := by decide +kernel
theorem dX9_lay_111 : decode cX9_lay 111 = .ok (.iload 4, 2) := by decide +kernel
theorem dX9_lay_113 : decode cX9_lay 113 = .ok (.iload_n 2, 1) := by decide +kernel
theorem dX9_lay_114 : decode cX9_lay 114 = .ok (.invokevirtual 240, 3) := by decide +kernel
theorem dX9_lay_117 : decode cX9_lay 117 = .ok (.aload_n 0, 1) := by decide +kernel
theorem dX9_lay_118 : decode cX9_lay 118 = .ok (.iload 5, 2) := by decide +kernel
theorem dX9_lay_120 : decode cX9_lay 120 = .ok (.iload_n 2, 1) := by decide +kernel
theorem dX9_lay_121 : decode cX9_lay 121 = .ok (.invokevirtual 240, 3) := by decide +kernel
theorem dX9_lay_124 : decode cX9_lay 124 = .ok (.invokestatic 197, 3) := by decide +kernel
theorem dX9_lay_127 : decode cX9_lay 127 = .ok (.ifCond .eq 10, 3) := by decide +kernel
theorem dX9_lay_130 : decode cX9_lay 130 = .ok (.iconst 1, 1) := by decide +kernel
theorem dX9_lay_131 : decode cX9_lay 131 = .ok (.iload 5, 2) := by decide +kernel
theorem dX9_lay_133 : decode cX9_lay 133 = .ok (.ishl, 1) := by decide +kernel
theorem dX9_lay_134 : decode cX9_lay 134 = .ok (.goto 4, 3) := by decide +kernel
theorem dX9_lay_137 : decode cX9_lay 137 = .ok (.iconst 0, 1) := by decide +kernel
theorem dX9_lay_138 : decode cX9_lay 138 = .ok (.ior, 1) := by decide +kernel
theorem dX9_lay_139 : decode cX9_lay 139 = .ok (.iastore, 1) := by decide +kernel
theorem dX9_lay_140 : decode cX9_lay 140 = .ok (.aload_n 0, 1) := by decide +kernel
theorem dX9_lay_141 : decode cX9_lay 141 = .ok (.getfield 52, 3) := by decide +kernel
theorem dX9_lay_144 : decode cX9_lay 144 = .ok (.iload 4, 2) := by decide +kernel
theorem dX9_lay_146 : decode cX9_lay 146 = .ok (.dup2, 1) := by decide +kernel
theorem dX9_lay_147 : decode cX9_lay 147 = .ok (.iaload, 1) := by decide +kernel
theorem dX9_lay_148 : decode cX9_lay 148 = .ok (.iload 5, 2) := by decide +kernel
theorem dX9_lay_150 : decode cX9_lay 150 = .ok (.iload 4, 2) := by decide +kernel
theorem dX9_lay_152 : decode cX9_lay 152 = .ok (.if_icmp .eq 24, 3) := by decide +kernel
theorem dX9_lay_155 : decode cX9_lay 155 = .ok (.iload_n 1, 1) := by decide +kernel
theorem dX9_lay_156 : decode cX9_lay 156 = .ok (.aload_n 0, 1) := by decide +kernel
theorem dX9_lay_157 : decode cX9_lay 157 = .ok (.iload 4, 2) := by decide +kernel
theorem dX9_lay_159 : decode cX9_lay 159 = .ok (.iload_n 2, 1) := by decide +kernel
theorem dX9_lay_160 : decode cX9_lay 160 = .ok (.invokevirtual 240, 3) := by decide +kernel
theorem dX9_lay_163 : decode cX9_lay 163 = .ok (.aload_n 0, 1) := by decide +kernel
theorem dX9_lay_164 : decode cX9_lay 164 = .ok (.iload 5, 2) := by decide +kernel
theorem dX9_lay_166 : decode cX9_lay 166 = .ok (.iload_n 2, 1) := by decide +kernel
theorem dX9_lay_167 : decode cX9_lay 167 = .ok (.invokevirtual 240, 3) := by decide +kernel
theorem dX9_lay_170 : decode cX9_lay 170 = .ok (.invokestatic 206, 3) := by decide +kernel
theorem dX9_lay_173 : decode cX9_lay 173 = .ok (.ifCond .ne 10, 3) := by decide +kernel
theorem dX9_lay_176 : decode cX9_lay 176 = .ok (.iconst 1, 1) := by decide +kernel
theorem dX9_lay_177 : decode cX9_lay 177 = .ok (.iload 5, 2) := by decide +kernel
theorem dX9_lay_179 : decode cX9_lay 179 = .ok (.ishl, 1) := by decide +kernel
theorem dX9_lay_180 : decode cX9_lay 180 = .ok (.goto 4, 3) := by decide +kernel
theorem dX9_lay_183 : decode cX9_lay 183 = .ok (.iconst 0, 1) := by decide +kernel
theorem dX9_lay_184 : decode cX9_lay 184 = .ok (.ior, 1) := by decide +kernel
theorem dX9_lay_185 : decode cX9_lay 185 = .ok (.iastore, 1) := by decide +kernel
theorem dX9_lay_186 : decode cX9_lay 186 = .ok (.iinc 5 1, 3) := by decide +kernel
theorem dX9_lay_189 : decode cX9_lay 189 = .ok (.goto (-96), 3) := by decide +kernel
theorem dX9_lay_192 : decode cX9_lay 192 = .ok (.iinc 4 1, 3) := by decide +kernel
theorem dX9_lay_195 : decode cX9_lay 195 = .ok (.goto (-166), 3) := by decide +kernel
theorem dX9_lay_198 : decode cX9_lay 198 = .ok (.return_, 1) := by decide +kernel
theorem dX9_still_0 : decode cX9_still 0 = .ok (.iload 4, 2) := by decide +kernel
theorem dX9_still_2 : decode cX9_still 2 = .ok (.aload_n 0, 1) := by decide +kernel
theorem dX9_still_3 : decode cX9_still 3 = .ok (.getfield 52, 3) := by decide +kernel
theorem dX9_still_6 : decode cX9_still 6 = .ok (.iload_n 2, 1) := by decide +kernel
theorem dX9_still_7 : decode cX9_still 7 = .ok (.iaload, 1) := by decide +kernel
theorem dX9_still_8 : decode cX9_still 8 = .ok (.iconst (-1), 1) := by decide +kernel
theorem dX9_still_9 : decode cX9_still 9 = .ok (.ixor, 1) := by decide +kernel
theorem dX9_still_10 : decode cX9_still 10 = .ok (.iand, 1) := by decide +kernel
theorem dX9_still_11 : decode cX9_still 11 = .ok (.istore 5, 2) := by decide +kernel
theorem dX9_still_13 : decode cX9_still 13 = .ok (.iconst 0, 1) := by decide +kernel
theorem dX9_still_14 : decode cX9_still 14 = .ok (.istore 6, 2) := by decide +kernel
theorem dX9_still_16 : decode cX9_still 16 = .ok (.iload 6, 2) := by decide +kernel
theorem dX9_still_18 : decode cX9_still 18 = .ok (.aload_n 0, 1) := by decide +kernel
theorem dX9_still_19 : decode cX9_still 19 = .ok (.getfield 234, 3) := by decide +kernel
theorem dX9_still_22 : decode cX9_still 22 = .ok (.if_icmp .ge 55, 3) := by decide +kernel
theorem dX9_still_25 : decode cX9_still 25 = .ok (.iload_n 1, 1) := by decide +kernel
theorem dX9_still_26 : decode cX9_still 26 = .ok (.iconst 2, 1) := by decide +kernel
theorem dX9_still_27 : decode cX9_still 27 = .ok (.if_icmp .ne 50, 3) := by decide +kernel
theorem dX9_still_30 : decode cX9_still 30 = .ok (.iload 5, 2) := by decide +kernel
theorem dX9_still_32 : decode cX9_still 32 = .ok (.iload_n 3, 1) := by decide +kernel
theorem dX9_still_33 : decode cX9_still 33 = .ok (.aload_n 0, 1) := by decide +kernel
theorem dX9_still_34 : decode cX9_still 34 = .ok (.getfield 49, 3) := by decide +kernel
theorem dX9_still_37 : decode cX9_still 37 = .ok (.iload_n 2, 1) := by decide +kernel
theorem dX9_still_38 : decode cX9_still 38 = .ok (.iaload, 1) := by decide +kernel
theorem dX9_still_39 : decode cX9_still 39 = .ok (.iand, 1) := by decide +kernel
theorem dX9_still_40 : decode cX9_still 40 = .ok (.iconst 1, 1) := by decide +kernel
theorem dX9_still_41 : decode cX9_still 41 = .ok (.iload 6, 2) := by decide +kernel
theorem dX9_still_43 : decode cX9_still 43 = .ok (.ishl, 1) := by decide +kernel
theorem dX9_still_44 : decode cX9_still 44 = .ok (.iand, 1) := by decide +kernel
theorem dX9_still_45 : decode cX9_still 45 = .ok (.ifCond .ne 7, 3) := by decide +kernel
theorem dX9_still_48 : decode cX9_still 48 = .ok (.iconst (-1), 1) := by decide +kernel
theorem dX9_still_49 : decode cX9_still 49 = .ok (.goto 19, 3) := by decide +kernel
theorem dX9_still_52 : decode cX9_still 52 = .ok (.aload_n 0, 1) := by decide +kernel
theorem dX9_still_53 : decode cX9_still 53 = .ok (.getfield 49, 3) := by decide +kernel
theorem dX9_still_56 : decode cX9_still 56 = .ok (.iload_n 2, 1) := by decide +kernel
theorem dX9_still_57 : decode cX9_still 57 = .ok (.iaload, 1) := by decide +kernel
theorem dX9_still_58 : decode cX9_still 58 = .ok (.aload_n 0, 1) := by decide +kernel
theorem dX9_still_59 : decode cX9_still 59 = .ok (.getfield 49, 3) := by decide +kernel
theorem dX9_still_62 : decode cX9_still 62 = .ok (.iload 6, 2) := by decide +kernel
theorem dX9_still_64 : decode cX9_still 64 = .ok (.iaload, 1) := by decide +kernel
theorem dX9_still_65 : decode cX9_still 65 = .ok (.iand, 1) := by decide +kernel
theorem dX9_still_66 : decode cX9_still 66 = .ok (.iconst (-1), 1) := by decide +kernel
theorem dX9_still_67 : decode cX9_still 67 = .ok (.ixor, 1) := by decide +kernel
theorem dX9_still_68 : decode cX9_still 68 = .ok (.iand, 1) := by decide +kernel
theorem dX9_still_69 : decode cX9_still 69 = .ok (.istore 5, 2) := by decide +kernel
theorem dX9_still_71 : decode cX9_still 71 = .ok (.iinc 6 1, 3) := by decide +kernel
theorem dX9_still_74 : decode cX9_still 74 = .ok (.goto (-58), 3) := by decide +kernel
theorem dX9_still_77 : decode cX9_still 77 = .ok (.iload 5, 2) := by decide +kernel
theorem dX9_still_79 : decode cX9_still 79 = .ok (.ireturn, 1) := by decide +kernel
set_option maxRecDepth 20000 in
theorem ggX9_meets_X9_many : GoodIn wsX9_meets wsX9_many := goodIn_r _ [14] (by decide +kernel) (by decide +kernel)
set_option maxRecDepth 20000 in
theorem gX9_meets_X9_many : GoodIn wsX9_meets (va_wsS RX9 194 yX9_many wsX9_many) := goodIn_app (goodIn_of _ (by decide +kernel)) ggX9_meets_X9_many
theorem dX9_meets_0 : decode cX9_meets 0 = .ok (.iload_n 1, 1) := by decide +kernel
theorem dX9_meets_1 : decode cX9_meets 1 = .ok (.invokestatic 194, 3) := by decide +kernel
theorem dX9_meets_4 : decode cX9_meets 4 = .ok (.istore 4, 2) := by decide +kernel
theorem dX9_meets_6 : decode cX9_meets 6 = .ok (.aload_n 0, 1) := by decide +kernel
theorem dX9_meets_7 : decode cX9_meets 7 = .ok (.dup, 1) := by decide +kernel
theorem dX9_meets_8 : decode cX9_meets 8 = .ok (.getfield 244, 3) := by decide +kernel
theorem dX9_meets_11 : decode cX9_meets 11 = .ok (.iconst 1, 1) := by decide +kernel
theorem dX9_meets_12 : decode cX9_meets 12 = .ok (.iadd, 1) := by decide +kernel
theorem dX9_meets_13 : decode cX9_meets 13 = .ok (.putfield 244, 3) := by decide +kernel
theorem dX9_meets_16 : decode cX9_meets 16 = .ok (.iload_n 2, 1) := by decide +kernel
theorem dX9_meets_17 : decode cX9_meets 17 = .ok (.ifCond .ne 57, 3) := by decide +kernel
theorem dX9_meets_20 : decode cX9_meets 20 = .ok (.aload_n 0, 1) := by decide +kernel
theorem dX9_meets_21 : decode cX9_meets 21 = .ok (.dup, 1) := by decide +kernel
theorem dX9_meets_22 : decode cX9_meets 22 = .ok (.getfield 247, 3) := by decide +kernel
theorem dX9_meets_25 : decode cX9_meets 25 = .ok (.iconst 1, 1) := by decide +kernel
theorem dX9_meets_26 : decode cX9_meets 26 = .ok (.iadd, 1) := by decide +kernel
theorem dX9_meets_27 : decode cX9_meets 27 = .ok (.putfield 247, 3) := by decide +kernel
theorem dX9_meets_30 : decode cX9_meets 30 = .ok (.aload_n 0, 1) := by decide +kernel
theorem dX9_meets_31 : decode cX9_meets 31 = .ok (.iload 4, 2) := by decide +kernel
theorem dX9_meets_33 : decode cX9_meets 33 = .ok (.aload_n 0, 1) := by decide +kernel
theorem dX9_meets_34 : decode cX9_meets 34 = .ok (.getfield 250, 3) := by decide +kernel
theorem dX9_meets_37 : decode cX9_meets 37 = .ok (.if_icmp .ge 8, 3) := by decide +kernel
theorem dX9_meets_40 : decode cX9_meets 40 = .ok (.iload 4, 2) := by decide +kernel
theorem dX9_meets_42 : decode cX9_meets 42 = .ok (.goto 7, 3) := by decide +kernel
theorem dX9_meets_45 : decode cX9_meets 45 = .ok (.aload_n 0, 1) := by decide +kernel
theorem dX9_meets_46 : decode cX9_meets 46 = .ok (.getfield 250, 3) := by decide +kernel
theorem dX9_meets_49 : decode cX9_meets 49 = .ok (.putfield 250, 3) := by decide +kernel
theorem dX9_meets_52 : decode cX9_meets 52 = .ok (.aload_n 0, 1) := by decide +kernel
theorem dX9_meets_53 : decode cX9_meets 53 = .ok (.iload 4, 2) := by decide +kernel
theorem dX9_meets_55 : decode cX9_meets 55 = .ok (.aload_n 0, 1) := by decide +kernel
theorem dX9_meets_56 : decode cX9_meets 56 = .ok (.getfield 253, 3) := by decide +kernel
theorem dX9_meets_59 : decode cX9_meets 59 = .ok (.if_icmp .le 8, 3) := by decide +kernel
theorem dX9_meets_62 : decode cX9_meets 62 = .ok (.iload 4, 2) := by decide +kernel
theorem dX9_meets_64 : decode cX9_meets 64 = .ok (.goto 7, 3) := by decide +kernel
theorem dX9_meets_67 : decode cX9_meets 67 = .ok (.aload_n 0, 1) := by decide +kernel
theorem dX9_meets_68 : decode cX9_meets 68 = .ok (.getfield 253, 3) := by decide +kernel
theorem dX9_meets_71 : decode cX9_meets 71 = .ok (.putfield 253, 3) := by decide +kernel
theorem dX9_meets_74 : decode cX9_meets 74 = .ok (.iconst 0, 1) := by decide +kernel
theorem dX9_meets_75 : decode cX9_meets 75 = .ok (.istore 5, 2) := by decide +kernel
theorem dX9_meets_77 : decode cX9_meets 77 = .ok (.iconst 0, 1) := by decide +kernel
theorem dX9_meets_78 : decode cX9_meets 78 = .ok (.istore 6, 2) := by decide +kernel
theorem dX9_meets_80 : decode cX9_meets 80 = .ok (.iload 6, 2) := by decide +kernel
theorem dX9_meets_82 : decode cX9_meets 82 = .ok (.aload_n 0, 1) := by decide +kernel
theorem dX9_meets_83 : decode cX9_meets 83 = .ok (.getfield 234, 3) := by decide +kernel
theorem dX9_meets_86 : decode cX9_meets 86 = .ok (.if_icmp .ge 39, 3) := by decide +kernel
theorem dX9_meets_89 : decode cX9_meets 89 = .ok (.iload_n 3, 1) := by decide +kernel
theorem dX9_meets_90 : decode cX9_meets 90 = .ok (.ifCond .ne 35, 3) := by decide +kernel
theorem dX9_meets_93 : decode cX9_meets 93 = .ok (.iload 5, 2) := by decide +kernel
theorem dX9_meets_95 : decode cX9_meets 95 = .ok (.iload_n 1, 1) := by decide +kernel
theorem dX9_meets_96 : decode cX9_meets 96 = .ok (.iload 6, 2) := by decide +kernel
theorem dX9_meets_98 : decode cX9_meets 98 = .ok (.ishr, 1) := by decide +kernel
theorem dX9_meets_99 : decode cX9_meets 99 = .ok (.iconst 1, 1) := by decide +kernel
theorem dX9_meets_100 : decode cX9_meets 100 = .ok (.iand, 1) := by decide +kernel
theorem dX9_meets_101 : decode cX9_meets 101 = .ok (.iconst 1, 1) := by decide +kernel
theorem dX9_meets_102 : decode cX9_meets 102 = .ok (.if_icmp .ne 13, 3) := by decide +kernel
theorem dX9_meets_105 : decode cX9_meets 105 = .ok (.aload_n 0, 1) := by decide +kernel
theorem dX9_meets_106 : decode cX9_meets 106 = .ok (.getfield 20, 3) := by decide +kernel
theorem dX9_meets_109 : decode cX9_meets 109 = .ok (.iload 6, 2) := by decide +kernel
theorem dX9_meets_111 : decode cX9_meets 111 = .ok (.iaload, 1) := by decide +kernel
theorem dX9_meets_112 : decode cX9_meets 112 = .ok (.goto 4, 3) := by decide +kernel
theorem dX9_meets_115 : decode cX9_meets 115 = .ok (.iconst 0, 1) := by decide +kernel
theorem dX9_meets_116 : decode cX9_meets 116 = .ok (.iadd, 1) := by decide +kernel
theorem dX9_meets_117 : decode cX9_meets 117 = .ok (.istore 5, 2) := by decide +kernel
theorem dX9_meets_119 : decode cX9_meets 119 = .ok (.iinc 6 1, 3) := by decide +kernel
theorem dX9_meets_122 : decode cX9_meets 122 = .ok (.goto (-42), 3) := by decide +kernel
theorem dX9_meets_125 : decode cX9_meets 125 = .ok (.iload 4, 2) := by decide +kernel
theorem dX9_meets_127 : decode cX9_meets 127 = .ok (.aload_n 0, 1) := by decide +kernel
theorem dX9_meets_128 : decode cX9_meets 128 = .ok (.getfield 256, 3) := by decide +kernel
theorem dX9_meets_131 : decode cX9_meets 131 = .ok (.if_icmp .gt 20, 3) := by decide +kernel
theorem dX9_meets_134 : decode cX9_meets 134 = .ok (.iload 4, 2) := by decide +kernel
theorem dX9_meets_136 : decode cX9_meets 136 = .ok (.aload_n 0, 1) := by decide +kernel
theorem dX9_meets_137 : decode cX9_meets 137 = .ok (.getfield 256, 3) := by decide +kernel
theorem dX9_meets_140 : decode cX9_meets 140 = .ok (.if_icmp .ne 22, 3) := by decide +kernel
theorem dX9_meets_143 : decode cX9_meets 143 = .ok (.iload_n 1, 1) := by decide +kernel
theorem dX9_meets_144 : decode cX9_meets 144 = .ok (.aload_n 0, 1) := by decide +kernel
theorem dX9_meets_145 : decode cX9_meets 145 = .ok (.getfield 259, 3) := by decide +kernel
theorem dX9_meets_148 : decode cX9_meets 148 = .ok (.if_icmp .ge 14, 3) := by decide +kernel
theorem dX9_meets_151 : decode cX9_meets 151 = .ok (.aload_n 0, 1) := by decide +kernel
theorem dX9_meets_152 : decode cX9_meets 152 = .ok (.iload 4, 2) := by decide +kernel
theorem dX9_meets_154 : decode cX9_meets 154 = .ok (.putfield 256, 3) := by decide +kernel
theorem dX9_meets_157 : decode cX9_meets 157 = .ok (.aload_n 0, 1) := by decide +kernel
theorem dX9_meets_158 : decode cX9_meets 158 = .ok (.iload_n 1, 1) := by decide +kernel
theorem dX9_meets_159 : decode cX9_meets 159 = .ok (.putfield 259, 3) := by decide +kernel
theorem dX9_meets_162 : decode cX9_meets 162 = .ok (.iload 5, 2) := by decide +kernel
theorem dX9_meets_164 : decode cX9_meets 164 = .ok (.aload_n 0, 1) := by decide +kernel
theorem dX9_meets_165 : decode cX9_meets 165 = .ok (.getfield 262, 3) := by decide +kernel
theorem dX9_meets_168 : decode cX9_meets 168 = .ok (.if_icmp .gt 20, 3) := by decide +kernel
theorem dX9_meets_171 : decode cX9_meets 171 = .ok (.iload 5, 2) := by decide +kernel
theorem dX9_meets_173 : decode cX9_meets 173 = .ok (.aload_n 0, 1) := by decide +kernel
theorem dX9_meets_174 : decode cX9_meets 174 = .ok (.getfield 262, 3) := by decide +kernel
theorem dX9_meets_177 : decode cX9_meets 177 = .ok (.if_icmp .ne 22, 3) := by decide +kernel
theorem dX9_meets_180 : decode cX9_meets 180 = .ok (.iload_n 1, 1) := by decide +kernel
theorem dX9_meets_181 : decode cX9_meets 181 = .ok (.aload_n 0, 1) := by decide +kernel
theorem dX9_meets_182 : decode cX9_meets 182 = .ok (.getfield 265, 3) := by decide +kernel
theorem dX9_meets_185 : decode cX9_meets 185 = .ok (.if_icmp .ge 14, 3) := by decide +kernel
theorem dX9_meets_188 : decode cX9_meets 188 = .ok (.aload_n 0, 1) := by decide +kernel
theorem dX9_meets_189 : decode cX9_meets 189 = .ok (.iload 5, 2) := by decide +kernel
theorem dX9_meets_191 : decode cX9_meets 191 = .ok (.putfield 262, 3) := by decide +kernel
theorem dX9_meets_194 : decode cX9_meets 194 = .ok (.aload_n 0, 1) := by decide +kernel
theorem dX9_meets_195 : decode cX9_meets 195 = .ok (.iload_n 1, 1) := by decide +kernel
theorem dX9_meets_196 : decode cX9_meets 196 = .ok (.putfield 265, 3) := by decide +kernel
theorem dX9_meets_199 : decode cX9_meets 199 = .ok (.return_, 1) := by decide +kernel
set_option maxRecDepth 20000 in
theorem ggX9_goThrough_X9_meets : GoodIn wsX9_goThrough wsX9_meets := goodIn_r _ [15, 1, 2, 3, 4, 10, 16, 5, 17, 6, 18, 19, 20, 14, 21, 28, 29, 30, 31, 32, 33, 34, 35, 36, 37, 38, 39, 40, 41, 42, 43, 44, 45, 46, 47, 48, 49, 50, 51, 52, 53, 54, 55, 56, 57, 58, 59, 60, 61, 62, 63, 64, 65, 66, 67, 68, 69, 70, 71, 72, 73, 74, 75, 76, 77, 78] (by decide +kernel) (by decide +kernel)
set_option maxRecDepth 20000 in
theorem gX9_goThrough_X9_meets : GoodIn wsX9_goThrough (wsV RX9 268 RX9 yX9_meets wsX9_meets) := goodIn_app (goodIn_of _ (by decide +kernel)) ggX9_goThrough_X9_meets
set_option maxRecDepth 20000 in
theorem ggX9_goThrough_X9_still : GoodIn wsX9_goThrough wsX9_still := goodIn_r _ [25, 26, 10, 27, 28, 29, 30, 31, 32, 33, 34, 35, 36, 37, 38, 39, 40, 41, 42, 43, 44, 45, 46, 47, 48, 49, 50, 51, 52, 53, 54, 55, 56, 57, 58, 59, 60, 61, 62, 63, 64, 65, 66, 67, 68, 69, 70, 71, 72, 73, 74, 75, 76, 77, 78] (by decide +kernel) (by decide +kernel)
set_option maxRecDepth 20000 in
theorem gX9_goThrough_X9_still : GoodIn wsX9_goThrough (wsV RX9 272 RX9 yX9_still wsX9_still) := goodIn_app (goodIn_of _ (by decide +kernel)) ggX9_goThrough_X9_still
theorem dX9_goThrough_0 : decode cX9_goThrough 0 = .ok (.aload_n 0, 1) := by decide +kernel
theorem dX9_goThrough_1 : decode cX9_goThrough 1 = .ok (.iconst 0, 1) := by decide +kernel
theorem dX9_goThrough_2 : decode cX9_goThrough 2 = .ok (.putfield 244, 3) := by decide +kernel
theorem dX9_goThrough_5 : decode cX9_goThrough 5 = .ok (.aload_n 0, 1) := by decide +kernel
theorem dX9_goThrough_6 : decode cX9_goThrough 6 = .ok (.iconst 0, 1) := by decide +kernel
theorem dX9_goThrough_7 : decode cX9_goThrough 7 = .ok (.putfield 247, 3) := by decide +kernel
theorem dX9_goThrough_10 : decode cX9_goThrough 10 = .ok (.aload_n 0, 1) := by decide +kernel
theorem dX9_goThrough_11 : decode cX9_goThrough 11 = .ok (.bipush 16, 2) := by decide +kernel
theorem dX9_goThrough_13 : decode cX9_goThrough 13 = .ok (.putfield 250, 3) := by decide +kernel
theorem dX9_goThrough_16 : decode cX9_goThrough 16 = .ok (.aload_n 0, 1) := by decide +kernel
theorem dX9_goThrough_17 : decode cX9_goThrough 17 = .ok (.iconst 0, 1) := by decide +kernel
theorem dX9_goThrough_18 : decode cX9_goThrough 18 = .ok (.putfield 253, 3) := by decide +kernel
theorem dX9_goThrough_21 : decode cX9_goThrough 21 = .ok (.aload_n 0, 1) := by decide +kernel
theorem dX9_goThrough_22 : decode cX9_goThrough 22 = .ok (.iconst (-1), 1) := by decide +kernel
theorem dX9_goThrough_23 : decode cX9_goThrough 23 = .ok (.putfield 256, 3) := by decide +kernel
theorem dX9_goThrough_26 : decode cX9_goThrough 26 = .ok (.aload_n 0, 1) := by decide +kernel
theorem dX9_goThrough_27 : decode cX9_goThrough 27 = .ok (.iconst (-1), 1) := by decide +kernel
theorem dX9_goThrough_28 : decode cX9_goThrough 28 = .ok (.putfield 262, 3) := by decide +kernel
theorem dX9_goThrough_31 : decode cX9_goThrough 31 = .ok (.iconst 0, 1) := by decide +kernel
theorem dX9_goThrough_32 : decode cX9_goThrough 32 = .ok (.istore 4, 2) := by decide +kernel
theorem dX9_goThrough_34 : decode cX9_goThrough 34 = .ok (.iconst 0, 1) := by decide +kernel
theorem dX9_goThrough_35 : decode cX9_goThrough 35 = .ok (.istore 5, 2) := by decide +kernel
theorem dX9_goThrough_37 : decode cX9_goThrough 37 = .ok (.aload_n 0, 1) := by decide +kernel
theorem dX9_goThrough_38 : decode cX9_goThrough 38 = .ok (.getfield 55, 3) := by decide +kernel
theorem dX9_goThrough_41 : decode cX9_goThrough 41 = .ok (.iconst 0, 1) := by decide +kernel
theorem dX9_goThrough_42 : decode cX9_goThrough 42 = .ok (.iconst 0, 1) := by decide +kernel
theorem dX9_goThrough_43 : decode cX9_goThrough 43 = .ok (.iastore, 1) := by decide +kernel
theorem dX9_goThrough_44 : decode cX9_goThrough 44 = .ok (.aload_n 0, 1) := by decide +kernel
theorem dX9_goThrough_45 : decode cX9_goThrough 45 = .ok (.getfield 58, 3) := by decide +kernel
theorem dX9_goThrough_48 : decode cX9_goThrough 48 = .ok (.iconst 0, 1) := by decide +kernel
theorem dX9_goThrough_49 : decode cX9_goThrough 49 = .ok (.aload_n 0, 1) := by decide +kernel
theorem dX9_goThrough_50 : decode cX9_goThrough 50 = .ok (.getfield 237, 3) := by decide +kernel
theorem dX9_goThrough_53 : decode cX9_goThrough 53 = .ok (.iastore, 1) := by decide +kernel
theorem dX9_goThrough_54 : decode cX9_goThrough 54 = .ok (.iload 5, 2) := by decide +kernel
theorem dX9_goThrough_56 : decode cX9_goThrough 56 = .ok (.ifCond .lt 203, 3) := by decide +kernel
theorem dX9_goThrough_59 : decode cX9_goThrough 59 = .ok (.iload 5, 2) := by decide +kernel
theorem dX9_goThrough_61 : decode cX9_goThrough 61 = .ok (.aload_n 0, 1) := by decide +kernel
theorem dX9_goThrough_62 : decode cX9_goThrough 62 = .ok (.getfield 234, 3) := by decide +kernel
theorem dX9_goThrough_65 : decode cX9_goThrough 65 = .ok (.if_icmp .ne 23, 3) := by decide +kernel
theorem dX9_goThrough_68 : decode cX9_goThrough 68 = .ok (.aload_n 0, 1) := by decide +kernel
theorem dX9_goThrough_69 : decode cX9_goThrough 69 = .ok (.iload 4, 2) := by decide +kernel
theorem dX9_goThrough_71 : decode cX9_goThrough 71 = .ok (.aload_n 0, 1) := by decide +kernel
theorem dX9_goThrough_72 : decode cX9_goThrough 72 = .ok (.getfield 58, 3) := by decide +kernel
theorem dX9_goThrough_75 : decode cX9_goThrough 75 = .ok (.iload 5, 2) := by decide +kernel
theorem dX9_goThrough_77 : decode cX9_goThrough 77 = .ok (.iaload, 1) := by decide +kernel
theorem dX9_goThrough_78 : decode cX9_goThrough 78 = .ok (.iload_n 3, 1) := by decide +kernel
theorem dX9_goThrough_79 : decode cX9_goThrough 79 = .ok (.invokevirtual 268, 3) := by decide +kernel
theorem dX9_goThrough_82 : decode cX9_goThrough 82 = .ok (.iinc 5 (-1), 3) := by decide +kernel
theorem dX9_goThrough_85 : decode cX9_goThrough 85 = .ok (.goto (-31), 3) := by decide +kernel
theorem dX9_goThrough_88 : decode cX9_goThrough 88 = .ok (.aload_n 0, 1) := by decide +kernel
theorem dX9_goThrough_89 : decode cX9_goThrough 89 = .ok (.getfield 55, 3) := by decide +kernel
theorem dX9_goThrough_92 : decode cX9_goThrough 92 = .ok (.iload 5, 2) := by decide +kernel
theorem dX9_goThrough_94 : decode cX9_goThrough 94 = .ok (.dup2, 1) := by decide +kernel
theorem dX9_goThrough_95 : decode cX9_goThrough 95 = .ok (.iaload, 1) := by decide +kernel
theorem dX9_goThrough_96 : decode cX9_goThrough 96 = .ok (.iconst 1, 1) := by decide +kernel
theorem dX9_goThrough_97 : decode cX9_goThrough 97 = .ok (.iadd, 1) := by decide +kernel
theorem dX9_goThrough_98 : decode cX9_goThrough 98 = .ok (.iastore, 1) := by decide +kernel
theorem dX9_goThrough_99 : decode cX9_goThrough 99 = .ok (.iconst 0, 1) := by decide +kernel
theorem dX9_goThrough_100 : decode cX9_goThrough 100 = .ok (.istore 6, 2) := by decide +kernel
theorem dX9_goThrough_102 : decode cX9_goThrough 102 = .ok (.aload_n 0, 1) := by decide +kernel
theorem dX9_goThrough_103 : decode cX9_goThrough 103 = .ok (.getfield 55, 3) := by decide +kernel
theorem dX9_goThrough_106 : decode cX9_goThrough 106 = .ok (.iload 5, 2) := by decide +kernel
theorem dX9_goThrough_108 : decode cX9_goThrough 108 = .ok (.iaload, 1) := by decide +kernel
theorem dX9_goThrough_109 : decode cX9_goThrough 109 = .ok (.iconst 1, 1) := by decide +kernel
theorem dX9_goThrough_110 : decode cX9_goThrough 110 = .ok (.if_icmp .ne 59, 3) := by decide +kernel
theorem dX9_goThrough_113 : decode cX9_goThrough 113 = .ok (.aload_n 0, 1) := by decide +kernel
theorem dX9_goThrough_114 : decode cX9_goThrough 114 = .ok (.getfield 58, 3) := by decide +kernel
theorem dX9_goThrough_117 : decode cX9_goThrough 117 = .ok (.iload 5, 2) := by decide +kernel
theorem dX9_goThrough_119 : decode cX9_goThrough 119 = .ok (.iaload, 1) := by decide +kernel
theorem dX9_goThrough_120 : decode cX9_goThrough 120 = .ok (.iload 5, 2) := by decide +kernel
theorem dX9_goThrough_122 : decode cX9_goThrough 122 = .ok (.ishr, 1) := by decide +kernel
theorem dX9_goThrough_123 : decode cX9_goThrough 123 = .ok (.iconst 1, 1) := by decide +kernel
theorem dX9_goThrough_124 : decode cX9_goThrough 124 = .ok (.iand, 1) := by decide +kernel
theorem dX9_goThrough_125 : decode cX9_goThrough 125 = .ok (.iconst 1, 1) := by decide +kernel
theorem dX9_goThrough_126 : decode cX9_goThrough 126 = .ok (.if_icmp .ne 43, 3) := by decide +kernel
theorem dX9_goThrough_129 : decode cX9_goThrough 129 = .ok (.aload_n 0, 1) := by decide +kernel
theorem dX9_goThrough_130 : decode cX9_goThrough 130 = .ok (.getfield 58, 3) := by decide +kernel
theorem dX9_goThrough_133 : decode cX9_goThrough 133 = .ok (.iload 5, 2) := by decide +kernel
theorem dX9_goThrough_135 : decode cX9_goThrough 135 = .ok (.iconst 1, 1) := by decide +kernel
theorem dX9_goThrough_136 : decode cX9_goThrough 136 = .ok (.iadd, 1) := by decide +kernel
theorem dX9_goThrough_137 : decode cX9_goThrough 137 = .ok (.aload_n 0, 1) := by decide +kernel
theorem dX9_goThrough_138 : decode cX9_goThrough 138 = .ok (.iload_n 1, 1) := by decide +kernel
theorem dX9_goThrough_139 : decode cX9_goThrough 139 = .ok (.iload 5, 2) := by decide +kernel
theorem dX9_goThrough_141 : decode cX9_goThrough 141 = .ok (.iload 4, 2) := by decide +kernel
theorem dX9_goThrough_143 : decode cX9_goThrough 143 = .ok (.aload_n 0, 1) := by decide +kernel
theorem dX9_goThrough_144 : decode cX9_goThrough 144 = .ok (.getfield 58, 3) := by decide +kernel
theorem dX9_goThrough_147 : decode cX9_goThrough 147 = .ok (.iload 5, 2) := by decide +kernel
theorem dX9_goThrough_149 : decode cX9_goThrough 149 = .ok (.iaload, 1) := by decide +kernel
theorem dX9_goThrough_150 : decode cX9_goThrough 150 = .ok (.invokevirtual 272, 3) := by decide +kernel
theorem dX9_goThrough_153 : decode cX9_goThrough 153 = .ok (.iastore, 1) := by decide +kernel
theorem dX9_goThrough_154 : decode cX9_goThrough 154 = .ok (.iload 4, 2) := by decide +kernel
theorem dX9_goThrough_156 : decode cX9_goThrough 156 = .ok (.iconst 1, 1) := by decide +kernel
theorem dX9_goThrough_157 : decode cX9_goThrough 157 = .ok (.iload 5, 2) := by decide +kernel
theorem dX9_goThrough_159 : decode cX9_goThrough 159 = .ok (.ishl, 1) := by decide +kernel
theorem dX9_goThrough_160 : decode cX9_goThrough 160 = .ok (.ior, 1) := by decide +kernel
theorem dX9_goThrough_161 : decode cX9_goThrough 161 = .ok (.istore 4, 2) := by decide +kernel
theorem dX9_goThrough_163 : decode cX9_goThrough 163 = .ok (.iconst 1, 1) := by decide +kernel
theorem dX9_goThrough_164 : decode cX9_goThrough 164 = .ok (.istore 6, 2) := by decide +kernel
theorem dX9_goThrough_166 : decode cX9_goThrough 166 = .ok (.goto 57, 3) := by decide +kernel
theorem dX9_goThrough_169 : decode cX9_goThrough 169 = .ok (.aload_n 0, 1) := by decide +kernel
theorem dX9_goThrough_170 : decode cX9_goThrough 170 = .ok (.getfield 55, 3) := by decide +kernel
theorem dX9_goThrough_173 : decode cX9_goThrough 173 = .ok (.iload 5, 2) := by decide +kernel
theorem dX9_goThrough_175 : decode cX9_goThrough 175 = .ok (.iaload, 1) := by decide +kernel
theorem dX9_goThrough_176 : decode cX9_goThrough 176 = .ok (.iconst 2, 1) := by decide +kernel
theorem dX9_goThrough_177 : decode cX9_goThrough 177 = .ok (.if_icmp .ne 46, 3) := by decide +kernel
theorem dX9_goThrough_180 : decode cX9_goThrough 180 = .ok (.iload 4, 2) := by decide +kernel
theorem dX9_goThrough_182 : decode cX9_goThrough 182 = .ok (.iconst 1, 1) := by decide +kernel
theorem dX9_goThrough_183 : decode cX9_goThrough 183 = .ok (.iload 5, 2) := by decide +kernel
theorem dX9_goThrough_185 : decode cX9_goThrough 185 = .ok (.ishl, 1) := by decide +kernel
theorem dX9_goThrough_186 : decode cX9_goThrough 186 = .ok (.iconst (-1), 1) := by decide +kernel
theorem dX9_goThrough_187 : decode cX9_goThrough 187 = .ok (.ixor, 1) := by decide +kernel
theorem dX9_goThrough_188 : decode cX9_goThrough 188 = .ok (.iand, 1) := by decide +kernel
theorem dX9_goThrough_189 : decode cX9_goThrough 189 = .ok (.istore 4, 2) := by decide +kernel
theorem dX9_goThrough_191 : decode cX9_goThrough 191 = .ok (.aload_n 0, 1) := by decide +kernel
theorem dX9_goThrough_192 : decode cX9_goThrough 192 = .ok (.getfield 58, 3) := by decide +kernel
theorem dX9_goThrough_195 : decode cX9_goThrough 195 = .ok (.iload 5, 2) := by decide +kernel
theorem dX9_goThrough_197 : decode cX9_goThrough 197 = .ok (.iconst 1, 1) := by decide +kernel
theorem dX9_goThrough_198 : decode cX9_goThrough 198 = .ok (.iadd, 1) := by decide +kernel
theorem dX9_goThrough_199 : decode cX9_goThrough 199 = .ok (.aload_n 0, 1) := by decide +kernel
theorem dX9_goThrough_200 : decode cX9_goThrough 200 = .ok (.getfield 58, 3) := by decide +kernel
theorem dX9_goThrough_203 : decode cX9_goThrough 203 = .ok (.iload 5, 2) := by decide +kernel
theorem dX9_goThrough_205 : decode cX9_goThrough 205 = .ok (.iaload, 1) := by decide +kernel
theorem dX9_goThrough_206 : decode cX9_goThrough 206 = .ok (.iastore, 1) := by decide +kernel
theorem dX9_goThrough_207 : decode cX9_goThrough 207 = .ok (.iload_n 2, 1) := by decide +kernel
theorem dX9_goThrough_208 : decode cX9_goThrough 208 = .ok (.iload 5, 2) := by decide +kernel
theorem dX9_goThrough_210 : decode cX9_goThrough 210 = .ok (.ishr, 1) := by decide +kernel
theorem dX9_goThrough_211 : decode cX9_goThrough 211 = .ok (.iconst 1, 1) := by decide +kernel
theorem dX9_goThrough_212 : decode cX9_goThrough 212 = .ok (.iand, 1) := by decide +kernel
theorem dX9_goThrough_213 : decode cX9_goThrough 213 = .ok (.ifCond .ne 7, 3) := by decide +kernel
theorem dX9_goThrough_216 : decode cX9_goThrough 216 = .ok (.iconst 1, 1) := by decide +kernel
theorem dX9_goThrough_217 : decode cX9_goThrough 217 = .ok (.goto 4, 3) := by decide +kernel
theorem dX9_goThrough_220 : decode cX9_goThrough 220 = .ok (.iconst 0, 1) := by decide +kernel
theorem dX9_goThrough_221 : decode cX9_goThrough 221 = .ok (.istore 6, 2) := by decide +kernel
theorem dX9_goThrough_223 : decode cX9_goThrough 223 = .ok (.iload 6, 2) := by decide +kernel
theorem dX9_goThrough_225 : decode cX9_goThrough 225 = .ok (.ifCond .eq 17, 3) := by decide +kernel
theorem dX9_goThrough_228 : decode cX9_goThrough 228 = .ok (.iinc 5 1, 3) := by decide +kernel
theorem dX9_goThrough_231 : decode cX9_goThrough 231 = .ok (.aload_n 0, 1) := by decide +kernel
theorem dX9_goThrough_232 : decode cX9_goThrough 232 = .ok (.getfield 55, 3) := by decide +kernel
theorem dX9_goThrough_235 : decode cX9_goThrough 235 = .ok (.iload 5, 2) := by decide +kernel
theorem dX9_goThrough_237 : decode cX9_goThrough 237 = .ok (.iconst 0, 1) := by decide +kernel
theorem dX9_goThrough_238 : decode cX9_goThrough 238 = .ok (.iastore, 1) := by decide +kernel
theorem dX9_goThrough_239 : decode cX9_goThrough 239 = .ok (.goto 17, 3) := by decide +kernel
theorem dX9_goThrough_242 : decode cX9_goThrough 242 = .ok (.aload_n 0, 1) := by decide +kernel
theorem dX9_goThrough_243 : decode cX9_goThrough 243 = .ok (.getfield 55, 3) := by decide +kernel
theorem dX9_goThrough_246 : decode cX9_goThrough 246 = .ok (.iload 5, 2) := by decide +kernel
theorem dX9_goThrough_248 : decode cX9_goThrough 248 = .ok (.iaload, 1) := by decide +kernel
theorem dX9_goThrough_249 : decode cX9_goThrough 249 = .ok (.iconst 1, 1) := by decide +kernel
theorem dX9_goThrough_250 : decode cX9_goThrough 250 = .ok (.if_icmp .le 6, 3) := by decide +kernel
theorem dX9_goThrough_253 : decode cX9_goThrough 253 = .ok (.iinc 5 (-1), 3) := by decide +kernel
theorem dX9_goThrough_256 : decode cX9_goThrough 256 = .ok (.goto (-202), 3) := by decide +kernel
theorem dX9_goThrough_259 : decode cX9_goThrough 259 = .ok (.return_, 1) := by decide +kernel
set_option maxRecDepth 20000 in
theorem ggX9_kept_X9_isLaw : GoodIn wsX9_kept wsX9_isLaw := goodIn_r _ [11, 12, 13, 14, 10, 15] (by decide +kernel) (by decide +kernel)
set_option maxRecDepth 20000 in
theorem gX9_kept_X9_isLaw : GoodIn wsX9_kept (va_wsS RX9 213 yX9_isLaw wsX9_isLaw) := goodIn_app (goodIn_of _ (by decide +kernel)) ggX9_kept_X9_isLaw
set_option maxRecDepth 20000 in
theorem ggX9_kept_X9_in : GoodIn wsX9_kept wsX9_in := goodIn_r _ [15] (by decide +kernel) (by decide +kernel)
set_option maxRecDepth 20000 in
theorem gX9_kept_X9_in : GoodIn wsX9_kept (va_wsS RX9 92 yX9_in wsX9_in) := goodIn_app (goodIn_of _ (by decide +kernel)) ggX9_kept_X9_in
set_option maxRecDepth 20000 in
theorem ggX9_kept_X9_refuse : GoodIn wsX9_kept wsX9_refuse := goodIn_r _ [19, 20, 68, 69, 70, 71, 72, 73, 74, 75, 76, 77, 78, 79, 80, 81, 82, 83, 84, 85, 86, 87, 88, 89, 90, 91, 92, 93, 94, 95, 96, 97, 98, 99, 100, 101, 102, 103, 104, 105, 106, 107, 108, 109, 110, 111, 112, 113, 114, 115, 116, 117, 118] (by decide +kernel) (by decide +kernel)
set_option maxRecDepth 20000 in
theorem gX9_kept_X9_refuse : GoodIn wsX9_kept (wsV RX9 98 RX9 yX9_refuse wsX9_refuse) := goodIn_app (goodIn_of _ (by decide +kernel)) ggX9_kept_X9_refuse
set_option maxRecDepth 20000 in
theorem ggX9_kept_X9_lay : GoodIn wsX9_kept wsX9_lay := goodIn_r _ [24, 25, 1, 26, 27, 28, 29, 30, 31, 32, 10, 33, 34, 35, 36, 37, 38, 39, 40, 41, 42, 43, 13, 14, 15, 44, 45, 46, 47, 48, 49, 68, 69, 70, 71, 72, 73, 74, 75, 76, 77, 78, 79, 80, 81, 82, 83, 84, 85, 86, 87, 88, 89, 90, 91, 92, 93, 94, 95, 96, 97, 98, 99, 100, 101, 102, 103, 104, 105, 106, 107, 108, 109, 110, 111, 112, 113, 114, 115, 116, 117, 118] (by decide +kernel) (by decide +kernel)
set_option maxRecDepth 20000 in
theorem gX9_kept_X9_lay : GoodIn wsX9_kept (wsV RX9 278 RX9 yX9_lay wsX9_lay) := goodIn_app (goodIn_of _ (by decide +kernel)) ggX9_kept_X9_lay
set_option maxRecDepth 20000 in
theorem ggX9_kept_X9_goThrough : GoodIn wsX9_kept wsX9_goThrough := goodIn_r _ [53, 3, 54, 55, 56, 4, 6, 57, 58, 27, 26, 59, 60, 61, 10, 62, 63, 5, 7, 41, 42, 43, 64, 65, 66, 67, 29, 28, 68, 69, 70, 71, 72, 73, 74, 75, 76, 77, 78, 79, 80, 81, 82, 83, 84, 85, 86, 87, 88, 89, 90, 91, 92, 93, 94, 95, 96, 97, 98, 99, 100, 101, 102, 103, 104, 105, 106, 107, 108, 109, 110, 111, 112, 113, 114, 115, 116, 117, 118] (by decide +kernel) (by decide +kernel)
set_option maxRecDepth 20000 in
theorem gX9_kept_X9_goThrough : GoodIn wsX9_kept (wsV RX9 282 RX9 yX9_goThrough wsX9_goThrough) := goodIn_app (goodIn_of _ (by decide +kernel)) ggX9_kept_X9_goThrough
theorem dX9_kept_0 : decode cX9_kept 0 = .ok (.iload_n 1, 1) := by decide +kernel
theorem dX9_kept_1 : decode cX9_kept 1 = .ok (.invokestatic 213, 3) := by decide +kernel
theorem dX9_kept_4 : decode cX9_kept 4 = .ok (.ifCond .eq 33, 3) := by decide +kernel
theorem dX9_kept_7 : decode cX9_kept 7 = .ok (.iload_n 2, 1) := by decide +kernel
theorem dX9_kept_8 : decode cX9_kept 8 = .ok (.i2l, 1) := by decide +kernel
theorem dX9_kept_9 : decode cX9_kept 9 = .ok (.lconst 0, 1) := by decide +kernel
theorem dX9_kept_10 : decode cX9_kept 10 = .ok (.iconst 1, 1) := by decide +kernel
theorem dX9_kept_11 : decode cX9_kept 11 = .ok (.aload_n 0, 1) := by decide +kernel
theorem dX9_kept_12 : decode cX9_kept 12 = .ok (.getfield 102, 3) := by decide +kernel
theorem dX9_kept_15 : decode cX9_kept 15 = .ok (.ishl, 1) := by decide +kernel
theorem dX9_kept_16 : decode cX9_kept 16 = .ok (.iconst 1, 1) := by decide +kernel
theorem dX9_kept_17 : decode cX9_kept 17 = .ok (.isub, 1) := by decide +kernel
theorem dX9_kept_18 : decode cX9_kept 18 = .ok (.i2l, 1) := by decide +kernel
theorem dX9_kept_19 : decode cX9_kept 19 = .ok (.invokestatic 92, 3) := by decide +kernel
theorem dX9_kept_22 : decode cX9_kept 22 = .ok (.ifCond .eq 15, 3) := by decide +kernel
theorem dX9_kept_25 : decode cX9_kept 25 = .ok (.iload_n 3, 1) := by decide +kernel
theorem dX9_kept_26 : decode cX9_kept 26 = .ok (.i2l, 1) := by decide +kernel
theorem dX9_kept_27 : decode cX9_kept 27 = .ok (.lconst 0, 1) := by decide +kernel
theorem dX9_kept_28 : decode cX9_kept 28 = .ok (.ldc2_w 276, 3) := by decide +kernel
theorem dX9_kept_31 : decode cX9_kept 31 = .ok (.invokestatic 92, 3) := by decide +kernel
theorem dX9_kept_34 : decode cX9_kept 34 = .ok (.ifCond .ne 10, 3) := by decide +kernel
theorem dX9_kept_37 : decode cX9_kept 37 = .ok (.aload_n 0, 1) := by decide +kernel
theorem dX9_kept_38 : decode cX9_kept 38 = .ok (.bipush (-2), 2) := by decide +kernel
theorem dX9_kept_40 : decode cX9_kept 40 = .ok (.invokevirtual 98, 3) := by decide +kernel
theorem dX9_kept_43 : decode cX9_kept 43 = .ok (.ireturn, 1) := by decide +kernel
theorem dX9_kept_44 : decode cX9_kept 44 = .ok (.aload_n 0, 1) := by decide +kernel
theorem dX9_kept_45 : decode cX9_kept 45 = .ok (.iload_n 1, 1) := by decide +kernel
theorem dX9_kept_46 : decode cX9_kept 46 = .ok (.iconst 0, 1) := by decide +kernel
theorem dX9_kept_47 : decode cX9_kept 47 = .ok (.iconst 1, 1) := by decide +kernel
theorem dX9_kept_48 : decode cX9_kept 48 = .ok (.invokevirtual 278, 3) := by decide +kernel
theorem dX9_kept_51 : decode cX9_kept 51 = .ok (.aload_n 0, 1) := by decide +kernel
theorem dX9_kept_52 : decode cX9_kept 52 = .ok (.iload_n 1, 1) := by decide +kernel
theorem dX9_kept_53 : decode cX9_kept 53 = .ok (.iload_n 2, 1) := by decide +kernel
theorem dX9_kept_54 : decode cX9_kept 54 = .ok (.iconst 0, 1) := by decide +kernel
theorem dX9_kept_55 : decode cX9_kept 55 = .ok (.invokevirtual 282, 3) := by decide +kernel
theorem dX9_kept_58 : decode cX9_kept 58 = .ok (.aload_n 0, 1) := by decide +kernel
theorem dX9_kept_59 : decode cX9_kept 59 = .ok (.getfield 244, 3) := by decide +kernel
theorem dX9_kept_62 : decode cX9_kept 62 = .ok (.ifCond .ne 5, 3) := by decide +kernel
theorem dX9_kept_65 : decode cX9_kept 65 = .ok (.iconst (-1), 1) := by decide +kernel
theorem dX9_kept_66 : decode cX9_kept 66 = .ok (.ireturn, 1) := by decide +kernel
theorem dX9_kept_67 : decode cX9_kept 67 = .ok (.iload_n 3, 1) := by decide +kernel
theorem dX9_kept_68 : decode cX9_kept 68 = .ok (.ifCond .ne 10, 3) := by decide +kernel
theorem dX9_kept_71 : decode cX9_kept 71 = .ok (.aload_n 0, 1) := by decide +kernel
theorem dX9_kept_72 : decode cX9_kept 72 = .ok (.getfield 256, 3) := by decide +kernel
theorem dX9_kept_75 : decode cX9_kept 75 = .ok (.goto 31, 3) := by decide +kernel
theorem dX9_kept_78 : decode cX9_kept 78 = .ok (.iload_n 3, 1) := by decide +kernel
theorem dX9_kept_79 : decode cX9_kept 79 = .ok (.iconst 1, 1) := by decide +kernel
theorem dX9_kept_80 : decode cX9_kept 80 = .ok (.if_icmp .ne 10, 3) := by decide +kernel
theorem dX9_kept_83 : decode cX9_kept 83 = .ok (.aload_n 0, 1) := by decide +kernel
theorem dX9_kept_84 : decode cX9_kept 84 = .ok (.getfield 259, 3) := by decide +kernel
theorem dX9_kept_87 : decode cX9_kept 87 = .ok (.goto 19, 3) := by decide +kernel
theorem dX9_kept_90 : decode cX9_kept 90 = .ok (.iload_n 3, 1) := by decide +kernel
theorem dX9_kept_91 : decode cX9_kept 91 = .ok (.iconst 2, 1) := by decide +kernel
theorem dX9_kept_92 : decode cX9_kept 92 = .ok (.if_icmp .ne 10, 3) := by decide +kernel
theorem dX9_kept_95 : decode cX9_kept 95 = .ok (.aload_n 0, 1) := by decide +kernel
theorem dX9_kept_96 : decode cX9_kept 96 = .ok (.getfield 262, 3) := by decide +kernel
theorem dX9_kept_99 : decode cX9_kept 99 = .ok (.goto 7, 3) := by decide +kernel
theorem dX9_kept_102 : decode cX9_kept 102 = .ok (.aload_n 0, 1) := by decide +kernel
theorem dX9_kept_103 : decode cX9_kept 103 = .ok (.getfield 265, 3) := by decide +kernel
theorem dX9_kept_106 : decode cX9_kept 106 = .ok (.ireturn, 1) := by decide +kernel
set_option maxRecDepth 20000 in
theorem ggX9_rows_X9_in : GoodIn wsX9_rows wsX9_in := goodIn_r _ [8] (by decide +kernel) (by decide +kernel)
set_option maxRecDepth 20000 in
theorem gX9_rows_X9_in : GoodIn wsX9_rows (va_wsS RX9 92 yX9_in wsX9_in) := goodIn_app (goodIn_of _ (by decide +kernel)) ggX9_rows_X9_in
set_option maxRecDepth 20000 in
theorem ggX9_rows_X9_refuse : GoodIn wsX9_rows wsX9_refuse := goodIn_r _ [12, 13, 63, 64, 65, 66, 67, 68, 69, 70, 71, 72, 73, 74, 75, 76, 77, 78, 79, 80, 81, 82, 83, 84, 85, 86, 87, 88, 89, 90, 91, 92, 93, 94, 95, 96, 97, 98, 99, 100, 101, 102, 103, 104, 105, 106, 107, 108, 109, 110, 111, 112, 113] (by decide +kernel) (by decide +kernel)
set_option maxRecDepth 20000 in
theorem gX9_rows_X9_refuse : GoodIn wsX9_rows (wsV RX9 98 RX9 yX9_refuse wsX9_refuse) := goodIn_app (goodIn_of _ (by decide +kernel)) ggX9_rows_X9_refuse
set_option maxRecDepth 20000 in
theorem ggX9_rows_X9_lay : GoodIn wsX9_rows wsX9_lay := goodIn_r _ [17, 18, 2, 19, 20, 21, 22, 23, 24, 25, 7, 26, 3, 27, 28, 29, 30, 31, 32, 33, 34, 35, 5, 6, 8, 36, 37, 38, 39, 40, 41, 63, 64, 65, 66, 67, 68, 69, 70, 71, 72, 73, 74, 75, 76, 77, 78, 79, 80, 81, 82, 83, 84, 85, 86, 87, 88, 89, 90, 91, 92, 93, 94, 95, 96, 97, 98, 99, 100, 101, 102, 103, 104, 105, 106, 107, 108, 109, 110, 111, 112, 113] (by decide +kernel) (by decide +kernel)
set_option maxRecDepth 20000 in
theorem gX9_rows_X9_lay : GoodIn wsX9_rows (wsV RX9 278 RX9 yX9_lay wsX9_lay) := goodIn_app (goodIn_of _ (by decide +kernel)) ggX9_rows_X9_lay
set_option maxRecDepth 20000 in
theorem ggX9_rows_X9_goThrough : GoodIn wsX9_rows wsX9_goThrough := goodIn_r _ [45, 46, 47, 48, 49, 1, 50, 4, 51, 20, 19, 52, 53, 54, 7, 55, 56, 57, 58, 33, 34, 35, 59, 60, 61, 62, 22, 21, 63, 64, 65, 66, 67, 68, 69, 70, 71, 72, 73, 74, 75, 76, 77, 78, 79, 80, 81, 82, 83, 84, 85, 86, 87, 88, 89, 90, 91, 92, 93, 94, 95, 96, 97, 98, 99, 100, 101, 102, 103, 104, 105, 106, 107, 108, 109, 110, 111, 112, 113] (by decide +kernel) (by decide +kernel)
set_option maxRecDepth 20000 in
theorem gX9_rows_X9_goThrough : GoodIn wsX9_rows (wsV RX9 282 RX9 yX9_goThrough wsX9_goThrough) := goodIn_app (goodIn_of _ (by decide +kernel)) ggX9_rows_X9_goThrough
set_option maxRecDepth 20000 in
theorem ggX9_rows_X9_many : GoodIn wsX9_rows wsX9_many := goodIn_r _ [35] (by decide +kernel) (by decide +kernel)
set_option maxRecDepth 20000 in
theorem gX9_rows_X9_many : GoodIn wsX9_rows (va_wsS RX9 194 yX9_many wsX9_many) := goodIn_app (goodIn_of _ (by decide +kernel)) ggX9_rows_X9_many
set_option maxRecDepth 20000 in
theorem ggX9_rows_X9_areNested : GoodIn wsX9_rows wsX9_areNested := goodIn_r _ [38] (by decide +kernel) (by decide +kernel)
set_option maxRecDepth 20000 in
theorem gX9_rows_X9_areNested : GoodIn wsX9_rows (va_wsS RX9 197 yX9_areNested wsX9_areNested) := goodIn_app (goodIn_of _ (by decide +kernel)) ggX9_rows_X9_areNested
theorem dX9_rows_0 : decode cX9_rows 0 = .ok (.iload_n 1, 1) := by decide +kernel
theorem dX9_rows_1 : decode cX9_rows 1 = .ok (.i2l, 1) := by decide +kernel
theorem dX9_rows_2 : decode cX9_rows 2 = .ok (.lconst 0, 1) := by decide +kernel
theorem dX9_rows_3 : decode cX9_rows 3 = .ok (.lconst 1, 1) := by decide +kernel
theorem dX9_rows_4 : decode cX9_rows 4 = .ok (.invokestatic 92, 3) := by decide +kernel
theorem dX9_rows_7 : decode cX9_rows 7 = .ok (.ifCond .ne 10, 3) := by decide +kernel
theorem dX9_rows_10 : decode cX9_rows 10 = .ok (.aload_n 0, 1) := by decide +kernel
theorem dX9_rows_11 : decode cX9_rows 11 = .ok (.bipush (-2), 2) := by decide +kernel
theorem dX9_rows_13 : decode cX9_rows 13 = .ok (.invokevirtual 98, 3) := by decide +kernel
theorem dX9_rows_16 : decode cX9_rows 16 = .ok (.ireturn, 1) := by decide +kernel
theorem dX9_rows_17 : decode cX9_rows 17 = .ok (.iload_n 1, 1) := by decide +kernel
theorem dX9_rows_18 : decode cX9_rows 18 = .ok (.ifCond .ne 22, 3) := by decide +kernel
theorem dX9_rows_21 : decode cX9_rows 21 = .ok (.aload_n 0, 1) := by decide +kernel
theorem dX9_rows_22 : decode cX9_rows 22 = .ok (.iconst 1, 1) := by decide +kernel
theorem dX9_rows_23 : decode cX9_rows 23 = .ok (.iconst 0, 1) := by decide +kernel
theorem dX9_rows_24 : decode cX9_rows 24 = .ok (.iconst 0, 1) := by decide +kernel
theorem dX9_rows_25 : decode cX9_rows 25 = .ok (.invokevirtual 278, 3) := by decide +kernel
theorem dX9_rows_28 : decode cX9_rows 28 = .ok (.aload_n 0, 1) := by decide +kernel
theorem dX9_rows_29 : decode cX9_rows 29 = .ok (.iconst 1, 1) := by decide +kernel
theorem dX9_rows_30 : decode cX9_rows 30 = .ok (.iconst 0, 1) := by decide +kernel
theorem dX9_rows_31 : decode cX9_rows 31 = .ok (.iconst 0, 1) := by decide +kernel
theorem dX9_rows_32 : decode cX9_rows 32 = .ok (.invokevirtual 282, 3) := by decide +kernel
theorem dX9_rows_35 : decode cX9_rows 35 = .ok (.aload_n 0, 1) := by decide +kernel
theorem dX9_rows_36 : decode cX9_rows 36 = .ok (.getfield 256, 3) := by decide +kernel
theorem dX9_rows_39 : decode cX9_rows 39 = .ok (.ireturn, 1) := by decide +kernel
theorem dX9_rows_40 : decode cX9_rows 40 = .ok (.iconst 0, 1) := by decide +kernel
theorem dX9_rows_41 : decode cX9_rows 41 = .ok (.istore_n 2, 1) := by decide +kernel
theorem dX9_rows_42 : decode cX9_rows 42 = .ok (.iconst 0, 1) := by decide +kernel
theorem dX9_rows_43 : decode cX9_rows 43 = .ok (.istore_n 3, 1) := by decide +kernel
theorem dX9_rows_44 : decode cX9_rows 44 = .ok (.iload_n 3, 1) := by decide +kernel
theorem dX9_rows_45 : decode cX9_rows 45 = .ok (.bipush 8, 2) := by decide +kernel
theorem dX9_rows_47 : decode cX9_rows 47 = .ok (.if_icmp .gt 160, 3) := by decide +kernel
theorem dX9_rows_50 : decode cX9_rows 50 = .ok (.iconst 0, 1) := by decide +kernel
theorem dX9_rows_51 : decode cX9_rows 51 = .ok (.istore 4, 2) := by decide +kernel
theorem dX9_rows_53 : decode cX9_rows 53 = .ok (.iload 4, 2) := by decide +kernel
theorem dX9_rows_55 : decode cX9_rows 55 = .ok (.aload_n 0, 1) := by decide +kernel
theorem dX9_rows_56 : decode cX9_rows 56 = .ok (.getfield 102, 3) := by decide +kernel
theorem dX9_rows_59 : decode cX9_rows 59 = .ok (.if_icmp .ge 142, 3) := by decide +kernel
theorem dX9_rows_62 : decode cX9_rows 62 = .ok (.aload_n 0, 1) := by decide +kernel
theorem dX9_rows_63 : decode cX9_rows 63 = .ok (.getfield 16, 3) := by decide +kernel
theorem dX9_rows_66 : decode cX9_rows 66 = .ok (.iload 4, 2) := by decide +kernel
theorem dX9_rows_68 : decode cX9_rows 68 = .ok (.iaload, 1) := by decide +kernel
theorem dX9_rows_69 : decode cX9_rows 69 = .ok (.invokestatic 194, 3) := by decide +kernel
theorem dX9_rows_72 : decode cX9_rows 72 = .ok (.iload_n 3, 1) := by decide +kernel
theorem dX9_rows_73 : decode cX9_rows 73 = .ok (.if_icmp .eq 6, 3) := by decide +kernel
theorem dX9_rows_76 : decode cX9_rows 76 = .ok (.goto 119, 3) := by decide +kernel
theorem dX9_rows_79 : decode cX9_rows 79 = .ok (.aload_n 0, 1) := by decide +kernel
theorem dX9_rows_80 : decode cX9_rows 80 = .ok (.getfield 55, 3) := by decide +kernel
theorem dX9_rows_83 : decode cX9_rows 83 = .ok (.iload 4, 2) := by decide +kernel
theorem dX9_rows_85 : decode cX9_rows 85 = .ok (.iconst 1, 1) := by decide +kernel
theorem dX9_rows_86 : decode cX9_rows 86 = .ok (.iastore, 1) := by decide +kernel
theorem dX9_rows_87 : decode cX9_rows 87 = .ok (.iconst 0, 1) := by decide +kernel
theorem dX9_rows_88 : decode cX9_rows 88 = .ok (.istore 5, 2) := by decide +kernel
theorem dX9_rows_90 : decode cX9_rows 90 = .ok (.iload 5, 2) := by decide +kernel
theorem dX9_rows_92 : decode cX9_rows 92 = .ok (.aload_n 0, 1) := by decide +kernel
theorem dX9_rows_93 : decode cX9_rows 93 = .ok (.getfield 102, 3) := by decide +kernel
theorem dX9_rows_96 : decode cX9_rows 96 = .ok (.if_icmp .ge 76, 3) := by decide +kernel
theorem dX9_rows_99 : decode cX9_rows 99 = .ok (.aload_n 0, 1) := by decide +kernel
theorem dX9_rows_100 : decode cX9_rows 100 = .ok (.getfield 16, 3) := by decide +kernel
theorem dX9_rows_103 : decode cX9_rows 103 = .ok (.iload 5, 2) := by decide +kernel
theorem dX9_rows_105 : decode cX9_rows 105 = .ok (.iaload, 1) := by decide +kernel
theorem dX9_rows_106 : decode cX9_rows 106 = .ok (.invokestatic 194, 3) := by decide +kernel
theorem dX9_rows_109 : decode cX9_rows 109 = .ok (.iload_n 3, 1) := by decide +kernel
theorem dX9_rows_110 : decode cX9_rows 110 = .ok (.if_icmp .ge 56, 3) := by decide +kernel
theorem dX9_rows_113 : decode cX9_rows 113 = .ok (.aload_n 0, 1) := by decide +kernel
theorem dX9_rows_114 : decode cX9_rows 114 = .ok (.getfield 16, 3) := by decide +kernel
theorem dX9_rows_117 : decode cX9_rows 117 = .ok (.iload 4, 2) := by decide +kernel
theorem dX9_rows_119 : decode cX9_rows 119 = .ok (.iaload, 1) := by decide +kernel
theorem dX9_rows_120 : decode cX9_rows 120 = .ok (.aload_n 0, 1) := by decide +kernel
theorem dX9_rows_121 : decode cX9_rows 121 = .ok (.getfield 16, 3) := by decide +kernel
theorem dX9_rows_124 : decode cX9_rows 124 = .ok (.iload 5, 2) := by decide +kernel
theorem dX9_rows_126 : decode cX9_rows 126 = .ok (.iaload, 1) := by decide +kernel
theorem dX9_rows_127 : decode cX9_rows 127 = .ok (.invokestatic 197, 3) := by decide +kernel
theorem dX9_rows_130 : decode cX9_rows 130 = .ok (.ifCond .eq 36, 3) := by decide +kernel
theorem dX9_rows_133 : decode cX9_rows 133 = .ok (.aload_n 0, 1) := by decide +kernel
theorem dX9_rows_134 : decode cX9_rows 134 = .ok (.getfield 55, 3) := by decide +kernel
theorem dX9_rows_137 : decode cX9_rows 137 = .ok (.iload 5, 2) := by decide +kernel
theorem dX9_rows_139 : decode cX9_rows 139 = .ok (.iaload, 1) := by decide +kernel
theorem dX9_rows_140 : decode cX9_rows 140 = .ok (.aload_n 0, 1) := by decide +kernel
theorem dX9_rows_141 : decode cX9_rows 141 = .ok (.getfield 55, 3) := by decide +kernel
theorem dX9_rows_144 : decode cX9_rows 144 = .ok (.iload 4, 2) := by decide +kernel
theorem dX9_rows_146 : decode cX9_rows 146 = .ok (.iaload, 1) := by decide +kernel
theorem dX9_rows_147 : decode cX9_rows 147 = .ok (.if_icmp .lt 19, 3) := by decide +kernel
theorem dX9_rows_150 : decode cX9_rows 150 = .ok (.aload_n 0, 1) := by decide +kernel
theorem dX9_rows_151 : decode cX9_rows 151 = .ok (.getfield 55, 3) := by decide +kernel
theorem dX9_rows_154 : decode cX9_rows 154 = .ok (.iload 4, 2) := by decide +kernel
theorem dX9_rows_156 : decode cX9_rows 156 = .ok (.aload_n 0, 1) := by decide +kernel
theorem dX9_rows_157 : decode cX9_rows 157 = .ok (.getfield 55, 3) := by decide +kernel
theorem dX9_rows_160 : decode cX9_rows 160 = .ok (.iload 5, 2) := by decide +kernel
theorem dX9_rows_162 : decode cX9_rows 162 = .ok (.iaload, 1) := by decide +kernel
theorem dX9_rows_163 : decode cX9_rows 163 = .ok (.iconst 1, 1) := by decide +kernel
theorem dX9_rows_164 : decode cX9_rows 164 = .ok (.iadd, 1) := by decide +kernel
theorem dX9_rows_165 : decode cX9_rows 165 = .ok (.iastore, 1) := by decide +kernel
theorem dX9_rows_166 : decode cX9_rows 166 = .ok (.iinc 5 1, 3) := by decide +kernel
theorem dX9_rows_169 : decode cX9_rows 169 = .ok (.goto (-79), 3) := by decide +kernel
theorem dX9_rows_172 : decode cX9_rows 172 = .ok (.aload_n 0, 1) := by decide +kernel
theorem dX9_rows_173 : decode cX9_rows 173 = .ok (.getfield 55, 3) := by decide +kernel
theorem dX9_rows_176 : decode cX9_rows 176 = .ok (.iload 4, 2) := by decide +kernel
theorem dX9_rows_178 : decode cX9_rows 178 = .ok (.iaload, 1) := by decide +kernel
theorem dX9_rows_179 : decode cX9_rows 179 = .ok (.iload_n 2, 1) := by decide +kernel
theorem dX9_rows_180 : decode cX9_rows 180 = .ok (.if_icmp .le 13, 3) := by decide +kernel
theorem dX9_rows_183 : decode cX9_rows 183 = .ok (.aload_n 0, 1) := by decide +kernel
theorem dX9_rows_184 : decode cX9_rows 184 = .ok (.getfield 55, 3) := by decide +kernel
theorem dX9_rows_187 : decode cX9_rows 187 = .ok (.iload 4, 2) := by decide +kernel
theorem dX9_rows_189 : decode cX9_rows 189 = .ok (.iaload, 1) := by decide +kernel
theorem dX9_rows_190 : decode cX9_rows 190 = .ok (.goto 4, 3) := by decide +kernel
theorem dX9_rows_193 : decode cX9_rows 193 = .ok (.iload_n 2, 1) := by decide +kernel
theorem dX9_rows_194 : decode cX9_rows 194 = .ok (.istore_n 2, 1) := by decide +kernel
theorem dX9_rows_195 : decode cX9_rows 195 = .ok (.iinc 4 1, 3) := by decide +kernel
theorem dX9_rows_198 : decode cX9_rows 198 = .ok (.goto (-145), 3) := by decide +kernel
theorem dX9_rows_201 : decode cX9_rows 201 = .ok (.iinc 3 1, 3) := by decide +kernel
theorem dX9_rows_204 : decode cX9_rows 204 = .ok (.goto (-160), 3) := by decide +kernel
theorem dX9_rows_207 : decode cX9_rows 207 = .ok (.iload_n 2, 1) := by decide +kernel
theorem dX9_rows_208 : decode cX9_rows 208 = .ok (.ireturn, 1) := by decide +kernel
theorem dX9_covers_0 : decode cX9_covers 0 = .ok (.iconst 0, 1) := by decide +kernel
theorem dX9_covers_1 : decode cX9_covers 1 = .ok (.istore_n 1, 1) := by decide +kernel
theorem dX9_covers_2 : decode cX9_covers 2 = .ok (.iload_n 1, 1) := by decide +kernel
theorem dX9_covers_3 : decode cX9_covers 3 = .ok (.sipush 256, 3) := by decide +kernel
theorem dX9_covers_6 : decode cX9_covers 6 = .ok (.if_icmp .ge 31, 3) := by decide +kernel
theorem dX9_covers_9 : decode cX9_covers 9 = .ok (.aload_n 0, 1) := by decide +kernel
theorem dX9_covers_10 : decode cX9_covers 10 = .ok (.getfield 61, 3) := by decide +kernel
theorem dX9_covers_13 : decode cX9_covers 13 = .ok (.iload_n 1, 1) := by decide +kernel
theorem dX9_covers_14 : decode cX9_covers 14 = .ok (.iload_n 1, 1) := by decide +kernel
theorem dX9_covers_15 : decode cX9_covers 15 = .ok (.ifCond .ne 7, 3) := by decide +kernel
theorem dX9_covers_18 : decode cX9_covers 18 = .ok (.iconst 0, 1) := by decide +kernel
theorem dX9_covers_19 : decode cX9_covers 19 = .ok (.goto 4, 3) := by decide +kernel
theorem dX9_covers_22 : decode cX9_covers 22 = .ok (.iconst (-1), 1) := by decide +kernel
theorem dX9_covers_23 : decode cX9_covers 23 = .ok (.iastore, 1) := by decide +kernel
theorem dX9_covers_24 : decode cX9_covers 24 = .ok (.aload_n 0, 1) := by decide +kernel
theorem dX9_covers_25 : decode cX9_covers 25 = .ok (.getfield 64, 3) := by decide +kernel
theorem dX9_covers_28 : decode cX9_covers 28 = .ok (.iload_n 1, 1) := by decide +kernel
theorem dX9_covers_29 : decode cX9_covers 29 = .ok (.iconst 0, 1) := by decide +kernel
theorem dX9_covers_30 : decode cX9_covers 30 = .ok (.iastore, 1) := by decide +kernel
theorem dX9_covers_31 : decode cX9_covers 31 = .ok (.iinc 1 1, 3) := by decide +kernel
theorem dX9_covers_34 : decode cX9_covers 34 = .ok (.goto (-32), 3) := by decide +kernel
theorem dX9_covers_37 : decode cX9_covers 37 = .ok (.iconst 0, 1) := by decide +kernel
theorem dX9_covers_38 : decode cX9_covers 38 = .ok (.istore_n 1, 1) := by decide +kernel
theorem dX9_covers_39 : decode cX9_covers 39 = .ok (.iload_n 1, 1) := by decide +kernel
theorem dX9_covers_40 : decode cX9_covers 40 = .ok (.aload_n 0, 1) := by decide +kernel
theorem dX9_covers_41 : decode cX9_covers 41 = .ok (.getfield 102, 3) := by decide +kernel
theorem dX9_covers_44 : decode cX9_covers 44 = .ok (.if_icmp .ge 123, 3) := by decide +kernel
theorem dX9_covers_47 : decode cX9_covers 47 = .ok (.sipush 255, 3) := by decide +kernel
theorem dX9_covers_50 : decode cX9_covers 50 = .ok (.istore_n 2, 1) := by decide +kernel
theorem dX9_covers_51 : decode cX9_covers 51 = .ok (.iload_n 2, 1) := by decide +kernel
theorem dX9_covers_52 : decode cX9_covers 52 = .ok (.ifCond .lt 109, 3) := by decide +kernel
theorem dX9_covers_55 : decode cX9_covers 55 = .ok (.iload_n 2, 1) := by decide +kernel
theorem dX9_covers_56 : decode cX9_covers 56 = .ok (.aload_n 0, 1) := by decide +kernel
theorem dX9_covers_57 : decode cX9_covers 57 = .ok (.getfield 16, 3) := by decide +kernel
theorem dX9_covers_60 : decode cX9_covers 60 = .ok (.iload_n 1, 1) := by decide +kernel
theorem dX9_covers_61 : decode cX9_covers 61 = .ok (.iaload, 1) := by decide +kernel
theorem dX9_covers_62 : decode cX9_covers 62 = .ok (.ior, 1) := by decide +kernel
theorem dX9_covers_63 : decode cX9_covers 63 = .ok (.istore_n 3, 1) := by decide +kernel
theorem dX9_covers_64 : decode cX9_covers 64 = .ok (.aload_n 0, 1) := by decide +kernel
theorem dX9_covers_65 : decode cX9_covers 65 = .ok (.getfield 61, 3) := by decide +kernel
theorem dX9_covers_68 : decode cX9_covers 68 = .ok (.iload_n 2, 1) := by decide +kernel
theorem dX9_covers_69 : decode cX9_covers 69 = .ok (.iaload, 1) := by decide +kernel
theorem dX9_covers_70 : decode cX9_covers 70 = .ok (.iconst 1, 1) := by decide +kernel
theorem dX9_covers_71 : decode cX9_covers 71 = .ok (.iadd, 1) := by decide +kernel
theorem dX9_covers_72 : decode cX9_covers 72 = .ok (.istore 4, 2) := by decide +kernel
theorem dX9_covers_74 : decode cX9_covers 74 = .ok (.aload_n 0, 1) := by decide +kernel
theorem dX9_covers_75 : decode cX9_covers 75 = .ok (.getfield 64, 3) := by decide +kernel
theorem dX9_covers_78 : decode cX9_covers 78 = .ok (.iload_n 2, 1) := by decide +kernel
theorem dX9_covers_79 : decode cX9_covers 79 = .ok (.iaload, 1) := by decide +kernel
theorem dX9_covers_80 : decode cX9_covers 80 = .ok (.iconst 1, 1) := by decide +kernel
theorem dX9_covers_81 : decode cX9_covers 81 = .ok (.iload_n 1, 1) := by decide +kernel
theorem dX9_covers_82 : decode cX9_covers 82 = .ok (.ishl, 1) := by decide +kernel
theorem dX9_covers_83 : decode cX9_covers 83 = .ok (.ior, 1) := by decide +kernel
theorem dX9_covers_84 : decode cX9_covers 84 = .ok (.istore 5, 2) := by decide +kernel
theorem dX9_covers_86 : decode cX9_covers 86 = .ok (.aload_n 0, 1) := by decide +kernel
theorem dX9_covers_87 : decode cX9_covers 87 = .ok (.getfield 61, 3) := by decide +kernel
theorem dX9_covers_90 : decode cX9_covers 90 = .ok (.iload_n 2, 1) := by decide +kernel
theorem dX9_covers_91 : decode cX9_covers 91 = .ok (.iaload, 1) := by decide +kernel
theorem dX9_covers_92 : decode cX9_covers 92 = .ok (.iconst (-1), 1) := by decide +kernel
theorem dX9_covers_93 : decode cX9_covers 93 = .ok (.if_icmp .eq 62, 3) := by decide +kernel
theorem dX9_covers_96 : decode cX9_covers 96 = .ok (.aload_n 0, 1) := by decide +kernel
theorem dX9_covers_97 : decode cX9_covers 97 = .ok (.getfield 61, 3) := by decide +kernel
theorem dX9_covers_100 : decode cX9_covers 100 = .ok (.iload_n 3, 1) := by decide +kernel
theorem dX9_covers_101 : decode cX9_covers 101 = .ok (.iaload, 1) := by decide +kernel
theorem dX9_covers_102 : decode cX9_covers 102 = .ok (.iconst (-1), 1) := by decide +kernel
theorem dX9_covers_103 : decode cX9_covers 103 = .ok (.if_icmp .eq 36, 3) := by decide +kernel
theorem dX9_covers_106 : decode cX9_covers 106 = .ok (.iload 4, 2) := by decide +kernel
theorem dX9_covers_108 : decode cX9_covers 108 = .ok (.aload_n 0, 1) := by decide +kernel
theorem dX9_covers_109 : decode cX9_covers 109 = .ok (.getfield 61, 3) := by decide +kernel
theorem dX9_covers_112 : decode cX9_covers 112 = .ok (.iload_n 3, 1) := by decide +kernel
theorem dX9_covers_113 : decode cX9_covers 113 = .ok (.iaload, 1) := by decide +kernel
theorem dX9_covers_114 : decode cX9_covers 114 = .ok (.if_icmp .lt 25, 3) := by decide +kernel
theorem dX9_covers_117 : decode cX9_covers 117 = .ok (.iload 4, 2) := by decide +kernel
theorem dX9_covers_119 : decode cX9_covers 119 = .ok (.aload_n 0, 1) := by decide +kernel
theorem dX9_covers_120 : decode cX9_covers 120 = .ok (.getfield 61, 3) := by decide +kernel
theorem dX9_covers_123 : decode cX9_covers 123 = .ok (.iload_n 3, 1) := by decide +kernel
theorem dX9_covers_124 : decode cX9_covers 124 = .ok (.iaload, 1) := by decide +kernel
theorem dX9_covers_125 : decode cX9_covers 125 = .ok (.if_icmp .ne 30, 3) := by decide +kernel
theorem dX9_covers_128 : decode cX9_covers 128 = .ok (.iload 5, 2) := by decide +kernel
theorem dX9_covers_130 : decode cX9_covers 130 = .ok (.aload_n 0, 1) := by decide +kernel
theorem dX9_covers_131 : decode cX9_covers 131 = .ok (.getfield 64, 3) := by decide +kernel
theorem dX9_covers_134 : decode cX9_covers 134 = .ok (.iload_n 3, 1) := by decide +kernel
theorem dX9_covers_135 : decode cX9_covers 135 = .ok (.iaload, 1) := by decide +kernel
theorem dX9_covers_136 : decode cX9_covers 136 = .ok (.if_icmp .ge 19, 3) := by decide +kernel
theorem dX9_covers_139 : decode cX9_covers 139 = .ok (.aload_n 0, 1) := by decide +kernel
theorem dX9_covers_140 : decode cX9_covers 140 = .ok (.getfield 61, 3) := by decide +kernel
theorem dX9_covers_143 : decode cX9_covers 143 = .ok (.iload_n 3, 1) := by decide +kernel
theorem dX9_covers_144 : decode cX9_covers 144 = .ok (.iload 4, 2) := by decide +kernel
theorem dX9_covers_146 : decode cX9_covers 146 = .ok (.iastore, 1) := by decide +kernel
theorem dX9_covers_147 : decode cX9_covers 147 = .ok (.aload_n 0, 1) := by decide +kernel
theorem dX9_covers_148 : decode cX9_covers 148 = .ok (.getfield 64, 3) := by decide +kernel
theorem dX9_covers_151 : decode cX9_covers 151 = .ok (.iload_n 3, 1) := by decide +kernel
theorem dX9_covers_152 : decode cX9_covers 152 = .ok (.iload 5, 2) := by decide +kernel
theorem dX9_covers_154 : decode cX9_covers 154 = .ok (.iastore, 1) := by decide +kernel
theorem dX9_covers_155 : decode cX9_covers 155 = .ok (.iinc 2 (-1), 3) := by decide +kernel
theorem dX9_covers_158 : decode cX9_covers 158 = .ok (.goto (-107), 3) := by decide +kernel
theorem dX9_covers_161 : decode cX9_covers 161 = .ok (.iinc 1 1, 3) := by decide +kernel
theorem dX9_covers_164 : decode cX9_covers 164 = .ok (.goto (-125), 3) := by decide +kernel
theorem dX9_covers_167 : decode cX9_covers 167 = .ok (.return_, 1) := by decide +kernel
set_option maxRecDepth 20000 in
theorem ggX9_opens_X9_isBox : GoodIn wsX9_opens wsX9_isBox := goodIn_r _ [7, 8, 9, 10, 6, 11, 23, 24, 25, 26, 27, 28, 29, 30, 31, 32, 33, 34, 35, 36, 37, 38, 39, 40, 41, 42, 43, 44, 45, 46, 47, 48, 49, 50, 51, 52, 53, 54, 55, 56, 57, 58, 59, 60, 61, 62, 63, 64, 65, 66, 67, 68, 69, 70, 71, 72, 73] (by decide +kernel) (by decide +kernel)
set_option maxRecDepth 20000 in
theorem gX9_opens_X9_isBox : GoodIn wsX9_opens (wsV RX9 108 RX9 yX9_isBox wsX9_isBox) := goodIn_app (goodIn_of _ (by decide +kernel)) ggX9_opens_X9_isBox
set_option maxRecDepth 20000 in
theorem ggX9_opens_X9_in : GoodIn wsX9_opens wsX9_in := goodIn_r _ [11] (by decide +kernel) (by decide +kernel)
set_option maxRecDepth 20000 in
theorem gX9_opens_X9_in : GoodIn wsX9_opens (va_wsS RX9 92 yX9_in wsX9_in) := goodIn_app (goodIn_of _ (by decide +kernel)) ggX9_opens_X9_in
set_option maxRecDepth 20000 in
theorem ggX9_opens_X9_refuse : GoodIn wsX9_opens wsX9_refuse := goodIn_r _ [15, 16, 23, 24, 25, 26, 27, 28, 29, 30, 31, 32, 33, 34, 35, 36, 37, 38, 39, 40, 41, 42, 43, 44, 45, 46, 47, 48, 49, 50, 51, 52, 53, 54, 55, 56, 57, 58, 59, 60, 61, 62, 63, 64, 65, 66, 67, 68, 69, 70, 71, 72, 73] (by decide +kernel) (by decide +kernel)
set_option maxRecDepth 20000 in
theorem gX9_opens_X9_refuse : GoodIn wsX9_opens (wsV RX9 98 RX9 yX9_refuse wsX9_refuse) := goodIn_app (goodIn_of _ (by decide +kernel)) ggX9_opens_X9_refuse
set_option maxRecDepth 20000 in
theorem ggX9_opens_X9_covers : GoodIn wsX9_opens wsX9_covers := goodIn_r _ [20, 1, 2, 21, 22, 23, 24, 25, 26, 27, 28, 29, 30, 31, 32, 33, 34, 35, 36, 37, 38, 39, 40, 41, 42, 43, 44, 45, 46, 47, 48, 49, 50, 51, 52, 53, 54, 55, 56, 57, 58, 59, 60, 61, 62, 63, 64, 65, 66, 67, 68, 69, 70, 71, 72, 73] (by decide +kernel) (by decide +kernel)
set_option maxRecDepth 20000 in
theorem gX9_opens_X9_covers : GoodIn wsX9_opens (wsV RX9 285 RX9 yX9_covers wsX9_covers) := goodIn_app (goodIn_of _ (by decide +kernel)) ggX9_opens_X9_covers
theorem dX9_opens_0 : decode cX9_opens 0 = .ok (.aload_n 0, 1) := by decide +kernel
theorem dX9_opens_1 : decode cX9_opens 1 = .ok (.iload_n 1, 1) := by decide +kernel
theorem dX9_opens_2 : decode cX9_opens 2 = .ok (.invokevirtual 108, 3) := by decide +kernel
theorem dX9_opens_5 : decode cX9_opens 5 = .ok (.ifCond .eq 13, 3) := by decide +kernel
theorem dX9_opens_8 : decode cX9_opens 8 = .ok (.iload_n 2, 1) := by decide +kernel
theorem dX9_opens_9 : decode cX9_opens 9 = .ok (.i2l, 1) := by decide +kernel
theorem dX9_opens_10 : decode cX9_opens 10 = .ok (.lconst 0, 1) := by decide +kernel
theorem dX9_opens_11 : decode cX9_opens 11 = .ok (.lconst 1, 1) := by decide +kernel
theorem dX9_opens_12 : decode cX9_opens 12 = .ok (.invokestatic 92, 3) := by decide +kernel
theorem dX9_opens_15 : decode cX9_opens 15 = .ok (.ifCond .ne 10, 3) := by decide +kernel
theorem dX9_opens_18 : decode cX9_opens 18 = .ok (.aload_n 0, 1) := by decide +kernel
theorem dX9_opens_19 : decode cX9_opens 19 = .ok (.bipush (-2), 2) := by decide +kernel
theorem dX9_opens_21 : decode cX9_opens 21 = .ok (.invokevirtual 98, 3) := by decide +kernel
theorem dX9_opens_24 : decode cX9_opens 24 = .ok (.ireturn, 1) := by decide +kernel
theorem dX9_opens_25 : decode cX9_opens 25 = .ok (.aload_n 0, 1) := by decide +kernel
theorem dX9_opens_26 : decode cX9_opens 26 = .ok (.invokevirtual 285, 3) := by decide +kernel
theorem dX9_opens_29 : decode cX9_opens 29 = .ok (.iconst (-1), 1) := by decide +kernel
theorem dX9_opens_30 : decode cX9_opens 30 = .ok (.istore_n 3, 1) := by decide +kernel
theorem dX9_opens_31 : decode cX9_opens 31 = .ok (.iconst 0, 1) := by decide +kernel
theorem dX9_opens_32 : decode cX9_opens 32 = .ok (.istore 4, 2) := by decide +kernel
theorem dX9_opens_34 : decode cX9_opens 34 = .ok (.iload 4, 2) := by decide +kernel
theorem dX9_opens_36 : decode cX9_opens 36 = .ok (.sipush 256, 3) := by decide +kernel
theorem dX9_opens_39 : decode cX9_opens 39 = .ok (.if_icmp .ge 96, 3) := by decide +kernel
theorem dX9_opens_42 : decode cX9_opens 42 = .ok (.aload_n 0, 1) := by decide +kernel
theorem dX9_opens_43 : decode cX9_opens 43 = .ok (.getfield 61, 3) := by decide +kernel
theorem dX9_opens_46 : decode cX9_opens 46 = .ok (.iload 4, 2) := by decide +kernel
theorem dX9_opens_48 : decode cX9_opens 48 = .ok (.iaload, 1) := by decide +kernel
theorem dX9_opens_49 : decode cX9_opens 49 = .ok (.iconst (-1), 1) := by decide +kernel
theorem dX9_opens_50 : decode cX9_opens 50 = .ok (.if_icmp .eq 15, 3) := by decide +kernel
theorem dX9_opens_53 : decode cX9_opens 53 = .ok (.iload 4, 2) := by decide +kernel
theorem dX9_opens_55 : decode cX9_opens 55 = .ok (.iload_n 1, 1) := by decide +kernel
theorem dX9_opens_56 : decode cX9_opens 56 = .ok (.iand, 1) := by decide +kernel
theorem dX9_opens_57 : decode cX9_opens 57 = .ok (.iload_n 1, 1) := by decide +kernel
theorem dX9_opens_58 : decode cX9_opens 58 = .ok (.if_icmp .ne 7, 3) := by decide +kernel
theorem dX9_opens_61 : decode cX9_opens 61 = .ok (.iconst 1, 1) := by decide +kernel
theorem dX9_opens_62 : decode cX9_opens 62 = .ok (.goto 4, 3) := by decide +kernel
theorem dX9_opens_65 : decode cX9_opens 65 = .ok (.iconst 0, 1) := by decide +kernel
theorem dX9_opens_66 : decode cX9_opens 66 = .ok (.istore 5, 2) := by decide +kernel
theorem dX9_opens_68 : decode cX9_opens 68 = .ok (.iload 5, 2) := by decide +kernel
theorem dX9_opens_70 : decode cX9_opens 70 = .ok (.ifCond .eq 59, 3) := by decide +kernel
theorem dX9_opens_73 : decode cX9_opens 73 = .ok (.iload_n 3, 1) := by decide +kernel
theorem dX9_opens_74 : decode cX9_opens 74 = .ok (.iconst (-1), 1) := by decide +kernel
theorem dX9_opens_75 : decode cX9_opens 75 = .ok (.if_icmp .eq 51, 3) := by decide +kernel
theorem dX9_opens_78 : decode cX9_opens 78 = .ok (.aload_n 0, 1) := by decide +kernel
theorem dX9_opens_79 : decode cX9_opens 79 = .ok (.getfield 61, 3) := by decide +kernel
theorem dX9_opens_82 : decode cX9_opens 82 = .ok (.iload 4, 2) := by decide +kernel
theorem dX9_opens_84 : decode cX9_opens 84 = .ok (.iaload, 1) := by decide +kernel
theorem dX9_opens_85 : decode cX9_opens 85 = .ok (.aload_n 0, 1) := by decide +kernel
theorem dX9_opens_86 : decode cX9_opens 86 = .ok (.getfield 61, 3) := by decide +kernel
theorem dX9_opens_89 : decode cX9_opens 89 = .ok (.iload_n 3, 1) := by decide +kernel
theorem dX9_opens_90 : decode cX9_opens 90 = .ok (.iaload, 1) := by decide +kernel
theorem dX9_opens_91 : decode cX9_opens 91 = .ok (.if_icmp .lt 35, 3) := by decide +kernel
theorem dX9_opens_94 : decode cX9_opens 94 = .ok (.aload_n 0, 1) := by decide +kernel
theorem dX9_opens_95 : decode cX9_opens 95 = .ok (.getfield 61, 3) := by decide +kernel
theorem dX9_opens_98 : decode cX9_opens 98 = .ok (.iload 4, 2) := by decide +kernel
theorem dX9_opens_100 : decode cX9_opens 100 = .ok (.iaload, 1) := by decide +kernel
theorem dX9_opens_101 : decode cX9_opens 101 = .ok (.aload_n 0, 1) := by decide +kernel
theorem dX9_opens_102 : decode cX9_opens 102 = .ok (.getfield 61, 3) := by decide +kernel
theorem dX9_opens_105 : decode cX9_opens 105 = .ok (.iload_n 3, 1) := by decide +kernel
theorem dX9_opens_106 : decode cX9_opens 106 = .ok (.iaload, 1) := by decide +kernel
theorem dX9_opens_107 : decode cX9_opens 107 = .ok (.if_icmp .ne 22, 3) := by decide +kernel
theorem dX9_opens_110 : decode cX9_opens 110 = .ok (.aload_n 0, 1) := by decide +kernel
theorem dX9_opens_111 : decode cX9_opens 111 = .ok (.getfield 64, 3) := by decide +kernel
theorem dX9_opens_114 : decode cX9_opens 114 = .ok (.iload 4, 2) := by decide +kernel
theorem dX9_opens_116 : decode cX9_opens 116 = .ok (.iaload, 1) := by decide +kernel
theorem dX9_opens_117 : decode cX9_opens 117 = .ok (.aload_n 0, 1) := by decide +kernel
theorem dX9_opens_118 : decode cX9_opens 118 = .ok (.getfield 64, 3) := by decide +kernel
theorem dX9_opens_121 : decode cX9_opens 121 = .ok (.iload_n 3, 1) := by decide +kernel
theorem dX9_opens_122 : decode cX9_opens 122 = .ok (.iaload, 1) := by decide +kernel
theorem dX9_opens_123 : decode cX9_opens 123 = .ok (.if_icmp .ge 6, 3) := by decide +kernel
theorem dX9_opens_126 : decode cX9_opens 126 = .ok (.iload 4, 2) := by decide +kernel
theorem dX9_opens_128 : decode cX9_opens 128 = .ok (.istore_n 3, 1) := by decide +kernel
theorem dX9_opens_129 : decode cX9_opens 129 = .ok (.iinc 4 1, 3) := by decide +kernel
theorem dX9_opens_132 : decode cX9_opens 132 = .ok (.goto (-98), 3) := by decide +kernel
theorem dX9_opens_135 : decode cX9_opens 135 = .ok (.iload_n 3, 1) := by decide +kernel
theorem dX9_opens_136 : decode cX9_opens 136 = .ok (.iconst (-1), 1) := by decide +kernel
theorem dX9_opens_137 : decode cX9_opens 137 = .ok (.if_icmp .ne 7, 3) := by decide +kernel
theorem dX9_opens_140 : decode cX9_opens 140 = .ok (.iconst (-1), 1) := by decide +kernel
theorem dX9_opens_141 : decode cX9_opens 141 = .ok (.goto 22, 3) := by decide +kernel
theorem dX9_opens_144 : decode cX9_opens 144 = .ok (.iload_n 2, 1) := by decide +kernel
theorem dX9_opens_145 : decode cX9_opens 145 = .ok (.ifCond .ne 12, 3) := by decide +kernel
theorem dX9_opens_148 : decode cX9_opens 148 = .ok (.aload_n 0, 1) := by decide +kernel
theorem dX9_opens_149 : decode cX9_opens 149 = .ok (.getfield 61, 3) := by decide +kernel
theorem dX9_opens_152 : decode cX9_opens 152 = .ok (.iload_n 3, 1) := by decide +kernel
theorem dX9_opens_153 : decode cX9_opens 153 = .ok (.iaload, 1) := by decide +kernel
theorem dX9_opens_154 : decode cX9_opens 154 = .ok (.goto 9, 3) := by decide +kernel
theorem dX9_opens_157 : decode cX9_opens 157 = .ok (.aload_n 0, 1) := by decide +kernel
theorem dX9_opens_158 : decode cX9_opens 158 = .ok (.getfield 64, 3) := by decide +kernel
theorem dX9_opens_161 : decode cX9_opens 161 = .ok (.iload_n 3, 1) := by decide +kernel
theorem dX9_opens_162 : decode cX9_opens 162 = .ok (.iaload, 1) := by decide +kernel
theorem dX9_opens_163 : decode cX9_opens 163 = .ok (.ireturn, 1) := by decide +kernel
theorem dX9_alone_0 : decode cX9_alone 0 = .ok (.iconst 0, 1) := by decide +kernel
theorem dX9_alone_1 : decode cX9_alone 1 = .ok (.istore_n 1, 1) := by decide +kernel
theorem dX9_alone_2 : decode cX9_alone 2 = .ok (.iconst 0, 1) := by decide +kernel
theorem dX9_alone_3 : decode cX9_alone 3 = .ok (.istore_n 2, 1) := by decide +kernel
theorem dX9_alone_4 : decode cX9_alone 4 = .ok (.iload_n 2, 1) := by decide +kernel
theorem dX9_alone_5 : decode cX9_alone 5 = .ok (.aload_n 0, 1) := by decide +kernel
theorem dX9_alone_6 : decode cX9_alone 6 = .ok (.getfield 102, 3) := by decide +kernel
theorem dX9_alone_9 : decode cX9_alone 9 = .ok (.if_icmp .ge 72, 3) := by decide +kernel
theorem dX9_alone_12 : decode cX9_alone 12 = .ok (.iconst 0, 1) := by decide +kernel
theorem dX9_alone_13 : decode cX9_alone 13 = .ok (.istore_n 3, 1) := by decide +kernel
theorem dX9_alone_14 : decode cX9_alone 14 = .ok (.iconst 0, 1) := by decide +kernel
theorem dX9_alone_15 : decode cX9_alone 15 = .ok (.istore 4, 2) := by decide +kernel
theorem dX9_alone_17 : decode cX9_alone 17 = .ok (.iload 4, 2) := by decide +kernel
theorem dX9_alone_19 : decode cX9_alone 19 = .ok (.aload_n 0, 1) := by decide +kernel
theorem dX9_alone_20 : decode cX9_alone 20 = .ok (.getfield 102, 3) := by decide +kernel
theorem dX9_alone_23 : decode cX9_alone 23 = .ok (.if_icmp .ge 29, 3) := by decide +kernel
theorem dX9_alone_26 : decode cX9_alone 26 = .ok (.iload_n 3, 1) := by decide +kernel
theorem dX9_alone_27 : decode cX9_alone 27 = .ok (.iload 4, 2) := by decide +kernel
theorem dX9_alone_29 : decode cX9_alone 29 = .ok (.iload_n 2, 1) := by decide +kernel
theorem dX9_alone_30 : decode cX9_alone 30 = .ok (.if_icmp .ne 7, 3) := by decide +kernel
theorem dX9_alone_33 : decode cX9_alone 33 = .ok (.iconst 0, 1) := by decide +kernel
theorem dX9_alone_34 : decode cX9_alone 34 = .ok (.goto 10, 3) := by decide +kernel
theorem dX9_alone_37 : decode cX9_alone 37 = .ok (.aload_n 0, 1) := by decide +kernel
theorem dX9_alone_38 : decode cX9_alone 38 = .ok (.getfield 16, 3) := by decide +kernel
theorem dX9_alone_41 : decode cX9_alone 41 = .ok (.iload 4, 2) := by decide +kernel
theorem dX9_alone_43 : decode cX9_alone 43 = .ok (.iaload, 1) := by decide +kernel
theorem dX9_alone_44 : decode cX9_alone 44 = .ok (.ior, 1) := by decide +kernel
theorem dX9_alone_45 : decode cX9_alone 45 = .ok (.istore_n 3, 1) := by decide +kernel
theorem dX9_alone_46 : decode cX9_alone 46 = .ok (.iinc 4 1, 3) := by decide +kernel
theorem dX9_alone_49 : decode cX9_alone 49 = .ok (.goto (-32), 3) := by decide +kernel
theorem dX9_alone_52 : decode cX9_alone 52 = .ok (.iload_n 1, 1) := by decide +kernel
theorem dX9_alone_53 : decode cX9_alone 53 = .ok (.aload_n 0, 1) := by decide +kernel
theorem dX9_alone_54 : decode cX9_alone 54 = .ok (.getfield 16, 3) := by decide +kernel
theorem dX9_alone_57 : decode cX9_alone 57 = .ok (.iload_n 2, 1) := by decide +kernel
theorem dX9_alone_58 : decode cX9_alone 58 = .ok (.iaload, 1) := by decide +kernel
theorem dX9_alone_59 : decode cX9_alone 59 = .ok (.iload_n 3, 1) := by decide +kernel
theorem dX9_alone_60 : decode cX9_alone 60 = .ok (.iconst (-1), 1) := by decide +kernel
theorem dX9_alone_61 : decode cX9_alone 61 = .ok (.ixor, 1) := by decide +kernel
theorem dX9_alone_62 : decode cX9_alone 62 = .ok (.iand, 1) := by decide +kernel
theorem dX9_alone_63 : decode cX9_alone 63 = .ok (.ifCond .ne 7, 3) := by decide +kernel
theorem dX9_alone_66 : decode cX9_alone 66 = .ok (.iconst 0, 1) := by decide +kernel
theorem dX9_alone_67 : decode cX9_alone 67 = .ok (.goto 6, 3) := by decide +kernel
theorem dX9_alone_70 : decode cX9_alone 70 = .ok (.iconst 1, 1) := by decide +kernel
theorem dX9_alone_71 : decode cX9_alone 71 = .ok (.iload_n 2, 1) := by decide +kernel
theorem dX9_alone_72 : decode cX9_alone 72 = .ok (.ishl, 1) := by decide +kernel
theorem dX9_alone_73 : decode cX9_alone 73 = .ok (.ior, 1) := by decide +kernel
theorem dX9_alone_74 : decode cX9_alone 74 = .ok (.istore_n 1, 1) := by decide +kernel
theorem dX9_alone_75 : decode cX9_alone 75 = .ok (.iinc 2 1, 3) := by decide +kernel
theorem dX9_alone_78 : decode cX9_alone 78 = .ok (.goto (-74), 3) := by decide +kernel
theorem dX9_alone_81 : decode cX9_alone 81 = .ok (.iload_n 1, 1) := by decide +kernel
theorem dX9_alone_82 : decode cX9_alone 82 = .ok (.ireturn, 1) := by decide +kernel
theorem dX9_matched_0 : decode cX9_matched 0 = .ok (.iconst 0, 1) := by decide +kernel
theorem dX9_matched_1 : decode cX9_matched 1 = .ok (.istore_n 2, 1) := by decide +kernel
theorem dX9_matched_2 : decode cX9_matched 2 = .ok (.iconst 0, 1) := by decide +kernel
theorem dX9_matched_3 : decode cX9_matched 3 = .ok (.istore_n 3, 1) := by decide +kernel
theorem dX9_matched_4 : decode cX9_matched 4 = .ok (.iload_n 3, 1) := by decide +kernel
theorem dX9_matched_5 : decode cX9_matched 5 = .ok (.aload_n 0, 1) := by decide +kernel
theorem dX9_matched_6 : decode cX9_matched 6 = .ok (.getfield 7, 3) := by decide +kernel
theorem dX9_matched_9 : decode cX9_matched 9 = .ok (.if_icmp .ge 92, 3) := by decide +kernel
theorem dX9_matched_12 : decode cX9_matched 12 = .ok (.iload_n 1, 1) := by decide +kernel
theorem dX9_matched_13 : decode cX9_matched 13 = .ok (.iload_n 3, 1) := by decide +kernel
theorem dX9_matched_14 : decode cX9_matched 14 = .ok (.ishr, 1) := by decide +kernel
theorem dX9_matched_15 : decode cX9_matched 15 = .ok (.iconst 1, 1) := by decide +kernel
theorem dX9_matched_16 : decode cX9_matched 16 = .ok (.iand, 1) := by decide +kernel
theorem dX9_matched_17 : decode cX9_matched 17 = .ok (.iconst 1, 1) := by decide +kernel
theorem dX9_matched_18 : decode cX9_matched 18 = .ok (.if_icmp .ne 77, 3) := by decide +kernel
theorem dX9_matched_21 : decode cX9_matched 21 = .ok (.iload_n 1, 1) := by decide +kernel
theorem dX9_matched_22 : decode cX9_matched 22 = .ok (.iconst (-1), 1) := by decide +kernel
theorem dX9_matched_23 : decode cX9_matched 23 = .ok (.ixor, 1) := by decide +kernel
theorem dX9_matched_24 : decode cX9_matched 24 = .ok (.iload_n 2, 1) := by decide +kernel
theorem dX9_matched_25 : decode cX9_matched 25 = .ok (.iconst (-1), 1) := by decide +kernel
theorem dX9_matched_26 : decode cX9_matched 26 = .ok (.ixor, 1) := by decide +kernel
theorem dX9_matched_27 : decode cX9_matched 27 = .ok (.iand, 1) := by decide +kernel
theorem dX9_matched_28 : decode cX9_matched 28 = .ok (.iconst 1, 1) := by decide +kernel
theorem dX9_matched_29 : decode cX9_matched 29 = .ok (.iload_n 3, 1) := by decide +kernel
theorem dX9_matched_30 : decode cX9_matched 30 = .ok (.ishl, 1) := by decide +kernel
theorem dX9_matched_31 : decode cX9_matched 31 = .ok (.iconst 1, 1) := by decide +kernel
theorem dX9_matched_32 : decode cX9_matched 32 = .ok (.isub, 1) := by decide +kernel
theorem dX9_matched_33 : decode cX9_matched 33 = .ok (.iand, 1) := by decide +kernel
theorem dX9_matched_34 : decode cX9_matched 34 = .ok (.istore 4, 2) := by decide +kernel
theorem dX9_matched_36 : decode cX9_matched 36 = .ok (.iconst (-1), 1) := by decide +kernel
theorem dX9_matched_37 : decode cX9_matched 37 = .ok (.istore 5, 2) := by decide +kernel
theorem dX9_matched_39 : decode cX9_matched 39 = .ok (.iconst 0, 1) := by decide +kernel
theorem dX9_matched_40 : decode cX9_matched 40 = .ok (.istore 6, 2) := by decide +kernel
theorem dX9_matched_42 : decode cX9_matched 42 = .ok (.iload 6, 2) := by decide +kernel
theorem dX9_matched_44 : decode cX9_matched 44 = .ok (.iload_n 3, 1) := by decide +kernel
theorem dX9_matched_45 : decode cX9_matched 45 = .ok (.if_icmp .ge 29, 3) := by decide +kernel
theorem dX9_matched_48 : decode cX9_matched 48 = .ok (.iload 4, 2) := by decide +kernel
theorem dX9_matched_50 : decode cX9_matched 50 = .ok (.iload 6, 2) := by decide +kernel
theorem dX9_matched_52 : decode cX9_matched 52 = .ok (.ishr, 1) := by decide +kernel
theorem dX9_matched_53 : decode cX9_matched 53 = .ok (.iconst 1, 1) := by decide +kernel
theorem dX9_matched_54 : decode cX9_matched 54 = .ok (.iand, 1) := by decide +kernel
theorem dX9_matched_55 : decode cX9_matched 55 = .ok (.iconst 1, 1) := by decide +kernel
theorem dX9_matched_56 : decode cX9_matched 56 = .ok (.if_icmp .ne 8, 3) := by decide +kernel
theorem dX9_matched_59 : decode cX9_matched 59 = .ok (.iload 6, 2) := by decide +kernel
theorem dX9_matched_61 : decode cX9_matched 61 = .ok (.goto 5, 3) := by decide +kernel
theorem dX9_matched_64 : decode cX9_matched 64 = .ok (.iload 5, 2) := by decide +kernel
theorem dX9_matched_66 : decode cX9_matched 66 = .ok (.istore 5, 2) := by decide +kernel
theorem dX9_matched_68 : decode cX9_matched 68 = .ok (.iinc 6 1, 3) := by decide +kernel
theorem dX9_matched_71 : decode cX9_matched 71 = .ok (.goto (-29), 3) := by decide +kernel
theorem dX9_matched_74 : decode cX9_matched 74 = .ok (.iload_n 2, 1) := by decide +kernel
theorem dX9_matched_75 : decode cX9_matched 75 = .ok (.iload 5, 2) := by decide +kernel
theorem dX9_matched_77 : decode cX9_matched 77 = .ok (.iconst (-1), 1) := by decide +kernel
theorem dX9_matched_78 : decode cX9_matched 78 = .ok (.if_icmp .ne 7, 3) := by decide +kernel
theorem dX9_matched_81 : decode cX9_matched 81 = .ok (.iconst 0, 1) := by decide +kernel
theorem dX9_matched_82 : decode cX9_matched 82 = .ok (.goto 11, 3) := by decide +kernel
theorem dX9_matched_85 : decode cX9_matched 85 = .ok (.iconst 1, 1) := by decide +kernel
theorem dX9_matched_86 : decode cX9_matched 86 = .ok (.iload_n 3, 1) := by decide +kernel
theorem dX9_matched_87 : decode cX9_matched 87 = .ok (.ishl, 1) := by decide +kernel
theorem dX9_matched_88 : decode cX9_matched 88 = .ok (.iconst 1, 1) := by decide +kernel
theorem dX9_matched_89 : decode cX9_matched 89 = .ok (.iload 5, 2) := by decide +kernel
theorem dX9_matched_91 : decode cX9_matched 91 = .ok (.ishl, 1) := by decide +kernel
theorem dX9_matched_92 : decode cX9_matched 92 = .ok (.ior, 1) := by decide +kernel
theorem dX9_matched_93 : decode cX9_matched 93 = .ok (.ior, 1) := by decide +kernel
theorem dX9_matched_94 : decode cX9_matched 94 = .ok (.istore_n 2, 1) := by decide +kernel
theorem dX9_matched_95 : decode cX9_matched 95 = .ok (.iinc 3 1, 3) := by decide +kernel
theorem dX9_matched_98 : decode cX9_matched 98 = .ok (.goto (-94), 3) := by decide +kernel
theorem dX9_matched_101 : decode cX9_matched 101 = .ok (.iload_n 2, 1) := by decide +kernel
theorem dX9_matched_102 : decode cX9_matched 102 = .ok (.ireturn, 1) := by decide +kernel
theorem dX9_withFirst_0 : decode cX9_withFirst 0 = .ok (.iload_n 0, 1) := by decide +kernel
theorem dX9_withFirst_1 : decode cX9_withFirst 1 = .ok (.istore_n 3, 1) := by decide +kernel
theorem dX9_withFirst_2 : decode cX9_withFirst 2 = .ok (.iload_n 1, 1) := by decide +kernel
theorem dX9_withFirst_3 : decode cX9_withFirst 3 = .ok (.istore 4, 2) := by decide +kernel
theorem dX9_withFirst_5 : decode cX9_withFirst 5 = .ok (.iconst 0, 1) := by decide +kernel
theorem dX9_withFirst_6 : decode cX9_withFirst 6 = .ok (.istore 5, 2) := by decide +kernel
theorem dX9_withFirst_8 : decode cX9_withFirst 8 = .ok (.iload 5, 2) := by decide +kernel
theorem dX9_withFirst_10 : decode cX9_withFirst 10 = .ok (.iload_n 2, 1) := by decide +kernel
theorem dX9_withFirst_11 : decode cX9_withFirst 11 = .ok (.if_icmp .ge 32, 3) := by decide +kernel
theorem dX9_withFirst_14 : decode cX9_withFirst 14 = .ok (.iload 4, 2) := by decide +kernel
theorem dX9_withFirst_16 : decode cX9_withFirst 16 = .ok (.ifCond .eq 27, 3) := by decide +kernel
theorem dX9_withFirst_19 : decode cX9_withFirst 19 = .ok (.iload_n 3, 1) := by decide +kernel
theorem dX9_withFirst_20 : decode cX9_withFirst 20 = .ok (.iload 4, 2) := by decide +kernel
theorem dX9_withFirst_22 : decode cX9_withFirst 22 = .ok (.iload 4, 2) := by decide +kernel
theorem dX9_withFirst_24 : decode cX9_withFirst 24 = .ok (.ineg, 1) := by decide +kernel
theorem dX9_withFirst_25 : decode cX9_withFirst 25 = .ok (.iand, 1) := by decide +kernel
theorem dX9_withFirst_26 : decode cX9_withFirst 26 = .ok (.ior, 1) := by decide +kernel
theorem dX9_withFirst_27 : decode cX9_withFirst 27 = .ok (.istore_n 3, 1) := by decide +kernel
theorem dX9_withFirst_28 : decode cX9_withFirst 28 = .ok (.iload 4, 2) := by decide +kernel
theorem dX9_withFirst_30 : decode cX9_withFirst 30 = .ok (.iload 4, 2) := by decide +kernel
theorem dX9_withFirst_32 : decode cX9_withFirst 32 = .ok (.iconst 1, 1) := by decide +kernel
theorem dX9_withFirst_33 : decode cX9_withFirst 33 = .ok (.isub, 1) := by decide +kernel
theorem dX9_withFirst_34 : decode cX9_withFirst 34 = .ok (.iand, 1) := by decide +kernel
theorem dX9_withFirst_35 : decode cX9_withFirst 35 = .ok (.istore 4, 2) := by decide +kernel
theorem dX9_withFirst_37 : decode cX9_withFirst 37 = .ok (.iinc 5 1, 3) := by decide +kernel
theorem dX9_withFirst_40 : decode cX9_withFirst 40 = .ok (.goto (-32), 3) := by decide +kernel
theorem dX9_withFirst_43 : decode cX9_withFirst 43 = .ok (.iload_n 3, 1) := by decide +kernel
theorem dX9_withFirst_44 : decode cX9_withFirst 44 = .ok (.ireturn, 1) := by decide +kernel
set_option maxRecDepth 20000 in
theorem ggX9_row_X9_isBox : GoodIn wsX9_row wsX9_isBox := goodIn_r _ [7, 2, 8, 9, 6, 10, 26, 27, 28, 29, 30, 31, 32, 33, 34, 35, 36, 37, 38, 39, 40, 41, 42, 43, 44, 45, 46, 47, 48, 49, 50, 51, 52, 53, 54, 55, 56, 57, 58, 59, 60, 61, 62, 63, 64, 65, 66, 67, 68, 69, 70, 71, 72, 73, 74, 75, 76] (by decide +kernel) (by decide +kernel)
set_option maxRecDepth 20000 in
theorem gX9_row_X9_isBox : GoodIn wsX9_row (wsV RX9 108 RX9 yX9_isBox wsX9_isBox) := goodIn_app (goodIn_of _ (by decide +kernel)) ggX9_row_X9_isBox
set_option maxRecDepth 20000 in
theorem ggX9_row_X9_in : GoodIn wsX9_row wsX9_in := goodIn_r _ [10] (by decide +kernel) (by decide +kernel)
set_option maxRecDepth 20000 in
theorem gX9_row_X9_in : GoodIn wsX9_row (va_wsS RX9 92 yX9_in wsX9_in) := goodIn_app (goodIn_of _ (by decide +kernel)) ggX9_row_X9_in
set_option maxRecDepth 20000 in
theorem ggX9_row_X9_refuse : GoodIn wsX9_row wsX9_refuse := goodIn_r _ [14, 15, 26, 27, 28, 29, 30, 31, 32, 33, 34, 35, 36, 37, 38, 39, 40, 41, 42, 43, 44, 45, 46, 47, 48, 49, 50, 51, 52, 53, 54, 55, 56, 57, 58, 59, 60, 61, 62, 63, 64, 65, 66, 67, 68, 69, 70, 71, 72, 73, 74, 75, 76] (by decide +kernel) (by decide +kernel)
set_option maxRecDepth 20000 in
theorem gX9_row_X9_refuse : GoodIn wsX9_row (wsV RX9 98 RX9 yX9_refuse wsX9_refuse) := goodIn_app (goodIn_of _ (by decide +kernel)) ggX9_row_X9_refuse
set_option maxRecDepth 20000 in
theorem ggX9_row_X9_matched : GoodIn wsX9_row wsX9_matched := goodIn_r _ [19, 2, 26, 27, 28, 29, 30, 31, 32, 33, 34, 35, 36, 37, 38, 39, 40, 41, 42, 43, 44, 45, 46, 47, 48, 49, 50, 51, 52, 53, 54, 55, 56, 57, 58, 59, 60, 61, 62, 63, 64, 65, 66, 67, 68, 69, 70, 71, 72, 73, 74, 75, 76] (by decide +kernel) (by decide +kernel)
set_option maxRecDepth 20000 in
theorem gX9_row_X9_matched : GoodIn wsX9_row (wsV RX9 288 RX9 yX9_matched wsX9_matched) := goodIn_app (goodIn_of _ (by decide +kernel)) ggX9_row_X9_matched
set_option maxRecDepth 20000 in
theorem ggX9_row_X9_withFirst : GoodIn wsX9_row wsX9_withFirst := goodIn_r _ [22] (by decide +kernel) (by decide +kernel)
set_option maxRecDepth 20000 in
theorem gX9_row_X9_withFirst : GoodIn wsX9_row (va_wsS RX9 291 yX9_withFirst wsX9_withFirst) := goodIn_app (goodIn_of _ (by decide +kernel)) ggX9_row_X9_withFirst
set_option maxRecDepth 20000 in
theorem ggX9_row_X9_many : GoodIn wsX9_row wsX9_many := goodIn_r _ [25] (by decide +kernel) (by decide +kernel)
set_option maxRecDepth 20000 in
theorem gX9_row_X9_many : GoodIn wsX9_row (va_wsS RX9 194 yX9_many wsX9_many) := goodIn_app (goodIn_of _ (by decide +kernel)) ggX9_row_X9_many
theorem dX9_row_0 : decode cX9_row 0 = .ok (.aload_n 0, 1) := by decide +kernel
theorem dX9_row_1 : decode cX9_row 1 = .ok (.iload_n 1, 1) := by decide +kernel
theorem dX9_row_2 : decode cX9_row 2 = .ok (.invokevirtual 108, 3) := by decide +kernel
theorem dX9_row_5 : decode cX9_row 5 = .ok (.ifCond .eq 15, 3) := by decide +kernel
theorem dX9_row_8 : decode cX9_row 8 = .ok (.iload_n 2, 1) := by decide +kernel
theorem dX9_row_9 : decode cX9_row 9 = .ok (.i2l, 1) := by decide +kernel
theorem dX9_row_10 : decode cX9_row 10 = .ok (.lconst 0, 1) := by decide +kernel
theorem dX9_row_11 : decode cX9_row 11 = .ok (.ldc2_w 276, 3) := by decide +kernel
theorem dX9_row_14 : decode cX9_row 14 = .ok (.invokestatic 92, 3) := by decide +kernel
theorem dX9_row_17 : decode cX9_row 17 = .ok (.ifCond .ne 15, 3) := by decide +kernel
theorem dX9_row_20 : decode cX9_row 20 = .ok (.aload_n 0, 1) := by decide +kernel
theorem dX9_row_21 : decode cX9_row 21 = .ok (.bipush (-2), 2) := by decide +kernel
theorem dX9_row_23 : decode cX9_row 23 = .ok (.invokevirtual 98, 3) := by decide +kernel
theorem dX9_row_26 : decode cX9_row 26 = .ok (.istore_n 3, 1) := by decide +kernel
theorem dX9_row_27 : decode cX9_row 27 = .ok (.iload_n 3, 1) := by decide +kernel
theorem dX9_row_28 : decode cX9_row 28 = .ok (.bipush 8, 2) := by decide +kernel
theorem dX9_row_30 : decode cX9_row 30 = .ok (.isub, 1) := by decide +kernel
theorem dX9_row_31 : decode cX9_row 31 = .ok (.ireturn, 1) := by decide +kernel
theorem dX9_row_32 : decode cX9_row 32 = .ok (.aload_n 0, 1) := by decide +kernel
theorem dX9_row_33 : decode cX9_row 33 = .ok (.iload_n 1, 1) := by decide +kernel
theorem dX9_row_34 : decode cX9_row 34 = .ok (.invokevirtual 288, 3) := by decide +kernel
theorem dX9_row_37 : decode cX9_row 37 = .ok (.istore_n 3, 1) := by decide +kernel
theorem dX9_row_38 : decode cX9_row 38 = .ok (.iconst 1, 1) := by decide +kernel
theorem dX9_row_39 : decode cX9_row 39 = .ok (.aload_n 0, 1) := by decide +kernel
theorem dX9_row_40 : decode cX9_row 40 = .ok (.getfield 7, 3) := by decide +kernel
theorem dX9_row_43 : decode cX9_row 43 = .ok (.ishl, 1) := by decide +kernel
theorem dX9_row_44 : decode cX9_row 44 = .ok (.iconst 1, 1) := by decide +kernel
theorem dX9_row_45 : decode cX9_row 45 = .ok (.isub, 1) := by decide +kernel
theorem dX9_row_46 : decode cX9_row 46 = .ok (.iload_n 3, 1) := by decide +kernel
theorem dX9_row_47 : decode cX9_row 47 = .ok (.iconst (-1), 1) := by decide +kernel
theorem dX9_row_48 : decode cX9_row 48 = .ok (.ixor, 1) := by decide +kernel
theorem dX9_row_49 : decode cX9_row 49 = .ok (.iand, 1) := by decide +kernel
theorem dX9_row_50 : decode cX9_row 50 = .ok (.istore 4, 2) := by decide +kernel
theorem dX9_row_52 : decode cX9_row 52 = .ok (.iload_n 1, 1) := by decide +kernel
theorem dX9_row_53 : decode cX9_row 53 = .ok (.iload_n 3, 1) := by decide +kernel
theorem dX9_row_54 : decode cX9_row 54 = .ok (.iand, 1) := by decide +kernel
theorem dX9_row_55 : decode cX9_row 55 = .ok (.istore 5, 2) := by decide +kernel
theorem dX9_row_57 : decode cX9_row 57 = .ok (.iload_n 2, 1) := by decide +kernel
theorem dX9_row_58 : decode cX9_row 58 = .ok (.tableswitch 74 0 2 #[26, 51, 54], 26) := by decide +kernel
theorem dX9_row_84 : decode cX9_row 84 = .ok (.iload 4, 2) := by decide +kernel
theorem dX9_row_86 : decode cX9_row 86 = .ok (.iload_n 1, 1) := by decide +kernel
theorem dX9_row_87 : decode cX9_row 87 = .ok (.iconst (-1), 1) := by decide +kernel
theorem dX9_row_88 : decode cX9_row 88 = .ok (.ixor, 1) := by decide +kernel
theorem dX9_row_89 : decode cX9_row 89 = .ok (.iand, 1) := by decide +kernel
theorem dX9_row_90 : decode cX9_row 90 = .ok (.ifCond .ne 7, 3) := by decide +kernel
theorem dX9_row_93 : decode cX9_row 93 = .ok (.iconst (-1), 1) := by decide +kernel
theorem dX9_row_94 : decode cX9_row 94 = .ok (.goto 14, 3) := by decide +kernel
theorem dX9_row_97 : decode cX9_row 97 = .ok (.iload_n 1, 1) := by decide +kernel
theorem dX9_row_98 : decode cX9_row 98 = .ok (.iload 4, 2) := by decide +kernel
theorem dX9_row_100 : decode cX9_row 100 = .ok (.iload_n 1, 1) := by decide +kernel
theorem dX9_row_101 : decode cX9_row 101 = .ok (.iconst (-1), 1) := by decide +kernel
theorem dX9_row_102 : decode cX9_row 102 = .ok (.ixor, 1) := by decide +kernel
theorem dX9_row_103 : decode cX9_row 103 = .ok (.iand, 1) := by decide +kernel
theorem dX9_row_104 : decode cX9_row 104 = .ok (.iconst 1, 1) := by decide +kernel
theorem dX9_row_105 : decode cX9_row 105 = .ok (.invokestatic 291, 3) := by decide +kernel
theorem dX9_row_108 : decode cX9_row 108 = .ok (.ireturn, 1) := by decide +kernel
theorem dX9_row_109 : decode cX9_row 109 = .ok (.iload 5, 2) := by decide +kernel
theorem dX9_row_111 : decode cX9_row 111 = .ok (.ireturn, 1) := by decide +kernel
theorem dX9_row_112 : decode cX9_row 112 = .ok (.iload 5, 2) := by decide +kernel
theorem dX9_row_114 : decode cX9_row 114 = .ok (.iload 4, 2) := by decide +kernel
theorem dX9_row_116 : decode cX9_row 116 = .ok (.aload_n 0, 1) := by decide +kernel
theorem dX9_row_117 : decode cX9_row 117 = .ok (.getfield 7, 3) := by decide +kernel
theorem dX9_row_120 : decode cX9_row 120 = .ok (.iconst 2, 1) := by decide +kernel
theorem dX9_row_121 : decode cX9_row 121 = .ok (.idiv, 1) := by decide +kernel
theorem dX9_row_122 : decode cX9_row 122 = .ok (.iload 5, 2) := by decide +kernel
theorem dX9_row_124 : decode cX9_row 124 = .ok (.invokestatic 194, 3) := by decide +kernel
theorem dX9_row_127 : decode cX9_row 127 = .ok (.isub, 1) := by decide +kernel
theorem dX9_row_128 : decode cX9_row 128 = .ok (.invokestatic 291, 3) := by decide +kernel
theorem dX9_row_131 : decode cX9_row 131 = .ok (.ireturn, 1) := by decide +kernel
theorem dX9_row_132 : decode cX9_row 132 = .ok (.iload 4, 2) := by decide +kernel
theorem dX9_row_134 : decode cX9_row 134 = .ok (.invokestatic 194, 3) := by decide +kernel
theorem dX9_row_137 : decode cX9_row 137 = .ok (.iconst 1, 1) := by decide +kernel
theorem dX9_row_138 : decode cX9_row 138 = .ok (.iadd, 1) := by decide +kernel
theorem dX9_row_139 : decode cX9_row 139 = .ok (.ireturn, 1) := by decide +kernel
set_option maxRecDepth 20000 in
theorem ggX9_more_X9_isLaw : GoodIn wsX9_more wsX9_isLaw := goodIn_r _ [5, 6, 7, 8, 4, 9] (by decide +kernel) (by decide +kernel)
set_option maxRecDepth 20000 in
theorem gX9_more_X9_isLaw : GoodIn wsX9_more (va_wsS RX9 213 yX9_isLaw wsX9_isLaw) := goodIn_app (goodIn_of _ (by decide +kernel)) ggX9_more_X9_isLaw
set_option maxRecDepth 20000 in
theorem ggX9_more_X9_refuse : GoodIn wsX9_more wsX9_refuse := goodIn_r _ [13, 14, 48, 49, 50, 51, 52, 53, 54, 55, 56, 57, 58, 59, 60, 61, 62, 63, 64, 65, 66, 67, 68, 69, 70, 71, 72, 73, 74, 75, 76, 77, 78, 79, 80, 81, 82, 83, 84, 85, 86, 87, 88, 89, 90, 91, 92, 93, 94, 95, 96, 97, 98] (by decide +kernel) (by decide +kernel)
set_option maxRecDepth 20000 in
theorem gX9_more_X9_refuse : GoodIn wsX9_more (wsV RX9 98 RX9 yX9_refuse wsX9_refuse) := goodIn_app (goodIn_of _ (by decide +kernel)) ggX9_more_X9_refuse
set_option maxRecDepth 20000 in
theorem ggX9_more_X9_breaks : GoodIn wsX9_more wsX9_breaks := goodIn_r _ [18, 19, 20, 21, 22, 23, 24, 4, 25, 26, 27, 28, 29, 30, 7, 8, 9, 31, 32, 33, 34, 35, 36, 37, 38, 39, 48, 49, 50, 51, 52, 53, 54, 55, 56, 57, 58, 59, 60, 61, 62, 63, 64, 65, 66, 67, 68, 69, 70, 71, 72, 73, 74, 75, 76, 77, 78, 79, 80, 81, 82, 83, 84, 85, 86, 87, 88, 89, 90, 91, 92, 93, 94, 95, 96, 97, 98] (by decide +kernel) (by decide +kernel)
set_option maxRecDepth 20000 in
theorem gX9_more_X9_breaks : GoodIn wsX9_more (wsV RX9 216 RX9 yX9_breaks wsX9_breaks) := goodIn_app (goodIn_of _ (by decide +kernel)) ggX9_more_X9_breaks
set_option maxRecDepth 20000 in
theorem ggX9_more_X9_numberOf : GoodIn wsX9_more wsX9_numberOf := goodIn_r _ [43, 19, 20, 48, 49, 50, 51, 52, 53, 54, 55, 56, 57, 58, 59, 60, 61, 62, 63, 64, 65, 66, 67, 68, 69, 70, 71, 72, 73, 74, 75, 76, 77, 78, 79, 80, 81, 82, 83, 84, 85, 86, 87, 88, 89, 90, 91, 92, 93, 94, 95, 96, 97, 98] (by decide +kernel) (by decide +kernel)
set_option maxRecDepth 20000 in
theorem gX9_more_X9_numberOf : GoodIn wsX9_more (wsV RX9 114 RX9 yX9_numberOf wsX9_numberOf) := goodIn_app (goodIn_of _ (by decide +kernel)) ggX9_more_X9_numberOf
set_option maxRecDepth 20000 in
theorem ggX9_more_X9_mayCome : GoodIn wsX9_more wsX9_mayCome := goodIn_r _ [47, 19, 20, 22, 23, 24, 4, 25, 26, 27, 28, 29, 30, 7, 8, 9, 31, 32, 33, 34, 35, 36, 37, 38, 39, 48, 49, 50, 51, 52, 53, 54, 55, 56, 57, 58, 59, 60, 61, 62, 63, 64, 65, 66, 67, 68, 69, 70, 71, 72, 73, 74, 75, 76, 77, 78, 79, 80, 81, 82, 83, 84, 85, 86, 87, 88, 89, 90, 91, 92, 93, 94, 95, 96, 97, 98] (by decide +kernel) (by decide +kernel)
set_option maxRecDepth 20000 in
theorem gX9_more_X9_mayCome : GoodIn wsX9_more (wsV RX9 295 RX9 yX9_mayCome wsX9_mayCome) := goodIn_app (goodIn_of _ (by decide +kernel)) ggX9_more_X9_mayCome
theorem dX9_more_0 : decode cX9_more 0 = .ok (.iload_n 1, 1) := by decide +kernel
theorem dX9_more_1 : decode cX9_more 1 = .ok (.invokestatic 213, 3) := by decide +kernel
theorem dX9_more_4 : decode cX9_more 4 = .ok (.ifCond .ne 10, 3) := by decide +kernel
theorem dX9_more_7 : decode cX9_more 7 = .ok (.aload_n 0, 1) := by decide +kernel
theorem dX9_more_8 : decode cX9_more 8 = .ok (.bipush (-2), 2) := by decide +kernel
theorem dX9_more_10 : decode cX9_more 10 = .ok (.invokevirtual 98, 3) := by decide +kernel
theorem dX9_more_13 : decode cX9_more 13 = .ok (.ireturn, 1) := by decide +kernel
theorem dX9_more_14 : decode cX9_more 14 = .ok (.aload_n 0, 1) := by decide +kernel
theorem dX9_more_15 : decode cX9_more 15 = .ok (.iload_n 1, 1) := by decide +kernel
theorem dX9_more_16 : decode cX9_more 16 = .ok (.invokevirtual 216, 3) := by decide +kernel
theorem dX9_more_19 : decode cX9_more 19 = .ok (.iconst (-1), 1) := by decide +kernel
theorem dX9_more_20 : decode cX9_more 20 = .ok (.if_icmp .eq 5, 3) := by decide +kernel
theorem dX9_more_23 : decode cX9_more 23 = .ok (.iconst (-1), 1) := by decide +kernel
theorem dX9_more_24 : decode cX9_more 24 = .ok (.ireturn, 1) := by decide +kernel
theorem dX9_more_25 : decode cX9_more 25 = .ok (.iconst 0, 1) := by decide +kernel
theorem dX9_more_26 : decode cX9_more 26 = .ok (.istore_n 2, 1) := by decide +kernel
theorem dX9_more_27 : decode cX9_more 27 = .ok (.iload_n 2, 1) := by decide +kernel
theorem dX9_more_28 : decode cX9_more 28 = .ok (.iconst 1, 1) := by decide +kernel
theorem dX9_more_29 : decode cX9_more 29 = .ok (.aload_n 0, 1) := by decide +kernel
theorem dX9_more_30 : decode cX9_more 30 = .ok (.getfield 7, 3) := by decide +kernel
theorem dX9_more_33 : decode cX9_more 33 = .ok (.ishl, 1) := by decide +kernel
theorem dX9_more_34 : decode cX9_more 34 = .ok (.if_icmp .ge 29, 3) := by decide +kernel
theorem dX9_more_37 : decode cX9_more 37 = .ok (.aload_n 0, 1) := by decide +kernel
theorem dX9_more_38 : decode cX9_more 38 = .ok (.iload_n 2, 1) := by decide +kernel
theorem dX9_more_39 : decode cX9_more 39 = .ok (.invokevirtual 114, 3) := by decide +kernel
theorem dX9_more_42 : decode cX9_more 42 = .ok (.iconst (-1), 1) := by decide +kernel
theorem dX9_more_43 : decode cX9_more 43 = .ok (.if_icmp .ne 14, 3) := by decide +kernel
theorem dX9_more_46 : decode cX9_more 46 = .ok (.aload_n 0, 1) := by decide +kernel
theorem dX9_more_47 : decode cX9_more 47 = .ok (.iload_n 1, 1) := by decide +kernel
theorem dX9_more_48 : decode cX9_more 48 = .ok (.iload_n 2, 1) := by decide +kernel
theorem dX9_more_49 : decode cX9_more 49 = .ok (.invokevirtual 295, 3) := by decide +kernel
theorem dX9_more_52 : decode cX9_more 52 = .ok (.ifCond .eq 5, 3) := by decide +kernel
theorem dX9_more_55 : decode cX9_more 55 = .ok (.iload_n 2, 1) := by decide +kernel
theorem dX9_more_56 : decode cX9_more 56 = .ok (.ireturn, 1) := by decide +kernel
theorem dX9_more_57 : decode cX9_more 57 = .ok (.iinc 2 1, 3) := by decide +kernel
theorem dX9_more_60 : decode cX9_more 60 = .ok (.goto (-33), 3) := by decide +kernel
theorem dX9_more_63 : decode cX9_more 63 = .ok (.iconst (-1), 1) := by decide +kernel
theorem dX9_more_64 : decode cX9_more 64 = .ok (.ireturn, 1) := by decide +kernel
set_option maxRecDepth 20000 in
theorem ggX9_mayCome_X9_fits : GoodIn wsX9_mayCome wsX9_fits := goodIn_r _ [7, 8, 9, 10, 11, 6, 12, 13, 14, 15, 25, 26, 27, 28, 29, 30, 31, 32, 33, 34, 35, 36, 37, 38, 39, 40, 41, 42, 43, 44, 45, 46, 47, 48, 49, 50, 51, 52, 53, 54, 55, 56, 57, 58, 59, 60, 61, 62, 63, 64, 65, 66, 67, 68, 69, 70, 71, 72, 73, 74, 75] (by decide +kernel) (by decide +kernel)
set_option maxRecDepth 20000 in
theorem gX9_mayCome_X9_fits : GoodIn wsX9_mayCome (wsV RX9 200 RX9 yX9_fits wsX9_fits) := goodIn_app (goodIn_of _ (by decide +kernel)) ggX9_mayCome_X9_fits
set_option maxRecDepth 20000 in
theorem ggX9_mayCome_X9_agree : GoodIn wsX9_mayCome wsX9_agree := goodIn_r _ [18, 19, 20, 6, 21] (by decide +kernel) (by decide +kernel)
set_option maxRecDepth 20000 in
theorem gX9_mayCome_X9_agree : GoodIn wsX9_mayCome (va_wsS RX9 206 yX9_agree wsX9_agree) := goodIn_app (goodIn_of _ (by decide +kernel)) ggX9_mayCome_X9_agree
set_option maxRecDepth 20000 in
theorem ggX9_mayCome_X9_isChain : GoodIn wsX9_mayCome wsX9_isChain := goodIn_r _ [24, 19, 20, 6, 21] (by decide +kernel) (by decide +kernel)
set_option maxRecDepth 20000 in
theorem gX9_mayCome_X9_isChain : GoodIn wsX9_mayCome (va_wsS RX9 210 yX9_isChain wsX9_isChain) := goodIn_app (goodIn_of _ (by decide +kernel)) ggX9_mayCome_X9_isChain
theorem dX9_mayCome_0 : decode cX9_mayCome 0 = .ok (.aload_n 0, 1) := by decide +kernel
theorem dX9_mayCome_1 : decode cX9_mayCome 1 = .ok (.iload_n 1, 1) := by decide +kernel
theorem dX9_mayCome_2 : decode cX9_mayCome 2 = .ok (.iload_n 2, 1) := by decide +kernel
theorem dX9_mayCome_3 : decode cX9_mayCome 3 = .ok (.invokevirtual 200, 3) := by decide +kernel
theorem dX9_mayCome_6 : decode cX9_mayCome 6 = .ok (.istore_n 3, 1) := by decide +kernel
theorem dX9_mayCome_7 : decode cX9_mayCome 7 = .ok (.iconst 0, 1) := by decide +kernel
theorem dX9_mayCome_8 : decode cX9_mayCome 8 = .ok (.istore 4, 2) := by decide +kernel
theorem dX9_mayCome_10 : decode cX9_mayCome 10 = .ok (.iload 4, 2) := by decide +kernel
theorem dX9_mayCome_12 : decode cX9_mayCome 12 = .ok (.aload_n 0, 1) := by decide +kernel
theorem dX9_mayCome_13 : decode cX9_mayCome 13 = .ok (.getfield 102, 3) := by decide +kernel
theorem dX9_mayCome_16 : decode cX9_mayCome 16 = .ok (.if_icmp .ge 78, 3) := by decide +kernel
theorem dX9_mayCome_19 : decode cX9_mayCome 19 = .ok (.iload_n 3, 1) := by decide +kernel
theorem dX9_mayCome_20 : decode cX9_mayCome 20 = .ok (.ifCond .eq 74, 3) := by decide +kernel
theorem dX9_mayCome_23 : decode cX9_mayCome 23 = .ok (.iload_n 1, 1) := by decide +kernel
theorem dX9_mayCome_24 : decode cX9_mayCome 24 = .ok (.iload_n 2, 1) := by decide +kernel
theorem dX9_mayCome_25 : decode cX9_mayCome 25 = .ok (.aload_n 0, 1) := by decide +kernel
theorem dX9_mayCome_26 : decode cX9_mayCome 26 = .ok (.getfield 16, 3) := by decide +kernel
theorem dX9_mayCome_29 : decode cX9_mayCome 29 = .ok (.iload 4, 2) := by decide +kernel
theorem dX9_mayCome_31 : decode cX9_mayCome 31 = .ok (.iaload, 1) := by decide +kernel
theorem dX9_mayCome_32 : decode cX9_mayCome 32 = .ok (.invokestatic 206, 3) := by decide +kernel
theorem dX9_mayCome_35 : decode cX9_mayCome 35 = .ok (.istore_n 3, 1) := by decide +kernel
theorem dX9_mayCome_36 : decode cX9_mayCome 36 = .ok (.iconst 0, 1) := by decide +kernel
theorem dX9_mayCome_37 : decode cX9_mayCome 37 = .ok (.istore 5, 2) := by decide +kernel
theorem dX9_mayCome_39 : decode cX9_mayCome 39 = .ok (.iload 5, 2) := by decide +kernel
theorem dX9_mayCome_41 : decode cX9_mayCome 41 = .ok (.iload 4, 2) := by decide +kernel
theorem dX9_mayCome_43 : decode cX9_mayCome 43 = .ok (.if_icmp .ge 45, 3) := by decide +kernel
theorem dX9_mayCome_46 : decode cX9_mayCome 46 = .ok (.iload_n 1, 1) := by decide +kernel
