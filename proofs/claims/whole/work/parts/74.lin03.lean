set_option maxRecDepth 100000 in
theorem lir_X9_kept : GoodIn lw_tbl (.code yX9_kept cX9_kept 4 (some .int) :: (wsX9_kept_r1 ++ (wsX9_kept_r2 ++ wsX9_kept_r3))) := goodIn_r _ [1155, 864, 1156, 890, 894, 895, 896, 897, 1113, 1114, 70, 1115, 1116, 1021, 1022, 1023, 1024, 1026, 33, 1027, 873, 1157, 1159, 47, 1160, 861, 886, 887, 888, 889, 1161, 1163, 48, 1164, 865, 1121, 1123, 44, 1124, 862, 863, 1125, 1126, 1127, 1131, 1132, 1133, 1128, 1129, 1130, 1165, 1167, 49, 1168, 891, 892, 893, 898, 899, 1169, 1171, 50, 1172, 866, 1173, 1175, 51, 1176] (by decide +kernel) (by decide +kernel)
theorem lin_X9_kept : GoodIn lw_tbl wsX9_kept := (goodIn_ca lir_X9_kept lic_X9)
set_option maxRecDepth 100000 in
theorem liv_X9_kept : GoodIn lw_tbl (wsV RL 63 RX9 yX9_kept wsX9_kept) := goodIn_app (goodIn_r _ [1152, 1153, 1154, 70] (by decide +kernel) (by decide +kernel)) lin_X9_kept
set_option maxRecDepth 100000 in
theorem lir_X8_rows : GoodIn lw_tbl (.code yX8_rows cX8_rows 2 (some .int) :: (wsX8_rows_r1 ++ (wsX8_rows_r2 ++ (wsX8_rows_r3 ++ (wsX8_rows_r4 ++ (wsX8_rows_r5 ++ wsX8_rows_r6)))))) := goodIn_r _ [654, 353, 354, 61, 355, 356, 358, 0, 359, 311, 312, 313, 655, 657, 21, 658, 303, 297, 107, 104, 304, 527, 528, 529, 65, 530, 175, 184, 185, 531, 405, 71, 406, 178, 186, 532, 514, 513, 76, 182, 187, 188, 533, 535, 13, 536, 537, 538, 78, 539, 540, 541, 542, 544, 546, 14, 547, 548, 550, 15, 551, 553, 554, 555, 557, 16, 558, 598, 599, 600, 66, 601, 212, 603, 604, 605, 606, 213, 619, 214, 215, 607, 608, 609, 610, 611, 612, 613, 614, 564, 565, 615, 616, 617, 618, 620, 621, 623, 17, 624, 181, 626, 628, 18, 629, 630, 632, 19, 633, 634, 635, 636, 637, 638, 640, 20, 641, 642, 643, 644, 645, 646, 659, 661, 22, 662, 308, 668, 669, 670, 585, 663, 665, 23, 666, 667] (by decide +kernel) (by decide +kernel)
theorem lin_X8_rows : GoodIn lw_tbl wsX8_rows := (goodIn_ca (goodIn_ca (goodIn_ca (goodIn_ca lir_X8_rows lic_X8) lic_X6) lic_X3) lic_X2)
set_option maxRecDepth 100000 in
theorem liv_X8_rows : GoodIn lw_tbl (wsV RL 64 RX8 yX8_rows wsX8_rows) := goodIn_app (goodIn_r _ [651, 652, 653, 61] (by decide +kernel) (by decide +kernel)) lin_X8_rows
set_option maxRecDepth 100000 in
theorem lir_X9_rows : GoodIn lw_tbl (.code yX9_rows cX9_rows 6 (some .int) :: (wsX9_rows_r1 ++ (wsX9_rows_r2 ++ wsX9_rows_r3))) := goodIn_r _ [1180, 894, 864, 865, 898, 1021, 1022, 70, 1023, 1024, 1026, 33, 1027, 873, 1157, 1159, 47, 1160, 861, 886, 887, 888, 889, 1161, 1163, 48, 1164, 1121, 1123, 44, 1124, 862, 863, 1125, 1126, 1127, 1131, 1132, 1133, 1128, 1129, 1130, 1165, 1167, 49, 1168, 890, 891, 892, 893, 896, 899, 1169, 1171, 50, 1172, 866, 895, 897, 1173, 1175, 51, 1176] (by decide +kernel) (by decide +kernel)
theorem lin_X9_rows : GoodIn lw_tbl wsX9_rows := (goodIn_ca lir_X9_rows lic_X9)
set_option maxRecDepth 100000 in
theorem liv_X9_rows : GoodIn lw_tbl (wsV RL 67 RX9 yX9_rows wsX9_rows) := goodIn_app (goodIn_r _ [1177, 1178, 1179, 70] (by decide +kernel) (by decide +kernel)) lin_X9_rows
set_option maxRecDepth 100000 in
theorem lir_X8_opens : GoodIn lw_tbl (.code yX8_opens cX8_opens 4 (some .int) :: (wsX8_opens_r1 ++ wsX8_opens_r2)) := goodIn_r _ [674, 684, 368, 370, 1, 61, 371, 297, 95, 353, 354, 355, 356, 358, 0, 359, 311, 312, 313, 675, 677, 24, 678, 307, 679, 104, 683, 107, 680, 681, 79, 682] (by decide +kernel) (by decide +kernel)
theorem lin_X8_opens : GoodIn lw_tbl wsX8_opens := (goodIn_ca (goodIn_ca lir_X8_opens lic_X8) lic_X6)
set_option maxRecDepth 100000 in
theorem liv_X8_opens : GoodIn lw_tbl (wsV RL 68 RX8 yX8_opens wsX8_opens) := goodIn_app (goodIn_r _ [671, 672, 673, 61] (by decide +kernel) (by decide +kernel)) lin_X8_opens
