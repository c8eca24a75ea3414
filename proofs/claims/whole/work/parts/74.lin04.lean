set_option maxRecDepth 100000 in
theorem lir_X9_opens : GoodIn lw_tbl (.code yX9_opens cX9_opens 6 (some .int) :: [.fieldLink RX9 61 "NoneWithinModel" "coverMany" "[I", .fieldLink RX9 64 "NoneWithinModel" "coverSet" "[I", .methodLink RX9 108 yX9_isBox, .instanceMethod yX9_isBox, .selects RX9 yX9_isBox yX9_isBox, .initialized RX9, .code yX9_isBox cX9_isBox 2 (some .boolean), .fieldLink RX9 7 "NoneWithinModel" "n" "I", .methodLink RX9 92 yX9_in, .static yX9_in, .code yX9_in cX9_in 6 (some .boolean), .methodLink RX9 98 yX9_refuse, .instanceMethod yX9_refuse, .selects RX9 yX9_refuse yX9_refuse, .code yX9_refuse cX9_refuse 2 (some .int), .fieldLink RX9 36 "NoneWithinModel" "refused" "[I", .methodLink RX9 285 yX9_covers, .instanceMethod yX9_covers, .selects RX9 yX9_covers yX9_covers, .code yX9_covers cX9_covers 6 none, .fieldLink RX9 102 "NoneWithinModel" "boxes" "I", .fieldLink RX9 16 "NoneWithinModel" "box" "[I"]) := goodIn_r _ [1184, 900, 901, 1036, 1038, 34, 70, 1039, 861, 1021, 1022, 1023, 1024, 1026, 33, 1027, 873, 1185, 1187, 52, 1188, 864, 865] (by decide +kernel) (by decide +kernel)
theorem lin_X9_opens : GoodIn lw_tbl wsX9_opens := (goodIn_ca lir_X9_opens lic_X9)
set_option maxRecDepth 100000 in
theorem liv_X9_opens : GoodIn lw_tbl (wsV RL 71 RX9 yX9_opens wsX9_opens) := goodIn_app (goodIn_r _ [1181, 1182, 1183, 70] (by decide +kernel) (by decide +kernel)) lin_X9_opens
set_option maxRecDepth 100000 in
theorem lir_X8_alone : GoodIn lw_tbl (.code yX8_alone cX8_alone 6 (some .int) :: [.fieldLink RX8 12 "NoneWithin" "shop" "LNoneWithin$Shop;", .fieldLink RX8 98 "NoneWithin$Shop" "boxes" "I", .fieldLink RX8 118 "NoneWithin$Shop" "sets" "[I"]) := goodIn_r _ [688, 297, 104, 107] (by decide +kernel) (by decide +kernel)
theorem lin_X8_alone : GoodIn lw_tbl wsX8_alone := (goodIn_ca (goodIn_ca lir_X8_alone lic_X8) lic_X6)
set_option maxRecDepth 100000 in
theorem liv_X8_alone : GoodIn lw_tbl (wsV RL 72 RX8 yX8_alone wsX8_alone) := goodIn_app (goodIn_r _ [685, 686, 687, 61] (by decide +kernel) (by decide +kernel)) lin_X8_alone
set_option maxRecDepth 100000 in
theorem lir_X9_alone : GoodIn lw_tbl (.code yX9_alone cX9_alone 5 (some .int) :: [.fieldLink RX9 102 "NoneWithinModel" "boxes" "I", .fieldLink RX9 16 "NoneWithinModel" "box" "[I"]) := goodIn_r _ [1192, 864, 865] (by decide +kernel) (by decide +kernel)
theorem lin_X9_alone : GoodIn lw_tbl wsX9_alone := (goodIn_ca lir_X9_alone lic_X9)
set_option maxRecDepth 100000 in
theorem liv_X9_alone : GoodIn lw_tbl (wsV RL 75 RX9 yX9_alone wsX9_alone) := goodIn_app (goodIn_r _ [1189, 1190, 1191, 70] (by decide +kernel) (by decide +kernel)) lin_X9_alone
set_option maxRecDepth 100000 in
theorem lir_X8_row : GoodIn lw_tbl (.code yX8_row cX8_row 6 (some .int) :: (wsX8_row_r1 ++ wsX8_row_r2)) := goodIn_r _ [692, 297, 95, 368, 370, 1, 61, 371, 353, 354, 355, 356, 358, 0, 359, 311, 312, 313, 693, 694, 695, 696, 564, 565, 697, 698, 78, 699, 700, 701, 702, 703, 571, 704, 705, 706, 585, 538, 539, 540, 541, 542, 707, 708, 709] (by decide +kernel) (by decide +kernel)
theorem lin_X8_row : GoodIn lw_tbl wsX8_row := (goodIn_ca (goodIn_ca lir_X8_row lic_X8) lic_X6)
set_option maxRecDepth 100000 in
theorem liv_X8_row : GoodIn lw_tbl (wsV RL 76 RX8 yX8_row wsX8_row) := goodIn_app (goodIn_r _ [689, 690, 691, 61] (by decide +kernel) (by decide +kernel)) lin_X8_row
set_option maxRecDepth 100000 in
theorem lir_X9_row : GoodIn lw_tbl (.code yX9_row cX9_row 6 (some .int) :: (wsX9_row_r1 ++ wsX9_row_r2)) := goodIn_r _ [1196, 1156, 861, 1036, 1038, 34, 70, 1039, 1021, 1022, 1023, 1024, 1026, 33, 1027, 873, 1197, 1199, 53, 1200, 1201, 1202, 1203, 1125, 1126, 1127] (by decide +kernel) (by decide +kernel)
theorem lin_X9_row : GoodIn lw_tbl wsX9_row := (goodIn_ca lir_X9_row lic_X9)
set_option maxRecDepth 100000 in
theorem liv_X9_row : GoodIn lw_tbl (wsV RL 79 RX9 yX9_row wsX9_row) := goodIn_app (goodIn_r _ [1193, 1194, 1195, 70] (by decide +kernel) (by decide +kernel)) lin_X9_row
set_option maxRecDepth 100000 in
theorem lir_X8_more : GoodIn lw_tbl (.code yX8_more cX8_more 4 (some .int) :: (wsX8_more_r1 ++ (wsX8_more_r2 ++ (wsX8_more_r3 ++ (wsX8_more_r4 ++ wsX8_more_r5))))) := goodIn_r _ [713, 303, 297, 95, 520, 521, 61, 522, 353, 354, 355, 356, 358, 0, 359, 311, 312, 313, 523, 525, 12, 526, 98, 101, 107, 104, 527, 528, 529, 65, 530, 175, 184, 185, 531, 405, 71, 406, 178, 186, 532, 514, 513, 76, 182, 187, 188, 533, 535, 13, 536, 537, 538, 78, 539, 540, 541, 542, 544, 546, 14, 547, 548, 550, 15, 551, 553, 554, 555, 557, 16, 558, 559, 560, 561, 562, 566, 567, 572, 564, 565, 568, 569, 570, 571, 372, 373, 374, 62, 375, 103, 106, 714, 715, 716, 717, 638, 640, 20, 641] (by decide +kernel) (by decide +kernel)
theorem lin_X8_more : GoodIn lw_tbl wsX8_more := (goodIn_ca (goodIn_ca (goodIn_ca lir_X8_more lic_X8) lic_X6) lic_X3)
set_option maxRecDepth 100000 in
theorem liv_X8_more : GoodIn lw_tbl (wsV RL 80 RX8 yX8_more wsX8_more) := goodIn_app (goodIn_r _ [710, 711, 712, 61] (by decide +kernel) (by decide +kernel)) lin_X8_more
set_option maxRecDepth 100000 in
theorem lir_X9_more : GoodIn lw_tbl (.code yX9_more cX9_more 3 (some .int) :: (wsX9_more_r1 ++ wsX9_more_r2)) := goodIn_r _ [1207, 861, 1113, 1114, 70, 1115, 1116, 1021, 1022, 1023, 1024, 1026, 33, 1027, 873, 1117, 1119, 43, 1120, 864, 865, 884, 1121, 1123, 44, 1124, 862, 863, 1125, 1126, 1127, 1128, 1129, 1130, 1131, 1132, 1133, 1134, 1135, 1136, 1041, 1043, 35, 1044, 1208, 1210, 54, 1211] (by decide +kernel) (by decide +kernel)
theorem lin_X9_more : GoodIn lw_tbl wsX9_more := (goodIn_ca lir_X9_more lic_X9)
set_option maxRecDepth 100000 in
theorem liv_X9_more : GoodIn lw_tbl (wsV RL 83 RX9 yX9_more wsX9_more) := goodIn_app (goodIn_r _ [1204, 1205, 1206, 70] (by decide +kernel) (by decide +kernel)) lin_X9_more
