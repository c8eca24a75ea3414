set_option maxRecDepth 100000 in
theorem lir_X8_told : GoodIn lw_tbl (.code yX8_told cX8_told 3 (some .int) :: [.fieldLink RX8 12 "NoneWithin" "shop" "LNoneWithin$Shop;", .fieldLink RX8 98 "NoneWithin$Shop" "boxes" "I", .fieldLink RX8 118 "NoneWithin$Shop" "sets" "[I", .fieldLink RX8 121 "NoneWithin$Shop" "worths" "[I", .methodLink RX8 86 yX8_between, .static yX8_between, .initialized RX8, .code yX8_between cX8_between 3 (some .boolean), .methodLink RX8 90 yX8_refuse, .instanceMethod yX8_refuse, .selects RX8 yX8_refuse yX8_refuse, .code yX8_refuse cX8_refuse 3 (some .int), .fieldLink RX8 252 "NoneWithin" "badCalls" "I", .fieldLink RX8 255 "NoneWithin" "noCalls" "I", .fieldLink RX8 258 "NoneWithin" "fullCalls" "I"]) := goodIn_r _ [387, 297, 104, 107, 109, 353, 354, 61, 355, 356, 358, 0, 359, 311, 312, 313] (by decide +kernel) (by decide +kernel)
theorem lin_X8_told : GoodIn lw_tbl wsX8_told := (goodIn_ca (goodIn_ca lir_X8_told lic_X8) lic_X6)
set_option maxRecDepth 100000 in
theorem liv_X8_told : GoodIn lw_tbl (wsV RL 32 RX8 yX8_told wsX8_told) := goodIn_app (goodIn_r _ [384, 385, 386, 61] (by decide +kernel) (by decide +kernel)) lin_X8_told
set_option maxRecDepth 100000 in
theorem lir_X9_told : GoodIn lw_tbl (.code yX9_told cX9_told 3 (some .int) :: [.fieldLink RX9 102 "NoneWithinModel" "boxes" "I", .fieldLink RX9 16 "NoneWithinModel" "box" "[I", .fieldLink RX9 20 "NoneWithinModel" "worth" "[I", .methodLink RX9 92 yX9_in, .static yX9_in, .initialized RX9, .code yX9_in cX9_in 6 (some .boolean), .methodLink RX9 98 yX9_refuse, .instanceMethod yX9_refuse, .selects RX9 yX9_refuse yX9_refuse, .code yX9_refuse cX9_refuse 2 (some .int), .fieldLink RX9 36 "NoneWithinModel" "refused" "[I"]) := goodIn_r _ [1052, 864, 865, 866, 1021, 1022, 70, 1023, 1024, 1026, 33, 1027, 873] (by decide +kernel) (by decide +kernel)
theorem lin_X9_told : GoodIn lw_tbl wsX9_told := (goodIn_ca lir_X9_told lic_X9)
set_option maxRecDepth 100000 in
theorem liv_X9_told : GoodIn lw_tbl (wsV RL 35 RX9 yX9_told wsX9_told) := goodIn_app (goodIn_r _ [1049, 1050, 1051, 70] (by decide +kernel) (by decide +kernel)) lin_X9_told
set_option maxRecDepth 100000 in
theorem lir_X8_type : GoodIn lw_tbl (.code yX8_type cX8_type 5 (some .int) :: [.fieldLink RX8 124 "NoneWithin" "bytes" "I", .fieldLink RX8 26 "NoneWithin" "text" "[I", .methodLink RX8 86 yX8_between, .static yX8_between, .initialized RX8, .code yX8_between cX8_between 3 (some .boolean), .methodLink RX8 90 yX8_refuse, .instanceMethod yX8_refuse, .selects RX8 yX8_refuse yX8_refuse, .code yX8_refuse cX8_refuse 3 (some .int), .fieldLink RX8 252 "NoneWithin" "badCalls" "I", .fieldLink RX8 255 "NoneWithin" "noCalls" "I", .fieldLink RX8 258 "NoneWithin" "fullCalls" "I"]) := goodIn_r _ [391, 310, 300, 353, 354, 61, 355, 356, 358, 0, 359, 311, 312, 313] (by decide +kernel) (by decide +kernel)
theorem lin_X8_type : GoodIn lw_tbl wsX8_type := (goodIn_ca lir_X8_type lic_X8)
set_option maxRecDepth 100000 in
theorem liv_X8_type : GoodIn lw_tbl (wsV RL 38 RX8 yX8_type wsX8_type) := goodIn_app (goodIn_r _ [388, 389, 390, 61] (by decide +kernel) (by decide +kernel)) lin_X8_type
set_option maxRecDepth 100000 in
theorem lir_X9_type : GoodIn lw_tbl (.code yX9_type cX9_type 5 (some .int) :: [.constantLong RX9 96 (8), .fieldLink RX9 117 "NoneWithinModel" "size" "I", .fieldLink RX9 26 "NoneWithinModel" "text" "[I", .constantLong RX9 120 (255), .methodLink RX9 92 yX9_in, .static yX9_in, .initialized RX9, .code yX9_in cX9_in 6 (some .boolean), .methodLink RX9 98 yX9_refuse, .instanceMethod yX9_refuse, .selects RX9 yX9_refuse yX9_refuse, .code yX9_refuse cX9_refuse 2 (some .int), .fieldLink RX9 36 "NoneWithinModel" "refused" "[I"]) := goodIn_r _ [1056, 1020, 869, 868, 1057, 1021, 1022, 70, 1023, 1024, 1026, 33, 1027, 873] (by decide +kernel) (by decide +kernel)
theorem lin_X9_type : GoodIn lw_tbl wsX9_type := (goodIn_ca lir_X9_type lic_X9)
set_option maxRecDepth 100000 in
theorem liv_X9_type : GoodIn lw_tbl (wsV RL 42 RX9 yX9_type wsX9_type) := goodIn_app (goodIn_r _ [1053, 1054, 1055, 70] (by decide +kernel) (by decide +kernel)) lin_X9_type
set_option maxRecDepth 100000 in
theorem lir_X8_clear : GoodIn lw_tbl (.code yX8_clear cX8_clear 2 (some .int) :: [.fieldLink RX8 124 "NoneWithin" "bytes" "I"]) := goodIn_r _ [395, 310] (by decide +kernel) (by decide +kernel)
theorem lin_X8_clear : GoodIn lw_tbl wsX8_clear := (goodIn_ca lir_X8_clear lic_X8)
set_option maxRecDepth 100000 in
theorem liv_X8_clear : GoodIn lw_tbl (wsV RL 43 RX8 yX8_clear wsX8_clear) := goodIn_app (goodIn_r _ [392, 393, 394, 61] (by decide +kernel) (by decide +kernel)) lin_X8_clear
set_option maxRecDepth 100000 in
theorem lir_X9_clear : GoodIn lw_tbl (.code yX9_clear cX9_clear 2 (some .int) :: [.fieldLink RX9 117 "NoneWithinModel" "size" "I"]) := goodIn_r _ [1061, 869] (by decide +kernel) (by decide +kernel)
theorem lin_X9_clear : GoodIn lw_tbl wsX9_clear := (goodIn_ca lir_X9_clear lic_X9)
set_option maxRecDepth 100000 in
theorem liv_X9_clear : GoodIn lw_tbl (wsV RL 46 RX9 yX9_clear wsX9_clear) := goodIn_app (goodIn_r _ [1058, 1059, 1060, 70] (by decide +kernel) (by decide +kernel)) lin_X9_clear
set_option maxRecDepth 100000 in
theorem lir_X8_read : GoodIn lw_tbl (.code yX8_read cX8_read 2 (some .int) :: (wsX8_read_r1 ++ (wsX8_read_r2 ++ (wsX8_read_r3 ++ (wsX8_read_r4 ++ (wsX8_read_r5 ++ (wsX8_read_r6 ++ wsX8_read_r7))))))) := goodIn_r _ [399, 302, 310, 297, 150, 104, 400, 401, 402, 64, 403, 151, 404, 405, 71, 406, 152, 155, 154, 153, 407, 409, 2, 410, 149, 411, 413, 3, 414, 415, 416, 417, 354, 61, 355, 420, 422, 4, 423, 424, 425, 426, 72, 427, 1300, 428, 429, 430, 431, 432, 1301, 434, 435, 436, 437, 438, 439, 440, 441, 442, 443, 73, 444, 445, 446, 447, 448, 450, 451, 74, 452, 453, 454, 75, 455, 456, 457, 458, 459, 460, 461, 462, 463, 464, 465, 466, 468, 470, 472, 474, 5, 475, 476, 478, 6, 479, 480, 481, 482, 62, 483, 94, 97, 100, 103, 484, 486, 7, 487, 488, 490, 8, 491, 105, 493, 495, 9, 496, 99, 102, 498, 500, 10, 501, 502, 504, 11, 505, 96, 506, 373, 374, 375, 106, 507, 377, 378, 379, 108, 508, 509, 510, 511, 512, 514, 513, 76] (by decide +kernel) (by decide +kernel)
theorem lin_X8_read : GoodIn lw_tbl wsX8_read := (goodIn_ca (goodIn_ca (goodIn_ca lir_X8_read lic_X8) lic_X7) lic_X6)
set_option maxRecDepth 100000 in
theorem liv_X8_read : GoodIn lw_tbl (wsV RL 47 RX8 yX8_read wsX8_read) := goodIn_app (goodIn_r _ [396, 397, 398, 61] (by decide +kernel) (by decide +kernel)) lin_X8_read
set_option maxRecDepth 100000 in
theorem lir_X9_read : GoodIn lw_tbl (.code yX9_read cX9_read 2 (some .int) :: (wsX9_read_r1 ++ (wsX9_read_r2 ++ wsX9_read_r3))) := goodIn_r _ [1065, 875, 878, 861, 879, 862, 880, 863, 881, 864, 865, 882, 866, 883, 1066, 1068, 36, 70, 1069, 874, 876, 877, 1086, 1095, 1100, 1070, 1072, 37, 1073, 869, 868, 1080, 1081, 1082, 1083, 1084, 1085, 1074, 1075, 1076, 1077, 1078, 1079, 1087, 1089, 38, 1090, 1021, 1022, 1023, 1091, 1093, 39, 1094, 1096, 1098, 40, 1099, 1101, 1103, 41, 1104, 1105, 1107, 42, 1108] (by decide +kernel) (by decide +kernel)
theorem lin_X9_read : GoodIn lw_tbl wsX9_read := (goodIn_ca lir_X9_read lic_X9)
set_option maxRecDepth 100000 in
theorem liv_X9_read : GoodIn lw_tbl (wsV RL 50 RX9 yX9_read wsX9_read) := goodIn_app (goodIn_r _ [1062, 1063, 1064, 70] (by decide +kernel) (by decide +kernel)) lin_X9_read
