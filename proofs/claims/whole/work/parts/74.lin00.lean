set_option maxRecDepth 100000 in
theorem lic_X0 : GoodIn lw_tbl wsX00 := goodIn_r _ [136, 138] (by decide +kernel) (by decide +kernel)
set_option maxRecDepth 100000 in
theorem lic_X1 : GoodIn lw_tbl wsX10 := goodIn_r _ [290, 292, 294] (by decide +kernel) (by decide +kernel)
set_option maxRecDepth 100000 in
theorem lic_X2 : GoodIn lw_tbl wsX20 := goodIn_r _ [216, 218, 220, 222] (by decide +kernel) (by decide +kernel)
set_option maxRecDepth 100000 in
theorem lic_X3 : GoodIn lw_tbl wsX30 := goodIn_r _ [189, 191, 193, 195, 197, 199, 201, 203] (by decide +kernel) (by decide +kernel)
set_option maxRecDepth 100000 in
theorem lic_X4 : GoodIn lw_tbl wsX40 := goodIn_r _ [240, 242, 244, 246, 248] (by decide +kernel) (by decide +kernel)
set_option maxRecDepth 100000 in
theorem lic_X5 : GoodIn lw_tbl wsX50 := goodIn_r _ [263, 265, 267, 269, 271, 273] (by decide +kernel) (by decide +kernel)
set_option maxRecDepth 100000 in
theorem lic_X6 : GoodIn lw_tbl wsX60 := goodIn_r _ [110, 112, 114, 116, 118, 120] (by decide +kernel) (by decide +kernel)
set_option maxRecDepth 100000 in
theorem lic_X7 : GoodIn lw_tbl wsX70 := goodIn_r _ [156, 158, 160, 162, 164, 166] (by decide +kernel) (by decide +kernel)
set_option maxRecDepth 100000 in
theorem lic_X8 : GoodIn lw_tbl wsX80 := goodIn_r _ [314, 316, 318, 320, 322, 324, 326, 328, 330, 332, 334, 336, 338, 340, 342, 344, 346] (by decide +kernel) (by decide +kernel)
set_option maxRecDepth 100000 in
theorem lic_X9 : GoodIn lw_tbl wsX90 := goodIn_r _ [912, 914, 916, 918, 920, 922, 924, 926, 928, 930, 932, 934, 936, 938, 940, 942, 944, 946, 948, 950, 952, 954, 956, 958, 960, 962, 964, 966, 968, 970, 972, 974, 976, 978, 980, 982, 984, 986, 988, 990, 992, 994, 996, 998, 1000, 1002, 1004, 1006, 1008, 1010, 1012] (by decide +kernel) (by decide +kernel)
set_option maxRecDepth 100000 in
theorem lir_X8_init : GoodIn lw_tbl (.code yX8_init cX8_init 2 none :: (wsX8_init_r1 ++ (wsX8_init_r2 ++ (wsX8_init_r3 ++ (wsX8_init_r4 ++ wsX8_init_r5))))) := goodIn_r _ [84, 85, 86, 87, 88, 89, 62, 297, 123, 298, 124, 299, 300, 126, 127, 63, 301, 141, 142, 64, 302, 169, 170, 65, 303, 206, 207, 66, 304, 225, 226, 67, 305, 251, 252, 68, 306, 307, 308, 276, 309, 277, 69, 90, 91, 92, 93, 94, 97, 100, 103, 106, 108, 128, 129, 130, 131, 132, 134, 143, 144, 145, 146, 147, 149, 152, 153, 154, 155, 151, 148, 171, 172, 173, 174, 175, 178, 182, 184, 185, 186, 187, 188, 208, 209, 210, 211, 212, 214, 215, 213, 227, 228, 229, 230, 231, 233, 235, 237, 239, 253, 254, 255, 256, 257, 258, 259, 261, 262, 260, 278, 279, 280, 281, 284, 282, 286, 288, 283] (by decide +kernel) (by decide +kernel)
theorem lin_X8_init : GoodIn lw_tbl wsX8_init := (goodIn_ca (goodIn_ca (goodIn_ca (goodIn_ca (goodIn_ca (goodIn_ca (goodIn_ca (goodIn_ca (goodIn_ca lir_X8_init lic_X6) lic_X8) lic_X0) lic_X7) lic_X3) lic_X2) lic_X4) lic_X5) lic_X1)
set_option maxRecDepth 100000 in
theorem lir_X9_init : GoodIn lw_tbl (.code yX9_init cX9_init 1 none :: (wsX9_init_r1 ++ wsX9_init_r2)) := goodIn_r _ [858, 859, 86, 87, 861, 863, 123, 865, 866, 867, 868, 871, 872, 873, 882, 883, 276, 885, 888, 889, 898, 899, 900, 901, 905, 860, 906, 907, 1015, 908, 909, 910, 911] (by decide +kernel) (by decide +kernel)
theorem lin_X9_init : GoodIn lw_tbl wsX9_init := (goodIn_ca lir_X9_init lic_X9)
set_option maxRecDepth 100000 in
theorem lir_X8_sorts : GoodIn lw_tbl (.code yX8_sorts cX8_sorts 3 (some .int) :: [.fieldLink RX8 12 "NoneWithin" "shop" "LNoneWithin$Shop;", .fieldLink RX8 94 "NoneWithin$Shop" "n" "I", .fieldLink RX8 98 "NoneWithin$Shop" "boxes" "I", .methodLink RX8 86 yX8_between, .static yX8_between, .initialized RX8, .code yX8_between cX8_between 3 (some .boolean), .methodLink RX8 90 yX8_refuse, .instanceMethod yX8_refuse, .selects RX8 yX8_refuse yX8_refuse, .code yX8_refuse cX8_refuse 3 (some .int), .fieldLink RX8 252 "NoneWithin" "badCalls" "I", .fieldLink RX8 255 "NoneWithin" "noCalls" "I", .fieldLink RX8 258 "NoneWithin" "fullCalls" "I"]) := goodIn_r _ [352, 297, 95, 104, 353, 354, 61, 355, 356, 358, 0, 359, 311, 312, 313] (by decide +kernel) (by decide +kernel)
theorem lin_X8_sorts : GoodIn lw_tbl wsX8_sorts := (goodIn_ca (goodIn_ca lir_X8_sorts lic_X8) lic_X6)
set_option maxRecDepth 100000 in
theorem liv_X8_sorts : GoodIn lw_tbl (wsV RL 13 RX8 yX8_sorts wsX8_sorts) := goodIn_app (goodIn_r _ [349, 350, 351, 61] (by decide +kernel) (by decide +kernel)) lin_X8_sorts
set_option maxRecDepth 100000 in
theorem lir_X9_sorts : GoodIn lw_tbl (.code yX9_sorts cX9_sorts 3 (some .int) :: [.constantLong RX9 96 (8), .fieldLink RX9 7 "NoneWithinModel" "n" "I", .fieldLink RX9 102 "NoneWithinModel" "boxes" "I", .methodLink RX9 92 yX9_in, .static yX9_in, .initialized RX9, .code yX9_in cX9_in 6 (some .boolean), .methodLink RX9 98 yX9_refuse, .instanceMethod yX9_refuse, .selects RX9 yX9_refuse yX9_refuse, .code yX9_refuse cX9_refuse 2 (some .int), .fieldLink RX9 36 "NoneWithinModel" "refused" "[I"]) := goodIn_r _ [1019, 1020, 861, 864, 1021, 1022, 70, 1023, 1024, 1026, 33, 1027, 873] (by decide +kernel) (by decide +kernel)
theorem lin_X9_sorts : GoodIn lw_tbl wsX9_sorts := (goodIn_ca lir_X9_sorts lic_X9)
set_option maxRecDepth 100000 in
theorem liv_X9_sorts : GoodIn lw_tbl (wsV RL 17 RX9 yX9_sorts wsX9_sorts) := goodIn_app (goodIn_r _ [1016, 1017, 1018, 70] (by decide +kernel) (by decide +kernel)) lin_X9_sorts
set_option maxRecDepth 100000 in
theorem lir_X8_sizes : GoodIn lw_tbl (.code yX8_sizes cX8_sizes 3 (some .int) :: [.fieldLink RX8 12 "NoneWithin" "shop" "LNoneWithin$Shop;", .fieldLink RX8 101 "NoneWithin$Shop" "low" "I", .fieldLink RX8 104 "NoneWithin$Shop" "high" "I", .methodLink RX8 86 yX8_between, .static yX8_between, .initialized RX8, .code yX8_between cX8_between 3 (some .boolean), .methodLink RX8 90 yX8_refuse, .instanceMethod yX8_refuse, .selects RX8 yX8_refuse yX8_refuse, .code yX8_refuse cX8_refuse 3 (some .int), .fieldLink RX8 252 "NoneWithin" "badCalls" "I", .fieldLink RX8 255 "NoneWithin" "noCalls" "I", .fieldLink RX8 258 "NoneWithin" "fullCalls" "I"]) := goodIn_r _ [363, 297, 98, 101, 353, 354, 61, 355, 356, 358, 0, 359, 311, 312, 313] (by decide +kernel) (by decide +kernel)
theorem lin_X8_sizes : GoodIn lw_tbl wsX8_sizes := (goodIn_ca (goodIn_ca lir_X8_sizes lic_X8) lic_X6)
set_option maxRecDepth 100000 in
theorem liv_X8_sizes : GoodIn lw_tbl (wsV RL 18 RX8 yX8_sizes wsX8_sizes) := goodIn_app (goodIn_r _ [360, 361, 362, 61] (by decide +kernel) (by decide +kernel)) lin_X8_sizes
set_option maxRecDepth 100000 in
theorem lir_X9_sizes : GoodIn lw_tbl (.code yX9_sizes cX9_sizes 3 (some .int) :: [.constantLong RX9 96 (8), .fieldLink RX9 105 "NoneWithinModel" "low" "I", .fieldLink RX9 13 "NoneWithinModel" "high" "I", .methodLink RX9 92 yX9_in, .static yX9_in, .initialized RX9, .code yX9_in cX9_in 6 (some .boolean), .methodLink RX9 98 yX9_refuse, .instanceMethod yX9_refuse, .selects RX9 yX9_refuse yX9_refuse, .code yX9_refuse cX9_refuse 2 (some .int), .fieldLink RX9 36 "NoneWithinModel" "refused" "[I"]) := goodIn_r _ [1031, 1020, 862, 863, 1021, 1022, 70, 1023, 1024, 1026, 33, 1027, 873] (by decide +kernel) (by decide +kernel)
theorem lin_X9_sizes : GoodIn lw_tbl wsX9_sizes := (goodIn_ca lir_X9_sizes lic_X9)
set_option maxRecDepth 100000 in
theorem liv_X9_sizes : GoodIn lw_tbl (wsV RL 22 RX9 yX9_sizes wsX9_sizes) := goodIn_app (goodIn_r _ [1028, 1029, 1030, 70] (by decide +kernel) (by decide +kernel)) lin_X9_sizes
set_option maxRecDepth 100000 in
theorem lir_X8_box : GoodIn lw_tbl (.code yX8_box cX8_box 3 (some .int) :: (wsX8_box_r1 ++ wsX8_box_r2)) := goodIn_r _ [367, 297, 104, 368, 370, 1, 61, 371, 95, 353, 354, 355, 372, 373, 374, 62, 375, 103, 106, 356, 358, 0, 359, 311, 312, 313, 376, 377, 378, 379, 108] (by decide +kernel) (by decide +kernel)
theorem lin_X8_box : GoodIn lw_tbl wsX8_box := (goodIn_ca (goodIn_ca lir_X8_box lic_X8) lic_X6)
set_option maxRecDepth 100000 in
theorem liv_X8_box : GoodIn lw_tbl (wsV RL 23 RX8 yX8_box wsX8_box) := goodIn_app (goodIn_r _ [364, 365, 366, 61] (by decide +kernel) (by decide +kernel)) lin_X8_box
set_option maxRecDepth 100000 in
theorem lir_X9_box : GoodIn lw_tbl (.code yX9_box cX9_box 3 (some .int) :: [.constantLong RX9 112 (99), .fieldLink RX9 102 "NoneWithinModel" "boxes" "I", .fieldLink RX9 16 "NoneWithinModel" "box" "[I", .fieldLink RX9 20 "NoneWithinModel" "worth" "[I", .methodLink RX9 108 yX9_isBox, .instanceMethod yX9_isBox, .selects RX9 yX9_isBox yX9_isBox, .initialized RX9, .code yX9_isBox cX9_isBox 2 (some .boolean), .fieldLink RX9 7 "NoneWithinModel" "n" "I", .methodLink RX9 92 yX9_in, .static yX9_in, .code yX9_in cX9_in 6 (some .boolean), .methodLink RX9 114 yX9_numberOf, .instanceMethod yX9_numberOf, .selects RX9 yX9_numberOf yX9_numberOf, .code yX9_numberOf cX9_numberOf 3 (some .int), .methodLink RX9 98 yX9_refuse, .instanceMethod yX9_refuse, .selects RX9 yX9_refuse yX9_refuse, .code yX9_refuse cX9_refuse 2 (some .int), .fieldLink RX9 36 "NoneWithinModel" "refused" "[I"]) := goodIn_r _ [1035, 1040, 864, 865, 866, 1036, 1038, 34, 70, 1039, 861, 1021, 1022, 1023, 1041, 1043, 35, 1044, 1024, 1026, 33, 1027, 873] (by decide +kernel) (by decide +kernel)
theorem lin_X9_box : GoodIn lw_tbl wsX9_box := (goodIn_ca lir_X9_box lic_X9)
set_option maxRecDepth 100000 in
theorem liv_X9_box : GoodIn lw_tbl (wsV RL 26 RX9 yX9_box wsX9_box) := goodIn_app (goodIn_r _ [1032, 1033, 1034, 70] (by decide +kernel) (by decide +kernel)) lin_X9_box
set_option maxRecDepth 100000 in
theorem lir_X8_pop : GoodIn lw_tbl (.code yX8_pop cX8_pop 1 (some .int) :: [.fieldLink RX8 12 "NoneWithin" "shop" "LNoneWithin$Shop;", .fieldLink RX8 98 "NoneWithin$Shop" "boxes" "I", .fieldLink RX8 118 "NoneWithin$Shop" "sets" "[I", .methodLink RX8 90 yX8_refuse, .instanceMethod yX8_refuse, .selects RX8 yX8_refuse yX8_refuse, .initialized RX8, .code yX8_refuse cX8_refuse 3 (some .int), .fieldLink RX8 252 "NoneWithin" "badCalls" "I", .fieldLink RX8 255 "NoneWithin" "noCalls" "I", .fieldLink RX8 258 "NoneWithin" "fullCalls" "I"]) := goodIn_r _ [383, 297, 104, 107, 356, 358, 0, 61, 359, 311, 312, 313] (by decide +kernel) (by decide +kernel)
theorem lin_X8_pop : GoodIn lw_tbl wsX8_pop := (goodIn_ca (goodIn_ca lir_X8_pop lic_X8) lic_X6)
set_option maxRecDepth 100000 in
theorem liv_X8_pop : GoodIn lw_tbl (wsV RL 27 RX8 yX8_pop wsX8_pop) := goodIn_app (goodIn_r _ [380, 381, 382, 61] (by decide +kernel) (by decide +kernel)) lin_X8_pop
set_option maxRecDepth 100000 in
theorem lir_X9_pop : GoodIn lw_tbl (.code yX9_pop cX9_pop 1 (some .int) :: [.fieldLink RX9 102 "NoneWithinModel" "boxes" "I", .fieldLink RX9 16 "NoneWithinModel" "box" "[I", .methodLink RX9 98 yX9_refuse, .instanceMethod yX9_refuse, .selects RX9 yX9_refuse yX9_refuse, .initialized RX9, .code yX9_refuse cX9_refuse 2 (some .int), .fieldLink RX9 36 "NoneWithinModel" "refused" "[I"]) := goodIn_r _ [1048, 864, 865, 1024, 1026, 33, 70, 1027, 873] (by decide +kernel) (by decide +kernel)
theorem lin_X9_pop : GoodIn lw_tbl wsX9_pop := (goodIn_ca lir_X9_pop lic_X9)
set_option maxRecDepth 100000 in
theorem liv_X9_pop : GoodIn lw_tbl (wsV RL 31 RX9 yX9_pop wsX9_pop) := goodIn_app (goodIn_r _ [1045, 1046, 1047, 70] (by decide +kernel) (by decide +kernel)) lin_X9_pop
