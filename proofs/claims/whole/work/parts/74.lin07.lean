set_option maxRecDepth 100000 in
theorem lir_X9_greatest : GoodIn lw_tbl (.code yX9_greatest cX9_greatest 2 (some .long) :: [.constantLong RX9 320 (60), .methodLink RX9 92 yX9_in, .static yX9_in, .initialized RX9, .code yX9_in cX9_in 6 (some .boolean), .methodLink RX9 226 yX9_chosen, .instanceMethod yX9_chosen, .selects RX9 yX9_chosen yX9_chosen, .code yX9_chosen cX9_chosen 5 (some .long), .fieldLink RX9 45 "NoneWithinModel" "triangle" "[J", .methodLink RX9 98 yX9_refuse, .instanceMethod yX9_refuse, .selects RX9 yX9_refuse yX9_refuse, .code yX9_refuse cX9_refuse 2 (some .int), .fieldLink RX9 36 "NoneWithinModel" "refused" "[I"]) := goodIn_r _ [1242, 1243, 1021, 1022, 70, 1023, 1141, 1143, 45, 1144, 885, 1024, 1026, 33, 1027, 873] (by decide +kernel) (by decide +kernel)
theorem lin_X9_greatest : GoodIn lw_tbl wsX9_greatest := (goodIn_ca lir_X9_greatest lic_X9)
set_option maxRecDepth 100000 in
theorem liv_X9_greatest : GoodIn lw_tbl (wsV RL 100 RX9 yX9_greatest wsX9_greatest) := goodIn_app (goodIn_r _ [1239, 1240, 1241, 70] (by decide +kernel) (by decide +kernel)) lin_X9_greatest
set_option maxRecDepth 100000 in
theorem lir_X8_shared : GoodIn lw_tbl (.code yX8_shared cX8_shared 3 (some .long) :: [.methodLink RX8 86 yX8_between, .static yX8_between, .initialized RX8, .code yX8_between cX8_between 3 (some .boolean), .methodLink RX8 90 yX8_refuse, .instanceMethod yX8_refuse, .selects RX8 yX8_refuse yX8_refuse, .code yX8_refuse cX8_refuse 3 (some .int), .fieldLink RX8 252 "NoneWithin" "badCalls" "I", .fieldLink RX8 255 "NoneWithin" "noCalls" "I", .fieldLink RX8 258 "NoneWithin" "fullCalls" "I", .methodLink RX8 156 yX8_choose, .static yX8_choose, .code yX8_choose cX8_choose 5 (some .long)]) := goodIn_r _ [807, 353, 354, 61, 355, 356, 358, 0, 359, 311, 312, 313, 586, 587, 588] (by decide +kernel) (by decide +kernel)
theorem lin_X8_shared : GoodIn lw_tbl wsX8_shared := (goodIn_ca lir_X8_shared lic_X8)
set_option maxRecDepth 100000 in
theorem liv_X8_shared : GoodIn lw_tbl (wsV RL 101 RX8 yX8_shared wsX8_shared) := goodIn_app (goodIn_r _ [804, 805, 806, 61] (by decide +kernel) (by decide +kernel)) lin_X8_shared
set_option maxRecDepth 100000 in
theorem lir_X9_shared : GoodIn lw_tbl (.code yX9_shared cX9_shared 3 (some .long) :: [.constantLong RX9 322 (30), .constantLong RX9 324 (2), .constantLong RX9 320 (60), .methodLink RX9 92 yX9_in, .static yX9_in, .initialized RX9, .code yX9_in cX9_in 6 (some .boolean), .methodLink RX9 226 yX9_chosen, .instanceMethod yX9_chosen, .selects RX9 yX9_chosen yX9_chosen, .code yX9_chosen cX9_chosen 5 (some .long), .fieldLink RX9 45 "NoneWithinModel" "triangle" "[J", .methodLink RX9 98 yX9_refuse, .instanceMethod yX9_refuse, .selects RX9 yX9_refuse yX9_refuse, .code yX9_refuse cX9_refuse 2 (some .int), .fieldLink RX9 36 "NoneWithinModel" "refused" "[I"]) := goodIn_r _ [1247, 1248, 1249, 1243, 1021, 1022, 70, 1023, 1141, 1143, 45, 1144, 885, 1024, 1026, 33, 1027, 873] (by decide +kernel) (by decide +kernel)
theorem lin_X9_shared : GoodIn lw_tbl wsX9_shared := (goodIn_ca lir_X9_shared lic_X9)
set_option maxRecDepth 100000 in
theorem liv_X9_shared : GoodIn lw_tbl (wsV RL 105 RX9 yX9_shared wsX9_shared) := goodIn_app (goodIn_r _ [1244, 1245, 1246, 70] (by decide +kernel) (by decide +kernel)) lin_X9_shared
set_option maxRecDepth 100000 in
theorem lir_X8_several : GoodIn lw_tbl (.code yX8_several cX8_several 4 (some .int) :: [.fieldLink RX8 16 "NoneWithin" "alike" "[I", .methodLink RX8 86 yX8_between, .static yX8_between, .initialized RX8, .code yX8_between cX8_between 3 (some .boolean), .methodLink RX8 90 yX8_refuse, .instanceMethod yX8_refuse, .selects RX8 yX8_refuse yX8_refuse, .code yX8_refuse cX8_refuse 3 (some .int), .fieldLink RX8 252 "NoneWithin" "badCalls" "I", .fieldLink RX8 255 "NoneWithin" "noCalls" "I", .fieldLink RX8 258 "NoneWithin" "fullCalls" "I"]) := goodIn_r _ [811, 298, 353, 354, 61, 355, 356, 358, 0, 359, 311, 312, 313] (by decide +kernel) (by decide +kernel)
theorem lin_X8_several : GoodIn lw_tbl wsX8_several := (goodIn_ca lir_X8_several lic_X8)
set_option maxRecDepth 100000 in
theorem liv_X8_several : GoodIn lw_tbl (wsV RL 106 RX8 yX8_several wsX8_several) := goodIn_app (goodIn_r _ [808, 809, 810, 61] (by decide +kernel) (by decide +kernel)) lin_X8_several
set_option maxRecDepth 100000 in
theorem lir_X9_several : GoodIn lw_tbl (.code yX9_several cX9_several 4 (some .int) :: [.constantLong RX9 326 (7), .constantLong RX9 328 (9), .fieldLink RX9 23 "NoneWithinModel" "alike" "[I", .methodLink RX9 92 yX9_in, .static yX9_in, .initialized RX9, .code yX9_in cX9_in 6 (some .boolean), .methodLink RX9 98 yX9_refuse, .instanceMethod yX9_refuse, .selects RX9 yX9_refuse yX9_refuse, .code yX9_refuse cX9_refuse 2 (some .int), .fieldLink RX9 36 "NoneWithinModel" "refused" "[I"]) := goodIn_r _ [1253, 1254, 1255, 867, 1021, 1022, 70, 1023, 1024, 1026, 33, 1027, 873] (by decide +kernel) (by decide +kernel)
theorem lin_X9_several : GoodIn lw_tbl wsX9_several := (goodIn_ca lir_X9_several lic_X9)
set_option maxRecDepth 100000 in
theorem liv_X9_several : GoodIn lw_tbl (wsV RL 109 RX9 yX9_several wsX9_several) := goodIn_app (goodIn_r _ [1250, 1251, 1252, 70] (by decide +kernel) (by decide +kernel)) lin_X9_several
set_option maxRecDepth 100000 in
theorem lir_X8_things : GoodIn lw_tbl (.code yX8_things cX8_things 2 (some .long) :: (wsX8_things_r1 ++ wsX8_things_r2)) := goodIn_r _ [815, 309, 353, 354, 61, 355, 356, 358, 0, 359, 311, 312, 313, 816, 818, 32, 819, 298, 821, 405, 71, 406, 820, 771, 79, 772] (by decide +kernel) (by decide +kernel)
theorem lin_X8_things : GoodIn lw_tbl wsX8_things := (goodIn_ca lir_X8_things lic_X8)
set_option maxRecDepth 100000 in
theorem liv_X8_things : GoodIn lw_tbl (wsV RL 110 RX8 yX8_things wsX8_things) := goodIn_app (goodIn_r _ [812, 813, 814, 61] (by decide +kernel) (by decide +kernel)) lin_X8_things
set_option maxRecDepth 100000 in
theorem lir_X9_things : GoodIn lw_tbl (.code yX9_things cX9_things 3 (some .long) :: [.constantLong RX9 330 (72), .fieldLink RX9 87 "NoneWithinModel" "ways" "[J", .methodLink RX9 92 yX9_in, .static yX9_in, .initialized RX9, .code yX9_in cX9_in 6 (some .boolean), .methodLink RX9 98 yX9_refuse, .instanceMethod yX9_refuse, .selects RX9 yX9_refuse yX9_refuse, .code yX9_refuse cX9_refuse 2 (some .int), .fieldLink RX9 36 "NoneWithinModel" "refused" "[I", .methodLink RX9 332 yX9_spread, .instanceMethod yX9_spread, .selects RX9 yX9_spread yX9_spread, .code yX9_spread cX9_spread 5 (some .int), .fieldLink RX9 23 "NoneWithinModel" "alike" "[I"]) := goodIn_r _ [1259, 1260, 911, 1021, 1022, 70, 1023, 1024, 1026, 33, 1027, 873, 1261, 1263, 58, 1264, 867] (by decide +kernel) (by decide +kernel)
theorem lin_X9_things : GoodIn lw_tbl wsX9_things := (goodIn_ca lir_X9_things lic_X9)
set_option maxRecDepth 100000 in
theorem liv_X9_things : GoodIn lw_tbl (wsV RL 113 RX9 yX9_things wsX9_things) := goodIn_app (goodIn_r _ [1256, 1257, 1258, 70] (by decide +kernel) (by decide +kernel)) lin_X9_things
set_option maxRecDepth 100000 in
theorem lir_X8_middle : GoodIn lw_tbl (.code yX8_middle cX8_middle 5 (some .int) :: (wsX8_middle_r1 ++ wsX8_middle_r2)) := goodIn_r _ [825, 309, 353, 354, 61, 355, 356, 358, 0, 359, 311, 312, 313, 816, 818, 32, 819, 298, 821, 405, 71, 406, 820, 771, 79, 772] (by decide +kernel) (by decide +kernel)
theorem lin_X8_middle : GoodIn lw_tbl wsX8_middle := (goodIn_ca lir_X8_middle lic_X8)
set_option maxRecDepth 100000 in
theorem liv_X8_middle : GoodIn lw_tbl (wsV RL 114 RX8 yX8_middle wsX8_middle) := goodIn_app (goodIn_r _ [822, 823, 824, 61] (by decide +kernel) (by decide +kernel)) lin_X8_middle
set_option maxRecDepth 100000 in
theorem lir_X9_middle : GoodIn lw_tbl (.code yX9_middle cX9_middle 5 (some .int) :: [.fieldLink RX9 87 "NoneWithinModel" "ways" "[J", .methodLink RX9 92 yX9_in, .static yX9_in, .initialized RX9, .code yX9_in cX9_in 6 (some .boolean), .methodLink RX9 98 yX9_refuse, .instanceMethod yX9_refuse, .selects RX9 yX9_refuse yX9_refuse, .code yX9_refuse cX9_refuse 2 (some .int), .fieldLink RX9 36 "NoneWithinModel" "refused" "[I", .methodLink RX9 332 yX9_spread, .instanceMethod yX9_spread, .selects RX9 yX9_spread yX9_spread, .code yX9_spread cX9_spread 5 (some .int), .fieldLink RX9 23 "NoneWithinModel" "alike" "[I"]) := goodIn_r _ [1268, 911, 1021, 1022, 70, 1023, 1024, 1026, 33, 1027, 873, 1261, 1263, 58, 1264, 867] (by decide +kernel) (by decide +kernel)
theorem lin_X9_middle : GoodIn lw_tbl wsX9_middle := (goodIn_ca lir_X9_middle lic_X9)
set_option maxRecDepth 100000 in
theorem liv_X9_middle : GoodIn lw_tbl (wsV RL 117 RX9 yX9_middle wsX9_middle) := goodIn_app (goodIn_r _ [1265, 1266, 1267, 70] (by decide +kernel) (by decide +kernel)) lin_X9_middle
set_option maxRecDepth 100000 in
theorem lir_X8_part : GoodIn lw_tbl (.code yX8_part cX8_part 2 (some .long) :: [.fieldLink RX8 32 "NoneWithin" "fraction" "LNoneWithin$Fraction;", .fieldLink RX8 233 "NoneWithin$Fraction" "above" "J", .fieldLink RX8 237 "NoneWithin$Fraction" "below" "J", .methodLink RX8 86 yX8_between, .static yX8_between, .initialized RX8, .code yX8_between cX8_between 3 (some .boolean), .methodLink RX8 90 yX8_refuse, .instanceMethod yX8_refuse, .selects RX8 yX8_refuse yX8_refuse, .code yX8_refuse cX8_refuse 3 (some .int), .fieldLink RX8 252 "NoneWithin" "badCalls" "I", .fieldLink RX8 255 "NoneWithin" "noCalls" "I", .fieldLink RX8 258 "NoneWithin" "fullCalls" "I"]) := goodIn_r _ [829, 301, 133, 135, 353, 354, 61, 355, 356, 358, 0, 359, 311, 312, 313] (by decide +kernel) (by decide +kernel)
theorem lin_X8_part : GoodIn lw_tbl wsX8_part := (goodIn_ca (goodIn_ca lir_X8_part lic_X8) lic_X0)
set_option maxRecDepth 100000 in
theorem liv_X8_part : GoodIn lw_tbl (wsV RL 118 RX8 yX8_part wsX8_part) := goodIn_app (goodIn_r _ [826, 827, 828, 61] (by decide +kernel) (by decide +kernel)) lin_X8_part
set_option maxRecDepth 100000 in
theorem lir_X9_part : GoodIn lw_tbl (.code yX9_part cX9_part 2 (some .long) :: [.fieldLink RX9 223 "NoneWithinModel" "above" "J", .fieldLink RX9 29 "NoneWithinModel" "below" "J", .methodLink RX9 98 yX9_refuse, .instanceMethod yX9_refuse, .selects RX9 yX9_refuse yX9_refuse, .initialized RX9, .code yX9_refuse cX9_refuse 2 (some .int), .fieldLink RX9 36 "NoneWithinModel" "refused" "[I"]) := goodIn_r _ [1272, 870, 871, 1024, 1026, 33, 70, 1027, 873] (by decide +kernel) (by decide +kernel)
theorem lin_X9_part : GoodIn lw_tbl wsX9_part := (goodIn_ca lir_X9_part lic_X9)
set_option maxRecDepth 100000 in
theorem liv_X9_part : GoodIn lw_tbl (wsV RL 121 RX9 yX9_part wsX9_part) := goodIn_app (goodIn_r _ [1269, 1270, 1271, 70] (by decide +kernel) (by decide +kernel)) lin_X9_part
set_option maxRecDepth 100000 in
theorem lir_X8_image : GoodIn lw_tbl (.code yX8_image cX8_image 3 (some .int) :: (wsX8_image_r1 ++ wsX8_image_r2)) := goodIn_r _ [833, 299, 285, 287, 297, 298, 289, 834, 514, 513, 76, 353, 354, 61, 355, 356, 358, 0, 359, 311, 312, 313, 508, 509, 510, 62, 511, 94, 97, 100, 103, 106, 512, 108] (by decide +kernel) (by decide +kernel)
theorem lin_X8_image : GoodIn lw_tbl wsX8_image := (goodIn_ca (goodIn_ca (goodIn_ca lir_X8_image lic_X8) lic_X1) lic_X6)
set_option maxRecDepth 100000 in
theorem liv_X8_image : GoodIn lw_tbl (wsV RL 122 RX8 yX8_image wsX8_image) := goodIn_app (goodIn_r _ [830, 831, 832, 61] (by decide +kernel) (by decide +kernel)) lin_X8_image
set_option maxRecDepth 100000 in
theorem lir_X9_image : GoodIn lw_tbl (.code yX9_image cX9_image 4 (some .int) :: [.fieldLink RX9 33 "NoneWithinModel" "images" "[I", .fieldLink RX9 7 "NoneWithinModel" "n" "I", .fieldLink RX9 105 "NoneWithinModel" "low" "I", .fieldLink RX9 13 "NoneWithinModel" "high" "I", .fieldLink RX9 102 "NoneWithinModel" "boxes" "I", .fieldLink RX9 16 "NoneWithinModel" "box" "[I", .fieldLink RX9 20 "NoneWithinModel" "worth" "[I", .fieldLink RX9 23 "NoneWithinModel" "alike" "[I", .methodLink RX9 92 yX9_in, .static yX9_in, .initialized RX9, .code yX9_in cX9_in 6 (some .boolean), .methodLink RX9 98 yX9_refuse, .instanceMethod yX9_refuse, .selects RX9 yX9_refuse yX9_refuse, .code yX9_refuse cX9_refuse 2 (some .int), .fieldLink RX9 36 "NoneWithinModel" "refused" "[I"]) := goodIn_r _ [1276, 872, 861, 862, 863, 864, 865, 866, 867, 1021, 1022, 70, 1023, 1024, 1026, 33, 1027, 873] (by decide +kernel) (by decide +kernel)
theorem lin_X9_image : GoodIn lw_tbl wsX9_image := (goodIn_ca lir_X9_image lic_X9)
set_option maxRecDepth 100000 in
theorem liv_X9_image : GoodIn lw_tbl (wsV RL 125 RX9 yX9_image wsX9_image) := goodIn_app (goodIn_r _ [1273, 1274, 1275, 70] (by decide +kernel) (by decide +kernel)) lin_X9_image
set_option maxRecDepth 100000 in
theorem lir_X8_from : GoodIn lw_tbl (.code yX8_from cX8_from 3 (some .int) :: (wsX8_from_r1 ++ wsX8_from_r2)) := goodIn_r _ [838, 299, 285, 297, 287, 289, 298, 834, 514, 513, 76, 353, 354, 61, 355, 356, 358, 0, 359, 311, 312, 313, 508, 509, 510, 62, 511, 94, 97, 100, 103, 106, 512, 108] (by decide +kernel) (by decide +kernel)
theorem lin_X8_from : GoodIn lw_tbl wsX8_from := (goodIn_ca (goodIn_ca (goodIn_ca lir_X8_from lic_X8) lic_X1) lic_X6)
set_option maxRecDepth 100000 in
theorem liv_X8_from : GoodIn lw_tbl (wsV RL 126 RX8 yX8_from wsX8_from) := goodIn_app (goodIn_r _ [835, 836, 837, 61] (by decide +kernel) (by decide +kernel)) lin_X8_from
