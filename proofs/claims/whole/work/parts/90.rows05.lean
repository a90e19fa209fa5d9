set_option maxRecDepth 20000 in
theorem ggL_law_X8_mends : GoodIn wsL_law wsX8_mends := goodIn_r _ [460, 20, 15, 28, 127, 235, 448, 134, 135, 136, 19, 137, 59, 138, 139, 140, 141, 142, 143, 144, 145, 146, 14, 147, 47, 148, 149, 86, 49, 150, 151, 152, 153, 87, 88, 89, 46, 90, 91, 92, 93, 94, 53, 95, 96, 97, 98, 99, 100, 101, 397, 398, 399, 27, 400, 401, 402, 403, 404, 405, 406, 407, 408, 409, 410, 411, 412, 413, 414, 415, 416, 417, 418, 419, 420, 421, 422, 2, 423, 424, 425, 273, 426, 266, 267, 268, 976, 977, 978, 979, 980, 981, 982, 983, 984, 985, 986, 1014, 1015, 1016, 1024, 1025, 1026, 1027, 1028, 1017, 1018, 1019, 1037, 1038, 1039, 1040, 1041] (by decide +kernel) (by decide +kernel)
set_option maxRecDepth 20000 in
theorem gL_law_X8_mends : GoodIn wsL_law (wsV RL 72 RX8 yX8_mends wsX8_mends) := goodIn_app (goodIn_of _ (by decide +kernel)) ggL_law_X8_mends
set_option maxRecDepth 20000 in
theorem ggL_law_X9_mends : GoodIn wsL_law wsX9_mends := goodIn_r _ [464, 170, 171, 172, 5, 173, 174, 111, 110, 465, 466, 467, 468, 439, 432, 433, 434, 435, 431, 436, 437, 438, 113, 293, 294, 295, 296, 179, 180, 181, 182, 183, 184, 185, 186, 187, 188, 189, 190, 191, 192, 193, 194, 195, 196, 197, 198, 199, 200, 201, 202, 440, 441, 442, 443, 289, 290, 291, 292, 282, 283, 284, 285, 286, 287, 288, 987, 988, 989, 990, 991, 992, 993, 994, 995, 996, 997, 998, 999, 1000, 1001, 1002, 1003, 1004, 1005, 1006, 1007, 1008, 1009, 1010, 1011, 1012, 1013] (by decide +kernel) (by decide +kernel)
set_option maxRecDepth 20000 in
theorem gL_law_X9_mends : GoodIn wsL_law (wsV RL 75 RX9 yX9_mends wsX9_mends) := goodIn_app (goodIn_of _ (by decide +kernel)) ggL_law_X9_mends
set_option maxRecDepth 20000 in
theorem ggL_law_X8_sign : GoodIn wsL_law wsX8_sign := goodIn_r _ [472, 15, 127, 301, 302, 303, 46, 304, 93, 473, 474, 475, 2, 476, 209, 477, 424, 425, 273, 96, 97, 98, 99, 100, 101, 305, 306, 307, 14, 308, 86, 129, 130, 131, 132, 133, 976, 977, 978, 979, 980, 981, 982, 983, 984, 985, 986, 1014, 1015, 1016, 1037, 1038, 1039, 1040, 1041] (by decide +kernel) (by decide +kernel)
set_option maxRecDepth 20000 in
theorem gL_law_X8_sign : GoodIn wsL_law (wsV RL 76 RX8 yX8_sign wsX8_sign) := goodIn_app (goodIn_of _ (by decide +kernel)) ggL_law_X8_sign
set_option maxRecDepth 20000 in
theorem ggL_law_X9_sign : GoodIn wsL_law wsX9_sign := goodIn_r _ [481, 313, 314, 315, 5, 316, 192, 193, 194, 195, 196, 197, 198, 199, 110, 163, 164, 165, 482, 483, 484, 485, 293, 294, 295, 296, 200, 201, 202, 166, 167, 168, 169, 112, 987, 988, 989, 990, 991, 992, 993, 994, 995, 996, 997, 998, 999, 1000, 1001, 1002, 1003, 1004, 1005, 1006, 1007, 1008, 1009, 1010, 1011, 1012, 1013] (by decide +kernel) (by decide +kernel)
set_option maxRecDepth 20000 in
theorem gL_law_X9_sign : GoodIn wsL_law (wsV RL 79 RX9 yX9_sign wsX9_sign) := goodIn_app (goodIn_of _ (by decide +kernel)) ggL_law_X9_sign
set_option maxRecDepth 20000 in
theorem ggL_law_X8_best : GoodIn wsL_law wsX8_best := goodIn_r _ [489, 15, 127, 209, 490, 420, 142, 421, 129, 130, 131, 2, 132, 133, 473, 474, 475, 476, 477, 424, 425, 273, 96, 97, 98, 99, 100, 101, 305, 306, 307, 14, 308, 86, 976, 977, 978, 979, 980, 981, 982, 983, 984, 985, 986, 1014, 1015, 1016, 1037, 1038, 1039, 1040, 1041] (by decide +kernel) (by decide +kernel)
set_option maxRecDepth 20000 in
theorem gL_law_X8_best : GoodIn wsL_law (wsV RL 80 RX8 yX8_best wsX8_best) := goodIn_app (goodIn_of _ (by decide +kernel)) ggL_law_X8_best
set_option maxRecDepth 20000 in
theorem ggL_law_X9_best : GoodIn wsL_law wsX9_best := goodIn_r _ [494, 495, 163, 164, 5, 165, 166, 167, 168, 169, 112, 192, 193, 194, 195, 196, 197, 198, 199, 110, 482, 483, 484, 485, 293, 294, 295, 296, 200, 201, 202, 496, 497, 498, 987, 988, 989, 990, 991, 992, 993, 994, 995, 996, 997, 998, 999, 1000, 1001, 1002, 1003, 1004, 1005, 1006, 1007, 1008, 1009, 1010, 1011, 1012, 1013] (by decide +kernel) (by decide +kernel)
set_option maxRecDepth 20000 in
theorem gL_law_X9_best : GoodIn wsL_law (wsV RL 83 RX9 yX9_best wsX9_best) := goodIn_app (goodIn_of _ (by decide +kernel)) ggL_law_X9_best
