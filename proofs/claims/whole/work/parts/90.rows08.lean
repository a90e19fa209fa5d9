set_option maxRecDepth 20000 in
theorem ggL_law_X8_weights : GoodIn wsL_law wsX8_weights := goodIn_r _ [691, 15, 127, 40, 129, 130, 131, 2, 132, 133, 505, 506, 507, 46, 508, 94, 509, 510, 511, 512, 513, 692, 693, 694, 39, 695, 519, 520, 523, 524, 525, 526, 527, 528, 141, 142, 143, 81, 529, 530, 531, 532, 53, 265, 266, 267, 268, 92, 533, 534, 535, 536, 537, 538, 97, 539, 540, 541, 96, 98, 99, 100, 101, 976, 977, 978, 979, 980, 981, 982, 983, 984, 985, 986, 1014, 1015, 1016, 1037, 1038, 1039, 1040, 1041, 1031, 1032, 1033, 1034, 1035, 1036] (by decide +kernel) (by decide +kernel)
set_option maxRecDepth 20000 in
theorem gL_law_X8_weights : GoodIn wsL_law (wsV RL 108 RX8 yX8_weights wsX8_weights) := goodIn_app (goodIn_of _ (by decide +kernel)) ggL_law_X8_weights
set_option maxRecDepth 20000 in
theorem ggL_law_X9_weights : GoodIn wsL_law wsX9_weights := goodIn_r _ [699, 700, 114, 163, 164, 5, 165, 166, 167, 168, 169, 112, 548, 549, 550, 551, 179, 180, 181, 182, 183, 184, 185, 186, 187, 110, 188, 189, 190, 191, 113, 192, 193, 194, 195, 196, 197, 198, 199, 200, 201, 202, 552, 553, 554, 555, 561, 562, 563, 564, 289, 290, 291, 292, 286, 287, 288, 987, 988, 989, 990, 991, 992, 993, 994, 995, 996, 997, 998, 999, 1000, 1001, 1002, 1003, 1004, 1005, 1006, 1007, 1008, 1009, 1010, 1011, 1012, 1013] (by decide +kernel) (by decide +kernel)
set_option maxRecDepth 20000 in
theorem gL_law_X9_weights : GoodIn wsL_law (wsV RL 111 RX9 yX9_weights wsX9_weights) := goodIn_app (goodIn_of _ (by decide +kernel)) ggL_law_X9_weights
set_option maxRecDepth 20000 in
theorem ggL_law_X8_perpendicular : GoodIn wsL_law wsX8_perpendicular := goodIn_r _ [704, 15, 127, 128, 235, 705, 530, 531, 46, 532, 53, 265, 266, 267, 268, 92, 477, 424, 2, 425, 273, 96, 97, 98, 99, 100, 101, 976, 977, 978, 979, 980, 981, 982, 983, 984, 985, 986, 1014, 1015, 1016, 1037, 1038, 1039, 1040, 1041] (by decide +kernel) (by decide +kernel)
set_option maxRecDepth 20000 in
theorem gL_law_X8_perpendicular : GoodIn wsL_law (wsV RL 112 RX8 yX8_perpendicular wsX8_perpendicular) := goodIn_app (goodIn_of _ (by decide +kernel)) ggL_law_X8_perpendicular
set_option maxRecDepth 20000 in
theorem ggL_law_X9_perpendicular : GoodIn wsL_law wsX9_perpendicular := goodIn_r _ [709, 113, 179, 180, 181, 5, 182, 183, 184, 185, 186, 187, 110, 188, 189, 190, 191, 192, 193, 194, 195, 196, 197, 198, 199, 200, 201, 202, 293, 294, 295, 296, 289, 290, 291, 292, 987, 988, 989, 990, 991, 992, 993, 994, 995, 996, 997, 998, 999, 1000, 1001, 1002, 1003, 1004, 1005, 1006, 1007, 1008, 1009, 1010, 1011, 1012, 1013] (by decide +kernel) (by decide +kernel)
set_option maxRecDepth 20000 in
theorem gL_law_X9_perpendicular : GoodIn wsL_law (wsV RL 115 RX9 yX9_perpendicular wsX9_perpendicular) := goodIn_app (goodIn_of _ (by decide +kernel)) ggL_law_X9_perpendicular
set_option maxRecDepth 20000 in
theorem ggL_law_X8_asked : GoodIn wsL_law wsX8_asked := goodIn_r _ [713, 15, 127, 207, 208, 209, 235, 301, 302, 303, 46, 304, 93, 129, 130, 131, 2, 132, 133, 509, 510, 511, 512, 513, 273, 96, 97, 98, 99, 100, 101, 714, 422, 423, 477, 424, 425, 976, 977, 978, 979, 980, 981, 982, 983, 984, 985, 986, 1014, 1015, 1016, 1037, 1038, 1039, 1040, 1041] (by decide +kernel) (by decide +kernel)
set_option maxRecDepth 20000 in
theorem gL_law_X8_asked : GoodIn wsL_law (wsV RL 116 RX8 yX8_asked wsX8_asked) := goodIn_app (goodIn_of _ (by decide +kernel)) ggL_law_X8_asked
set_option maxRecDepth 20000 in
theorem ggL_law_X9_asked : GoodIn wsL_law wsX9_asked := goodIn_r _ [718, 313, 314, 315, 5, 316, 192, 193, 194, 195, 196, 197, 198, 199, 110, 163, 164, 165, 166, 167, 168, 169, 112, 184, 185, 186, 187, 552, 553, 554, 555, 200, 201, 202, 719, 720, 721, 722, 293, 294, 295, 296, 987, 988, 989, 990, 991, 992, 993, 994, 995, 996, 997, 998, 999, 1000, 1001, 1002, 1003, 1004, 1005, 1006, 1007, 1008, 1009, 1010, 1011, 1012, 1013] (by decide +kernel) (by decide +kernel)
set_option maxRecDepth 20000 in
theorem gL_law_X9_asked : GoodIn wsL_law (wsV RL 119 RX9 yX9_asked wsX9_asked) := goodIn_app (goodIn_of _ (by decide +kernel)) ggL_law_X9_asked
