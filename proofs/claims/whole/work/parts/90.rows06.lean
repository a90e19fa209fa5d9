set_option maxRecDepth 20000 in
theorem ggL_law_X8_nearest : GoodIn wsL_law wsX8_nearest := goodIn_r _ [502, 15, 127, 40, 235, 503, 504, 129, 130, 131, 2, 132, 133, 505, 506, 507, 46, 508, 94, 509, 510, 511, 512, 513, 514, 515, 516, 39, 517, 518, 519, 520, 521, 522, 523, 524, 525, 526, 527, 528, 141, 142, 143, 81, 529, 530, 531, 532, 53, 265, 266, 267, 268, 92, 533, 534, 535, 536, 537, 538, 97, 539, 540, 541, 96, 98, 99, 100, 101, 976, 977, 978, 979, 980, 981, 982, 983, 984, 985, 986, 1014, 1015, 1016, 1031, 1032, 1033, 1034, 1035, 1036, 1037, 1038, 1039, 1040, 1041] (by decide +kernel) (by decide +kernel)
set_option maxRecDepth 20000 in
theorem gL_law_X8_nearest : GoodIn wsL_law (wsV RL 84 RX8 yX8_nearest wsX8_nearest) := goodIn_app (goodIn_of _ (by decide +kernel)) ggL_law_X8_nearest
set_option maxRecDepth 20000 in
theorem ggL_law_X9_nearest : GoodIn wsL_law wsX9_nearest := goodIn_r _ [545, 546, 547, 163, 164, 5, 165, 166, 167, 168, 169, 112, 548, 549, 550, 551, 179, 180, 181, 182, 183, 184, 185, 186, 187, 110, 188, 189, 190, 191, 113, 192, 193, 194, 195, 196, 197, 198, 199, 200, 201, 202, 552, 553, 554, 555, 556, 557, 558, 559, 560, 114, 561, 562, 563, 564, 289, 290, 291, 292, 293, 294, 295, 296, 286, 287, 288, 987, 988, 989, 990, 991, 992, 993, 994, 995, 996, 997, 998, 999, 1000, 1001, 1002, 1003, 1004, 1005, 1006, 1007, 1008, 1009, 1010, 1011, 1012, 1013] (by decide +kernel) (by decide +kernel)
set_option maxRecDepth 20000 in
theorem gL_law_X9_nearest : GoodIn wsL_law (wsV RL 87 RX9 yX9_nearest wsX9_nearest) := goodIn_app (goodIn_of _ (by decide +kernel)) ggL_law_X9_nearest
set_option maxRecDepth 20000 in
theorem ggL_law_X8_near : GoodIn wsL_law wsX8_near := goodIn_r _ [568, 15, 127, 40, 235, 569, 505, 506, 507, 46, 508, 94, 509, 510, 511, 2, 512, 513, 514, 515, 516, 39, 517, 518, 519, 520, 521, 522, 523, 524, 525, 526, 527, 528, 141, 142, 143, 81, 529, 530, 531, 532, 53, 265, 266, 267, 268, 92, 533, 534, 535, 536, 537, 538, 97, 539, 540, 541, 96, 98, 99, 100, 101, 976, 977, 978, 979, 980, 981, 982, 983, 984, 985, 986, 1014, 1015, 1016, 1031, 1032, 1033, 1034, 1035, 1036, 1037, 1038, 1039, 1040, 1041] (by decide +kernel) (by decide +kernel)
set_option maxRecDepth 20000 in
theorem gL_law_X8_near : GoodIn wsL_law (wsV RL 88 RX8 yX8_near wsX8_near) := goodIn_app (goodIn_of _ (by decide +kernel)) ggL_law_X8_near
set_option maxRecDepth 20000 in
theorem ggL_law_X9_near : GoodIn wsL_law wsX9_near := goodIn_r _ [573, 560, 548, 549, 550, 5, 551, 179, 180, 181, 182, 183, 184, 185, 186, 187, 110, 188, 189, 190, 191, 113, 192, 193, 194, 195, 196, 197, 198, 199, 200, 201, 202, 552, 553, 554, 555, 112, 556, 557, 558, 559, 546, 547, 114, 561, 562, 563, 564, 289, 290, 291, 292, 293, 294, 295, 296, 286, 287, 288, 987, 988, 989, 990, 991, 992, 993, 994, 995, 996, 997, 998, 999, 1000, 1001, 1002, 1003, 1004, 1005, 1006, 1007, 1008, 1009, 1010, 1011, 1012, 1013] (by decide +kernel) (by decide +kernel)
set_option maxRecDepth 20000 in
theorem gL_law_X9_near : GoodIn wsL_law (wsV RL 91 RX9 yX9_near wsX9_near) := goodIn_app (goodIn_of _ (by decide +kernel)) ggL_law_X9_near
set_option maxRecDepth 20000 in
theorem ggL_law_X8_soft : GoodIn wsL_law wsX8_soft := goodIn_r _ [577, 15, 127, 20, 578, 301, 302, 303, 46, 304, 93, 129, 130, 131, 2, 132, 133, 134, 135, 136, 19, 137, 59, 138, 139, 140, 141, 142, 143, 144, 145, 146, 14, 147, 47, 148, 149, 86, 49, 150, 151, 152, 153, 87, 88, 89, 90, 91, 92, 94, 53, 95, 96, 97, 98, 99, 100, 101, 976, 977, 978, 979, 980, 981, 982, 983, 984, 985, 986, 1014, 1015, 1016, 1037, 1038, 1039, 1040, 1041, 1017, 1018, 1019] (by decide +kernel) (by decide +kernel)
set_option maxRecDepth 20000 in
theorem gL_law_X8_soft : GoodIn wsL_law (wsV RL 92 RX8 yX8_soft wsX8_soft) := goodIn_app (goodIn_of _ (by decide +kernel)) ggL_law_X8_soft
set_option maxRecDepth 20000 in
theorem ggL_law_X9_soft : GoodIn wsL_law wsX9_soft := goodIn_r _ [582, 583, 584, 313, 314, 315, 5, 316, 192, 193, 194, 195, 196, 197, 198, 199, 110, 163, 164, 165, 166, 167, 168, 169, 112, 170, 171, 172, 173, 174, 111, 585, 586, 587, 588, 589, 590, 591, 592, 987, 988, 989, 990, 991, 992, 993, 994, 995, 996, 997, 998, 999, 1000, 1001, 1002, 1003, 1004, 1005, 1006, 1007, 1008, 1009, 1010, 1011, 1012, 1013] (by decide +kernel) (by decide +kernel)
set_option maxRecDepth 20000 in
theorem gL_law_X9_soft : GoodIn wsL_law (wsV RL 95 RX9 yX9_soft wsX9_soft) := goodIn_app (goodIn_of _ (by decide +kernel)) ggL_law_X9_soft
