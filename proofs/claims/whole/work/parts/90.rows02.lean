set_option maxRecDepth 20000 in
theorem ggL_law_X8_flip : GoodIn wsL_law wsX8_flip := goodIn_r _ [300, 15, 127, 20, 235, 301, 302, 303, 46, 304, 93, 129, 130, 131, 2, 132, 133, 134, 135, 136, 19, 137, 59, 138, 139, 140, 141, 142, 143, 144, 145, 146, 14, 147, 47, 148, 149, 86, 49, 150, 151, 152, 153, 87, 88, 89, 90, 91, 92, 94, 53, 95, 96, 97, 98, 99, 100, 101, 305, 306, 307, 308, 976, 977, 978, 979, 980, 981, 982, 983, 984, 985, 986, 1014, 1015, 1016, 1037, 1038, 1039, 1040, 1041, 1017, 1018, 1019] (by decide +kernel) (by decide +kernel)
set_option maxRecDepth 20000 in
theorem gL_law_X8_flip : GoodIn wsL_law (wsV RL 35 RX8 yX8_flip wsX8_flip) := goodIn_app (goodIn_of _ (by decide +kernel)) ggL_law_X8_flip
set_option maxRecDepth 20000 in
theorem ggL_law_X9_flip : GoodIn wsL_law wsX9_flip := goodIn_r _ [312, 313, 314, 315, 5, 316, 192, 193, 194, 195, 196, 197, 198, 199, 110, 163, 164, 165, 166, 167, 168, 169, 112, 170, 171, 172, 173, 174, 111, 317, 318, 319, 320, 293, 294, 295, 296, 286, 287, 288, 987, 988, 989, 990, 991, 992, 993, 994, 995, 996, 997, 998, 999, 1000, 1001, 1002, 1003, 1004, 1005, 1006, 1007, 1008, 1009, 1010, 1011, 1012, 1013] (by decide +kernel) (by decide +kernel)
set_option maxRecDepth 20000 in
theorem gL_law_X9_flip : GoodIn wsL_law (wsV RL 38 RX9 yX9_flip wsX9_flip) := goodIn_app (goodIn_of _ (by decide +kernel)) ggL_law_X9_flip
set_option maxRecDepth 20000 in
theorem ggL_law_X8_hurt : GoodIn wsL_law wsX8_hurt := goodIn_r _ [324, 325, 15, 127, 209, 20, 235, 129, 130, 131, 2, 132, 133, 134, 135, 136, 19, 137, 59, 138, 139, 140, 141, 142, 143, 144, 145, 146, 14, 147, 47, 148, 149, 86, 49, 150, 151, 152, 153, 87, 88, 89, 46, 90, 91, 92, 93, 94, 53, 95, 96, 97, 98, 99, 100, 101, 326, 327, 328, 329, 330, 331, 332, 269, 270, 271, 272, 273, 976, 977, 978, 979, 980, 981, 982, 983, 984, 985, 986, 1014, 1015, 1016, 1037, 1038, 1039, 1040, 1041, 1017, 1018, 1019] (by decide +kernel) (by decide +kernel)
set_option maxRecDepth 20000 in
theorem gL_law_X8_hurt : GoodIn wsL_law (wsV RL 39 RX8 yX8_hurt wsX8_hurt) := goodIn_app (goodIn_of _ (by decide +kernel)) ggL_law_X8_hurt
set_option maxRecDepth 20000 in
theorem ggL_law_X9_hurt : GoodIn wsL_law wsX9_hurt := goodIn_r _ [336, 337, 338, 339, 340, 341, 110, 163, 164, 5, 165, 192, 193, 194, 195, 196, 197, 198, 199, 166, 167, 168, 169, 112, 170, 171, 172, 173, 174, 111, 286, 287, 288, 293, 294, 295, 296, 200, 201, 202, 987, 988, 989, 990, 991, 992, 993, 994, 995, 996, 997, 998, 999, 1000, 1001, 1002, 1003, 1004, 1005, 1006, 1007, 1008, 1009, 1010, 1011, 1012, 1013] (by decide +kernel) (by decide +kernel)
set_option maxRecDepth 20000 in
theorem gL_law_X9_hurt : GoodIn wsL_law (wsV RL 42 RX9 yX9_hurt wsX9_hurt) := goodIn_app (goodIn_of _ (by decide +kernel)) ggL_law_X9_hurt
set_option maxRecDepth 20000 in
theorem ggL_law_X8_now : GoodIn wsL_law wsX8_now := goodIn_r _ [345, 15, 235, 976, 977, 978, 979, 980, 981, 982, 983, 984, 985, 986, 1014, 1015, 1016] (by decide +kernel) (by decide +kernel)
set_option maxRecDepth 20000 in
theorem gL_law_X8_now : GoodIn wsL_law (wsV RL 43 RX8 yX8_now wsX8_now) := goodIn_app (goodIn_of _ (by decide +kernel)) ggL_law_X8_now
set_option maxRecDepth 20000 in
theorem ggL_law_X9_now : GoodIn wsL_law wsX9_now := goodIn_r _ [349, 293, 294, 295, 5, 296, 110, 987, 988, 989, 990, 991, 992, 993, 994, 995, 996, 997, 998, 999, 1000, 1001, 1002, 1003, 1004, 1005, 1006, 1007, 1008, 1009, 1010, 1011, 1012, 1013] (by decide +kernel) (by decide +kernel)
set_option maxRecDepth 20000 in
theorem gL_law_X9_now : GoodIn wsL_law (wsV RL 47 RX9 yX9_now wsX9_now) := goodIn_app (goodIn_of _ (by decide +kernel)) ggL_law_X9_now
