set_option maxRecDepth 20000 in
theorem ggL_law_X8_term : GoodIn wsL_law wsX8_term := goodIn_r _ [225, 15, 127, 128, 226, 129, 130, 131, 2, 132, 133, 976, 977, 978, 979, 980, 981, 982, 983, 984, 985, 986, 1014, 1015, 1016, 1037, 1038, 1039, 1040, 1041] (by decide +kernel) (by decide +kernel)
set_option maxRecDepth 20000 in
theorem gL_law_X8_term : GoodIn wsL_law (wsV RL 23 RX8 yX8_term wsX8_term) := goodIn_app (goodIn_of _ (by decide +kernel)) ggL_law_X8_term
set_option maxRecDepth 20000 in
theorem ggL_law_X9_term : GoodIn wsL_law wsX9_term := goodIn_r _ [230, 113, 166, 167, 168, 5, 169, 112, 179, 180, 181, 182, 183, 184, 185, 186, 187, 110, 188, 189, 190, 191, 192, 193, 194, 195, 196, 197, 198, 199, 200, 201, 202, 987, 988, 989, 990, 991, 992, 993, 994, 995, 996, 997, 998, 999, 1000, 1001, 1002, 1003, 1004, 1005, 1006, 1007, 1008, 1009, 1010, 1011, 1012, 1013] (by decide +kernel) (by decide +kernel)
set_option maxRecDepth 20000 in
theorem gL_law_X9_term : GoodIn wsL_law (wsV RL 26 RX9 yX9_term wsX9_term) := goodIn_app (goodIn_of _ (by decide +kernel)) ggL_law_X9_term
set_option maxRecDepth 20000 in
theorem ggL_law_X8_word : GoodIn wsL_law wsX8_word := goodIn_r _ [234, 15, 127, 20, 235, 236, 237, 238, 46, 239, 93, 240, 2, 241, 129, 130, 131, 132, 133, 134, 135, 136, 19, 137, 59, 138, 139, 140, 141, 142, 143, 144, 145, 146, 14, 147, 47, 148, 149, 86, 49, 150, 151, 152, 153, 87, 88, 89, 90, 91, 92, 94, 53, 95, 96, 97, 98, 99, 100, 101, 976, 977, 978, 979, 980, 981, 982, 983, 984, 985, 986, 1014, 1015, 1016, 1037, 1038, 1039, 1040, 1041, 1017, 1018, 1019] (by decide +kernel) (by decide +kernel)
set_option maxRecDepth 20000 in
theorem gL_law_X8_word : GoodIn wsL_law (wsV RL 27 RX8 yX8_word wsX8_word) := goodIn_app (goodIn_of _ (by decide +kernel)) ggL_law_X8_word
set_option maxRecDepth 20000 in
theorem ggL_law_X9_word : GoodIn wsL_law wsX9_word := goodIn_r _ [245, 110, 192, 193, 194, 5, 195, 196, 197, 198, 199, 246, 247, 248, 249, 250, 251, 252, 166, 167, 168, 169, 112, 170, 171, 172, 173, 174, 111, 987, 988, 989, 990, 991, 992, 993, 994, 995, 996, 997, 998, 999, 1000, 1001, 1002, 1003, 1004, 1005, 1006, 1007, 1008, 1009, 1010, 1011, 1012, 1013] (by decide +kernel) (by decide +kernel)
set_option maxRecDepth 20000 in
theorem gL_law_X9_word : GoodIn wsL_law (wsV RL 30 RX9 yX9_word wsX9_word) := goodIn_app (goodIn_of _ (by decide +kernel)) ggL_law_X9_word
set_option maxRecDepth 20000 in
theorem ggL_law_X8_encode : GoodIn wsL_law wsX8_encode := goodIn_r _ [256, 15, 127, 20, 235, 257, 258, 259, 46, 260, 94, 240, 2, 241, 129, 130, 131, 132, 133, 134, 135, 136, 19, 137, 59, 138, 139, 140, 141, 142, 143, 144, 145, 146, 14, 147, 47, 148, 149, 86, 49, 150, 151, 152, 153, 87, 88, 89, 90, 91, 92, 93, 53, 95, 96, 97, 98, 99, 100, 101, 261, 262, 263, 264, 265, 266, 267, 268, 269, 270, 271, 272, 273, 976, 977, 978, 979, 980, 981, 982, 983, 984, 985, 986, 1014, 1015, 1016, 1037, 1038, 1039, 1040, 1041, 1017, 1018, 1019] (by decide +kernel) (by decide +kernel)
set_option maxRecDepth 20000 in
theorem gL_law_X8_encode : GoodIn wsL_law (wsV RL 31 RX8 yX8_encode wsX8_encode) := goodIn_app (goodIn_of _ (by decide +kernel)) ggL_law_X8_encode
set_option maxRecDepth 20000 in
theorem ggL_law_X9_encode : GoodIn wsL_law wsX9_encode := goodIn_r _ [277, 179, 180, 181, 5, 182, 183, 184, 185, 186, 187, 110, 188, 189, 190, 191, 113, 192, 193, 194, 195, 196, 197, 198, 199, 200, 201, 202, 246, 247, 248, 249, 250, 251, 252, 166, 167, 168, 169, 112, 170, 171, 172, 173, 174, 111, 278, 279, 280, 281, 282, 283, 284, 285, 286, 287, 288, 289, 290, 291, 292, 293, 294, 295, 296, 987, 988, 989, 990, 991, 992, 993, 994, 995, 996, 997, 998, 999, 1000, 1001, 1002, 1003, 1004, 1005, 1006, 1007, 1008, 1009, 1010, 1011, 1012, 1013] (by decide +kernel) (by decide +kernel)
set_option maxRecDepth 20000 in
theorem gL_law_X9_encode : GoodIn wsL_law (wsV RL 34 RX9 yX9_encode wsX9_encode) := goodIn_app (goodIn_of _ (by decide +kernel)) ggL_law_X9_encode
