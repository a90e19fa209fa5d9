set_option maxRecDepth 20000 in
theorem ggL_law_X8_at : GoodIn wsL_law wsX8_at := goodIn_r _ [353, 15, 127, 301, 302, 303, 46, 304, 93, 305, 306, 307, 14, 308, 86, 129, 130, 131, 2, 132, 133, 976, 977, 978, 979, 980, 981, 982, 983, 984, 985, 986, 1014, 1015, 1016, 1037, 1038, 1039, 1040, 1041] (by decide +kernel) (by decide +kernel)
set_option maxRecDepth 20000 in
theorem gL_law_X8_at : GoodIn wsL_law (wsV RL 48 RX8 yX8_at wsX8_at) := goodIn_app (goodIn_of _ (by decide +kernel)) ggL_law_X8_at
set_option maxRecDepth 20000 in
theorem ggL_law_X9_at : GoodIn wsL_law wsX9_at := goodIn_r _ [357, 313, 314, 315, 5, 316, 192, 193, 194, 195, 196, 197, 198, 199, 110, 163, 164, 165, 293, 294, 295, 296, 166, 167, 168, 169, 112, 987, 988, 989, 990, 991, 992, 993, 994, 995, 996, 997, 998, 999, 1000, 1001, 1002, 1003, 1004, 1005, 1006, 1007, 1008, 1009, 1010, 1011, 1012, 1013] (by decide +kernel) (by decide +kernel)
set_option maxRecDepth 20000 in
theorem gL_law_X9_at : GoodIn wsL_law (wsV RL 51 RX9 yX9_at wsX9_at) := goodIn_app (goodIn_of _ (by decide +kernel)) ggL_law_X9_at
set_option maxRecDepth 20000 in
theorem ggL_law_X8_weight : GoodIn wsL_law wsX8_weight := goodIn_r _ [272, 15, 235, 273, 96, 97, 98, 99, 100, 101, 976, 977, 978, 979, 980, 981, 982, 983, 984, 985, 986, 1014, 1015, 1016] (by decide +kernel) (by decide +kernel)
set_option maxRecDepth 20000 in
theorem gL_law_X8_weight : GoodIn wsL_law (wsV RL 52 RX8 yX8_weight wsX8_weight) := goodIn_app (goodIn_of _ (by decide +kernel)) ggL_law_X8_weight
set_option maxRecDepth 20000 in
theorem ggL_law_X9_weight : GoodIn wsL_law wsX9_weight := goodIn_r _ [362, 293, 294, 295, 5, 296, 110, 200, 201, 202, 987, 988, 989, 990, 991, 992, 993, 994, 995, 996, 997, 998, 999, 1000, 1001, 1002, 1003, 1004, 1005, 1006, 1007, 1008, 1009, 1010, 1011, 1012, 1013] (by decide +kernel) (by decide +kernel)
set_option maxRecDepth 20000 in
theorem gL_law_X9_weight : GoodIn wsL_law (wsV RL 55 RX9 yX9_weight wsX9_weight) := goodIn_app (goodIn_of _ (by decide +kernel)) ggL_law_X9_weight
set_option maxRecDepth 20000 in
theorem ggL_law_X8_isWord : GoodIn wsL_law wsX8_isWord := goodIn_r _ [366, 15, 127, 235, 367, 266, 267, 46, 268, 92, 368, 369, 370, 371, 94, 53, 976, 977, 978, 979, 980, 981, 982, 983, 984, 985, 986, 1014, 1015, 1016, 1037, 1038, 1039, 1040, 1041] (by decide +kernel) (by decide +kernel)
set_option maxRecDepth 20000 in
theorem gL_law_X8_isWord : GoodIn wsL_law (wsV RL 56 RX8 yX8_isWord wsX8_isWord) := goodIn_app (goodIn_of _ (by decide +kernel)) ggL_law_X8_isWord
set_option maxRecDepth 20000 in
theorem ggL_law_X9_isWord : GoodIn wsL_law wsX9_isWord := goodIn_r _ [375, 192, 193, 194, 5, 195, 196, 197, 198, 199, 110, 200, 201, 202, 184, 185, 186, 187, 293, 294, 295, 296, 376, 377, 378, 379, 987, 988, 989, 990, 991, 992, 993, 994, 995, 996, 997, 998, 999, 1000, 1001, 1002, 1003, 1004, 1005, 1006, 1007, 1008, 1009, 1010, 1011, 1012, 1013] (by decide +kernel) (by decide +kernel)
set_option maxRecDepth 20000 in
theorem gL_law_X9_isWord : GoodIn wsL_law (wsV RL 59 RX9 yX9_isWord wsX9_isWord) := goodIn_app (goodIn_of _ (by decide +kernel)) ggL_law_X9_isWord
