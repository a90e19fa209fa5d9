set_option maxRecDepth 20000 in
theorem ggL_law_X8_coefficient : GoodIn wsL_law wsX8_coefficient := goodIn_r _ [383, 15, 127, 235, 301, 302, 303, 46, 304, 93, 129, 130, 131, 2, 132, 133, 367, 266, 267, 268, 92, 384, 385, 386, 387, 976, 977, 978, 979, 980, 981, 982, 983, 984, 985, 986, 1014, 1015, 1016, 1037, 1038, 1039, 1040, 1041] (by decide +kernel) (by decide +kernel)
set_option maxRecDepth 20000 in
theorem gL_law_X8_coefficient : GoodIn wsL_law (wsV RL 60 RX8 yX8_coefficient wsX8_coefficient) := goodIn_app (goodIn_of _ (by decide +kernel)) ggL_law_X8_coefficient
set_option maxRecDepth 20000 in
theorem ggL_law_X9_coefficient : GoodIn wsL_law wsX9_coefficient := goodIn_r _ [391, 113, 313, 314, 315, 5, 316, 192, 193, 194, 195, 196, 197, 198, 199, 110, 163, 164, 165, 166, 167, 168, 169, 112, 188, 189, 190, 191, 183, 200, 201, 202, 293, 294, 295, 296, 376, 377, 378, 379, 987, 988, 989, 990, 991, 992, 993, 994, 995, 996, 997, 998, 999, 1000, 1001, 1002, 1003, 1004, 1005, 1006, 1007, 1008, 1009, 1010, 1011, 1012, 1013] (by decide +kernel) (by decide +kernel)
set_option maxRecDepth 20000 in
theorem gL_law_X9_coefficient : GoodIn wsL_law (wsV RL 63 RX9 yX9_coefficient wsX9_coefficient) := goodIn_app (goodIn_of _ (by decide +kernel)) ggL_law_X9_coefficient
set_option maxRecDepth 20000 in
theorem ggL_law_X8_votes : GoodIn wsL_law wsX8_votes := goodIn_r _ [395, 28, 15, 127, 235, 396, 397, 398, 399, 27, 400, 401, 402, 403, 404, 405, 406, 407, 408, 409, 410, 411, 412, 413, 96, 97, 98, 99, 100, 101, 414, 415, 416, 417, 418, 419, 420, 142, 421, 422, 2, 423, 424, 425, 273, 426, 266, 267, 46, 268, 92, 976, 977, 978, 979, 980, 981, 982, 983, 984, 985, 986, 1014, 1015, 1016, 1024, 1025, 1026, 1027, 1028, 1037, 1038, 1039, 1040, 1041] (by decide +kernel) (by decide +kernel)
set_option maxRecDepth 20000 in
theorem gL_law_X8_votes : GoodIn wsL_law (wsV RL 64 RX8 yX8_votes wsX8_votes) := goodIn_app (goodIn_of _ (by decide +kernel)) ggL_law_X8_votes
set_option maxRecDepth 20000 in
theorem ggL_law_X9_votes : GoodIn wsL_law wsX9_votes := goodIn_r _ [430, 431, 432, 433, 434, 5, 435, 436, 437, 438, 113, 439, 293, 294, 295, 296, 110, 179, 180, 181, 182, 183, 184, 185, 186, 187, 188, 189, 190, 191, 192, 193, 194, 195, 196, 197, 198, 199, 200, 201, 202, 440, 441, 442, 443, 289, 290, 291, 292, 282, 283, 284, 285, 286, 287, 288, 987, 988, 989, 990, 991, 992, 993, 994, 995, 996, 997, 998, 999, 1000, 1001, 1002, 1003, 1004, 1005, 1006, 1007, 1008, 1009, 1010, 1011, 1012, 1013] (by decide +kernel) (by decide +kernel)
set_option maxRecDepth 20000 in
theorem gL_law_X9_votes : GoodIn wsL_law (wsV RL 67 RX9 yX9_votes wsX9_votes) := goodIn_app (goodIn_of _ (by decide +kernel)) ggL_law_X9_votes
set_option maxRecDepth 20000 in
theorem ggL_law_X8_vote : GoodIn wsL_law wsX8_vote := goodIn_r _ [447, 28, 15, 127, 235, 448, 449, 450, 451, 397, 398, 399, 27, 400, 401, 402, 403, 404, 405, 406, 407, 408, 409, 410, 411, 412, 413, 96, 97, 98, 99, 100, 101, 414, 415, 416, 417, 418, 419, 420, 142, 421, 422, 2, 423, 424, 425, 273, 426, 266, 267, 46, 268, 92, 129, 130, 131, 132, 133, 976, 977, 978, 979, 980, 981, 982, 983, 984, 985, 986, 1014, 1015, 1016, 1024, 1025, 1026, 1027, 1028, 1037, 1038, 1039, 1040, 1041] (by decide +kernel) (by decide +kernel)
set_option maxRecDepth 20000 in
theorem gL_law_X8_vote : GoodIn wsL_law (wsV RL 68 RX8 yX8_vote wsX8_vote) := goodIn_app (goodIn_of _ (by decide +kernel)) ggL_law_X8_vote
set_option maxRecDepth 20000 in
theorem ggL_law_X9_vote : GoodIn wsL_law wsX9_vote := goodIn_r _ [455, 456, 439, 436, 437, 438, 163, 164, 5, 165, 166, 167, 168, 169, 112, 432, 433, 434, 435, 431, 113, 293, 294, 295, 296, 110, 179, 180, 181, 182, 183, 184, 185, 186, 187, 188, 189, 190, 191, 192, 193, 194, 195, 196, 197, 198, 199, 200, 201, 202, 440, 441, 442, 443, 289, 290, 291, 292, 282, 283, 284, 285, 286, 287, 288, 987, 988, 989, 990, 991, 992, 993, 994, 995, 996, 997, 998, 999, 1000, 1001, 1002, 1003, 1004, 1005, 1006, 1007, 1008, 1009, 1010, 1011, 1012, 1013] (by decide +kernel) (by decide +kernel)
set_option maxRecDepth 20000 in
theorem gL_law_X9_vote : GoodIn wsL_law (wsV RL 71 RX9 yX9_vote wsX9_vote) := goodIn_app (goodIn_of _ (by decide +kernel)) ggL_law_X9_vote
