set_option maxRecDepth 20000 in
theorem ggL_law_X8_harden : GoodIn wsL_law wsX8_harden := goodIn_r _ [596, 20, 15, 127, 209, 578, 129, 130, 131, 2, 132, 133, 134, 135, 136, 19, 137, 59, 138, 139, 140, 141, 142, 143, 144, 145, 146, 14, 147, 47, 148, 149, 86, 49, 150, 151, 152, 153, 87, 88, 89, 46, 90, 91, 92, 93, 94, 53, 95, 96, 97, 98, 99, 100, 101, 305, 306, 307, 308, 976, 977, 978, 979, 980, 981, 982, 983, 984, 985, 986, 1014, 1015, 1016, 1037, 1038, 1039, 1040, 1041, 1017, 1018, 1019] (by decide +kernel) (by decide +kernel)
set_option maxRecDepth 20000 in
theorem gL_law_X8_harden : GoodIn wsL_law (wsV RL 96 RX8 yX8_harden wsX8_harden) := goodIn_app (goodIn_of _ (by decide +kernel)) ggL_law_X8_harden
set_option maxRecDepth 20000 in
theorem ggL_law_X9_harden : GoodIn wsL_law wsX9_harden := goodIn_r _ [600, 584, 110, 163, 164, 5, 165, 166, 167, 168, 169, 112, 170, 171, 172, 173, 174, 111, 192, 193, 194, 195, 196, 197, 198, 199, 293, 294, 295, 296, 286, 287, 288, 987, 988, 989, 990, 991, 992, 993, 994, 995, 996, 997, 998, 999, 1000, 1001, 1002, 1003, 1004, 1005, 1006, 1007, 1008, 1009, 1010, 1011, 1012, 1013] (by decide +kernel) (by decide +kernel)
set_option maxRecDepth 20000 in
theorem gL_law_X9_harden : GoodIn wsL_law (wsV RL 99 RX9 yX9_harden wsX9_harden) := goodIn_app (goodIn_of _ (by decide +kernel)) ggL_law_X9_harden
set_option maxRecDepth 20000 in
theorem ggL_law_X8_halves : GoodIn wsL_law wsX8_halves := goodIn_r _ [604, 32, 15, 127, 578, 605, 606, 607, 31, 608, 73, 609, 610, 611, 151, 152, 153, 612, 613, 614, 615, 616, 617, 618, 619, 620, 240, 2, 241, 621, 622, 623, 624, 625, 626, 627, 628, 629, 420, 142, 421, 630, 141, 143, 631, 632, 633, 634, 976, 977, 978, 979, 980, 981, 982, 983, 984, 985, 986, 1014, 1015, 1016, 1029, 1037, 1038, 1039, 1040, 1041] (by decide +kernel) (by decide +kernel)
set_option maxRecDepth 20000 in
theorem gL_law_X8_halves : GoodIn wsL_law (wsV RL 100 RX8 yX8_halves wsX8_halves) := goodIn_app (goodIn_of _ (by decide +kernel)) ggL_law_X8_halves
set_option maxRecDepth 20000 in
theorem ggL_law_X9_halves : GoodIn wsL_law wsX9_halves := goodIn_r _ [638, 639, 640, 641, 5, 642, 115, 117, 116, 118, 119, 184, 185, 186, 187, 110, 196, 197, 198, 199, 643, 644, 645, 646, 192, 193, 194, 195, 589, 590, 591, 592, 647, 648, 649, 650, 250, 251, 252, 651, 652, 653, 496, 497, 498, 286, 287, 288, 987, 988, 989, 990, 991, 992, 993, 994, 995, 996, 997, 998, 999, 1000, 1001, 1002, 1003, 1004, 1005, 1006, 1007, 1008, 1009, 1010, 1011, 1012, 1013] (by decide +kernel) (by decide +kernel)
set_option maxRecDepth 20000 in
theorem gL_law_X9_halves : GoodIn wsL_law (wsV RL 103 RX9 yX9_halves wsX9_halves) := goodIn_app (goodIn_of _ (by decide +kernel)) ggL_law_X9_halves
set_option maxRecDepth 20000 in
theorem ggL_law_X8_merit : GoodIn wsL_law wsX8_merit := goodIn_r _ [657, 15, 127, 36, 578, 40, 235, 129, 130, 131, 2, 132, 133, 505, 506, 507, 46, 508, 94, 509, 510, 511, 512, 513, 658, 659, 660, 35, 661, 77, 662, 538, 97, 539, 540, 663, 664, 665, 39, 666, 519, 520, 667, 668, 142, 669, 523, 524, 525, 526, 527, 528, 141, 143, 81, 529, 530, 531, 532, 53, 265, 266, 267, 268, 92, 670, 671, 672, 673, 533, 534, 535, 536, 537, 674, 602, 603, 604, 32, 605, 606, 607, 31, 608, 73, 609, 610, 611, 151, 152, 153, 612, 613, 614, 615, 616, 617, 618, 619, 620, 240, 241, 621, 622, 623, 624, 625, 626, 627, 628, 629, 420, 421, 630, 631, 632, 633, 634, 675, 976, 977, 978, 979, 980, 981, 982, 983, 984, 985, 986, 1014, 1015, 1016, 1037, 1038, 1039, 1040, 1041, 1030, 1031, 1032, 1033, 1034, 1035, 1036, 1029] (by decide +kernel) (by decide +kernel)
set_option maxRecDepth 20000 in
theorem gL_law_X8_merit : GoodIn wsL_law (wsV RL 104 RX8 yX8_merit wsX8_merit) := goodIn_app (goodIn_of _ (by decide +kernel)) ggL_law_X8_merit
set_option maxRecDepth 20000 in
theorem ggL_law_X9_merit : GoodIn wsL_law wsX9_merit := goodIn_r _ [679, 495, 163, 164, 5, 165, 166, 167, 168, 169, 112, 548, 549, 550, 551, 179, 180, 181, 182, 183, 184, 185, 186, 187, 110, 188, 189, 190, 191, 113, 192, 193, 194, 195, 196, 197, 198, 199, 200, 201, 202, 552, 553, 554, 555, 293, 294, 295, 296, 680, 681, 682, 683, 286, 287, 288, 589, 590, 591, 592, 639, 640, 641, 642, 115, 117, 116, 118, 119, 643, 644, 645, 646, 647, 648, 649, 650, 250, 251, 252, 651, 652, 653, 496, 497, 498, 684, 685, 686, 687, 114, 561, 562, 563, 564, 289, 290, 291, 292, 987, 988, 989, 990, 991, 992, 993, 994, 995, 996, 997, 998, 999, 1000, 1001, 1002, 1003, 1004, 1005, 1006, 1007, 1008, 1009, 1010, 1011, 1012, 1013] (by decide +kernel) (by decide +kernel)
set_option maxRecDepth 20000 in
theorem gL_law_X9_merit : GoodIn wsL_law (wsV RL 107 RX9 yX9_merit wsX9_merit) := goodIn_app (goodIn_of _ (by decide +kernel)) ggL_law_X9_merit
