theorem dX8_at_8 : decode cX8_at 8 = .ok (.invokevirtual 115, 3) := by decide +kernel
theorem dX8_at_11 : decode cX8_at 11 = .ok (.ifCond .eq 14, 3) := by decide +kernel
theorem dX8_at_14 : decode cX8_at 14 = .ok (.aload_n 0, 1) := by decide +kernel
theorem dX8_at_15 : decode cX8_at 15 = .ok (.getfield 10, 3) := by decide +kernel
theorem dX8_at_18 : decode cX8_at 18 = .ok (.iload_n 1, 1) := by decide +kernel
theorem dX8_at_19 : decode cX8_at 19 = .ok (.invokevirtual 119, 3) := by decide +kernel
theorem dX8_at_22 : decode cX8_at 22 = .ok (.goto 9, 3) := by decide +kernel
theorem dX8_at_25 : decode cX8_at 25 = .ok (.aload_n 0, 1) := by decide +kernel
theorem dX8_at_26 : decode cX8_at 26 = .ok (.bipush (-2), 2) := by decide +kernel
theorem dX8_at_28 : decode cX8_at 28 = .ok (.invokevirtual 65, 3) := by decide +kernel
theorem dX8_at_31 : decode cX8_at 31 = .ok (.ireturn, 1) := by decide +kernel
set_option maxRecDepth 20000 in
theorem ggX8_weight_J6_bitCount_0f7a4 : GoodIn wsX8_weight wsJ6_bitCount_0f7a4 := goodIn_r _ [6, 7, 8, 9] (by decide +kernel) (by decide +kernel)
set_option maxRecDepth 20000 in
theorem gX8_weight_J6_bitCount_0f7a4 : GoodIn wsX8_weight (va_wsS RX8 127 yJ6_bitCount_0f7a4 wsJ6_bitCount_0f7a4) := goodIn_app (goodIn_of _ (by decide +kernel)) ggX8_weight_J6_bitCount_0f7a4
theorem dX8_weight_0 : decode cX8_weight 0 = .ok (.aload_n 0, 1) := by decide +kernel
theorem dX8_weight_1 : decode cX8_weight 1 = .ok (.getfield 10, 3) := by decide +kernel
theorem dX8_weight_4 : decode cX8_weight 4 = .ok (.getfield 103, 3) := by decide +kernel
theorem dX8_weight_7 : decode cX8_weight 7 = .ok (.invokestatic 127, 3) := by decide +kernel
theorem dX8_weight_10 : decode cX8_weight 10 = .ok (.ireturn, 1) := by decide +kernel
set_option maxRecDepth 20000 in
theorem ggX8_isWord_X1_summed : GoodIn wsX8_isWord wsX1_summed := goodIn_r _ [8, 9, 30, 31, 32, 33, 34] (by decide +kernel) (by decide +kernel)
set_option maxRecDepth 20000 in
theorem gX8_isWord_X1_summed : GoodIn wsX8_isWord (wsV RX8 132 RX1 yX1_summed wsX1_summed) := goodIn_app (goodIn_of _ (by decide +kernel)) ggX8_isWord_X1_summed
set_option maxRecDepth 20000 in
theorem ggX8_isWord_X1_termPlaces : GoodIn wsX8_isWord wsX1_termPlaces := goodIn_r _ [13, 14, 15, 30, 31, 32, 33, 34] (by decide +kernel) (by decide +kernel)
set_option maxRecDepth 20000 in
theorem gX8_isWord_X1_termPlaces : GoodIn wsX8_isWord (wsV RX8 135 RX1 yX1_termPlaces wsX1_termPlaces) := goodIn_app (goodIn_of _ (by decide +kernel)) ggX8_isWord_X1_termPlaces
theorem dX8_isWord_0 : decode cX8_isWord 0 = .ok (.aload_n 0, 1) := by decide +kernel
theorem dX8_isWord_1 : decode cX8_isWord 1 = .ok (.getfield 10, 3) := by decide +kernel
theorem dX8_isWord_4 : decode cX8_isWord 4 = .ok (.getfield 73, 3) := by decide +kernel
theorem dX8_isWord_7 : decode cX8_isWord 7 = .ok (.aload_n 0, 1) := by decide +kernel
theorem dX8_isWord_8 : decode cX8_isWord 8 = .ok (.getfield 10, 3) := by decide +kernel
theorem dX8_isWord_11 : decode cX8_isWord 11 = .ok (.getfield 103, 3) := by decide +kernel
theorem dX8_isWord_14 : decode cX8_isWord 14 = .ok (.invokevirtual 132, 3) := by decide +kernel
theorem dX8_isWord_17 : decode cX8_isWord 17 = .ok (.aload_n 0, 1) := by decide +kernel
theorem dX8_isWord_18 : decode cX8_isWord 18 = .ok (.getfield 10, 3) := by decide +kernel
theorem dX8_isWord_21 : decode cX8_isWord 21 = .ok (.getfield 73, 3) := by decide +kernel
theorem dX8_isWord_24 : decode cX8_isWord 24 = .ok (.invokevirtual 135, 3) := by decide +kernel
theorem dX8_isWord_27 : decode cX8_isWord 27 = .ok (.iconst (-1), 1) := by decide +kernel
theorem dX8_isWord_28 : decode cX8_isWord 28 = .ok (.ixor, 1) := by decide +kernel
theorem dX8_isWord_29 : decode cX8_isWord 29 = .ok (.iand, 1) := by decide +kernel
theorem dX8_isWord_30 : decode cX8_isWord 30 = .ok (.istore_n 1, 1) := by decide +kernel
theorem dX8_isWord_31 : decode cX8_isWord 31 = .ok (.iload_n 1, 1) := by decide +kernel
theorem dX8_isWord_32 : decode cX8_isWord 32 = .ok (.ifCond .ne 7, 3) := by decide +kernel
theorem dX8_isWord_35 : decode cX8_isWord 35 = .ok (.iconst 1, 1) := by decide +kernel
theorem dX8_isWord_36 : decode cX8_isWord 36 = .ok (.goto 4, 3) := by decide +kernel
theorem dX8_isWord_39 : decode cX8_isWord 39 = .ok (.iconst 0, 1) := by decide +kernel
theorem dX8_isWord_40 : decode cX8_isWord 40 = .ok (.ireturn, 1) := by decide +kernel
set_option maxRecDepth 20000 in
theorem ggX8_coefficient_X1_hasPlace : GoodIn wsX8_coefficient wsX1_hasPlace := goodIn_r _ [8, 9, 39, 40, 41, 42, 43] (by decide +kernel) (by decide +kernel)
set_option maxRecDepth 20000 in
theorem gX8_coefficient_X1_hasPlace : GoodIn wsX8_coefficient (wsV RX8 115 RX1 yX1_hasPlace wsX1_hasPlace) := goodIn_app (goodIn_of _ (by decide +kernel)) ggX8_coefficient_X1_hasPlace
set_option maxRecDepth 20000 in
theorem ggX8_coefficient_X8_refuseBad : GoodIn wsX8_coefficient wsX8_refuseBad := goodIn_r _ [14, 15, 25, 26, 27, 28, 29, 30, 31, 32, 33, 34, 35] (by decide +kernel) (by decide +kernel)
set_option maxRecDepth 20000 in
theorem gX8_coefficient_X8_refuseBad : GoodIn wsX8_coefficient (wsV RX8 65 RX8 yX8_refuseBad wsX8_refuseBad) := goodIn_app (goodIn_of _ (by decide +kernel)) ggX8_coefficient_X8_refuseBad
set_option maxRecDepth 20000 in
theorem ggX8_coefficient_X1_summed : GoodIn wsX8_coefficient wsX1_summed := goodIn_r _ [19, 20, 39, 40, 41, 42, 43] (by decide +kernel) (by decide +kernel)
set_option maxRecDepth 20000 in
theorem gX8_coefficient_X1_summed : GoodIn wsX8_coefficient (wsV RX8 132 RX1 yX1_summed wsX1_summed) := goodIn_app (goodIn_of _ (by decide +kernel)) ggX8_coefficient_X1_summed
set_option maxRecDepth 20000 in
theorem ggX8_coefficient_X1_setAt : GoodIn wsX8_coefficient wsX1_setAt := goodIn_r _ [24, 9, 39, 40, 41, 42, 43] (by decide +kernel) (by decide +kernel)
set_option maxRecDepth 20000 in
theorem gX8_coefficient_X1_setAt : GoodIn wsX8_coefficient (wsV RX8 138 RX1 yX1_setAt wsX1_setAt) := goodIn_app (goodIn_of _ (by decide +kernel)) ggX8_coefficient_X1_setAt
theorem dX8_coefficient_0 : decode cX8_coefficient 0 = .ok (.aload_n 0, 1) := by decide +kernel
theorem dX8_coefficient_1 : decode cX8_coefficient 1 = .ok (.getfield 10, 3) := by decide +kernel
theorem dX8_coefficient_4 : decode cX8_coefficient 4 = .ok (.getfield 73, 3) := by decide +kernel
theorem dX8_coefficient_7 : decode cX8_coefficient 7 = .ok (.iload_n 1, 1) := by decide +kernel
theorem dX8_coefficient_8 : decode cX8_coefficient 8 = .ok (.invokevirtual 115, 3) := by decide +kernel
theorem dX8_coefficient_11 : decode cX8_coefficient 11 = .ok (.ifCond .ne 10, 3) := by decide +kernel
theorem dX8_coefficient_14 : decode cX8_coefficient 14 = .ok (.aload_n 0, 1) := by decide +kernel
theorem dX8_coefficient_15 : decode cX8_coefficient 15 = .ok (.bipush (-2), 2) := by decide +kernel
theorem dX8_coefficient_17 : decode cX8_coefficient 17 = .ok (.invokevirtual 65, 3) := by decide +kernel
theorem dX8_coefficient_20 : decode cX8_coefficient 20 = .ok (.ireturn, 1) := by decide +kernel
theorem dX8_coefficient_21 : decode cX8_coefficient 21 = .ok (.aload_n 0, 1) := by decide +kernel
theorem dX8_coefficient_22 : decode cX8_coefficient 22 = .ok (.getfield 10, 3) := by decide +kernel
theorem dX8_coefficient_25 : decode cX8_coefficient 25 = .ok (.getfield 73, 3) := by decide +kernel
theorem dX8_coefficient_28 : decode cX8_coefficient 28 = .ok (.aload_n 0, 1) := by decide +kernel
theorem dX8_coefficient_29 : decode cX8_coefficient 29 = .ok (.getfield 10, 3) := by decide +kernel
theorem dX8_coefficient_32 : decode cX8_coefficient 32 = .ok (.getfield 103, 3) := by decide +kernel
theorem dX8_coefficient_35 : decode cX8_coefficient 35 = .ok (.invokevirtual 132, 3) := by decide +kernel
theorem dX8_coefficient_38 : decode cX8_coefficient 38 = .ok (.aload_n 0, 1) := by decide +kernel
theorem dX8_coefficient_39 : decode cX8_coefficient 39 = .ok (.getfield 10, 3) := by decide +kernel
theorem dX8_coefficient_42 : decode cX8_coefficient 42 = .ok (.getfield 73, 3) := by decide +kernel
theorem dX8_coefficient_45 : decode cX8_coefficient 45 = .ok (.iload_n 1, 1) := by decide +kernel
theorem dX8_coefficient_46 : decode cX8_coefficient 46 = .ok (.invokevirtual 138, 3) := by decide +kernel
theorem dX8_coefficient_49 : decode cX8_coefficient 49 = .ok (.iushr, 1) := by decide +kernel
theorem dX8_coefficient_50 : decode cX8_coefficient 50 = .ok (.iconst 1, 1) := by decide +kernel
theorem dX8_coefficient_51 : decode cX8_coefficient 51 = .ok (.iand, 1) := by decide +kernel
theorem dX8_coefficient_52 : decode cX8_coefficient 52 = .ok (.ireturn, 1) := by decide +kernel
set_option maxRecDepth 20000 in
theorem ggX8_votes_X0_hold : GoodIn wsX8_votes wsX0_hold := goodIn_r _ [10, 11, 12, 13, 14, 15, 16, 17, 18, 19, 9, 20, 21, 22, 23, 24, 25, 26, 27, 28, 29, 30, 31, 32, 33, 34, 35, 36, 37, 38, 39, 40, 41, 42, 43, 44, 45, 46, 47, 48, 49, 50, 65, 66, 67, 68, 69, 70, 71, 72, 73, 74] (by decide +kernel) (by decide +kernel)
set_option maxRecDepth 20000 in
theorem gX8_votes_X0_hold : GoodIn wsX8_votes (wsV RX8 141 RX0 yX0_hold wsX0_hold) := goodIn_app (goodIn_of _ (by decide +kernel)) ggX8_votes_X0_hold
theorem dX8_votes_0 : decode cX8_votes 0 = .ok (.aload_n 0, 1) := by decide +kernel
theorem dX8_votes_1 : decode cX8_votes 1 = .ok (.getfield 36, 3) := by decide +kernel
theorem dX8_votes_4 : decode cX8_votes 4 = .ok (.aload_n 0, 1) := by decide +kernel
theorem dX8_votes_5 : decode cX8_votes 5 = .ok (.getfield 10, 3) := by decide +kernel
theorem dX8_votes_8 : decode cX8_votes 8 = .ok (.getfield 73, 3) := by decide +kernel
theorem dX8_votes_11 : decode cX8_votes 11 = .ok (.aload_n 0, 1) := by decide +kernel
theorem dX8_votes_12 : decode cX8_votes 12 = .ok (.getfield 10, 3) := by decide +kernel
theorem dX8_votes_15 : decode cX8_votes 15 = .ok (.getfield 103, 3) := by decide +kernel
theorem dX8_votes_18 : decode cX8_votes 18 = .ok (.invokevirtual 141, 3) := by decide +kernel
theorem dX8_votes_21 : decode cX8_votes 21 = .ok (.aload_n 0, 1) := by decide +kernel
theorem dX8_votes_22 : decode cX8_votes 22 = .ok (.getfield 36, 3) := by decide +kernel
theorem dX8_votes_25 : decode cX8_votes 25 = .ok (.getfield 145, 3) := by decide +kernel
theorem dX8_votes_28 : decode cX8_votes 28 = .ok (.ireturn, 1) := by decide +kernel
set_option maxRecDepth 20000 in
theorem ggX8_vote_X0_hold : GoodIn wsX8_vote wsX0_hold := goodIn_r _ [13, 14, 15, 16, 17, 18, 19, 20, 21, 22, 12, 23, 24, 25, 26, 27, 28, 29, 30, 31, 32, 33, 34, 35, 36, 37, 38, 39, 40, 41, 42, 43, 44, 45, 46, 47, 48, 49, 50, 51, 52, 53, 73, 74, 75, 76, 77, 78, 79, 80, 81, 82] (by decide +kernel) (by decide +kernel)
set_option maxRecDepth 20000 in
theorem gX8_vote_X0_hold : GoodIn wsX8_vote (wsV RX8 141 RX0 yX0_hold wsX0_hold) := goodIn_app (goodIn_of _ (by decide +kernel)) ggX8_vote_X0_hold
set_option maxRecDepth 20000 in
theorem ggX8_vote_J6_bitCount_0f7a4 : GoodIn wsX8_vote wsJ6_bitCount_0f7a4 := goodIn_r _ [29, 30, 31, 32] (by decide +kernel) (by decide +kernel)
set_option maxRecDepth 20000 in
theorem gX8_vote_J6_bitCount_0f7a4 : GoodIn wsX8_vote (va_wsS RX8 127 yJ6_bitCount_0f7a4 wsJ6_bitCount_0f7a4) := goodIn_app (goodIn_of _ (by decide +kernel)) ggX8_vote_J6_bitCount_0f7a4
set_option maxRecDepth 20000 in
theorem ggX8_vote_X8_refuseBad : GoodIn wsX8_vote wsX8_refuseBad := goodIn_r _ [57, 58, 59, 60, 61, 62, 63, 64, 65, 66, 67, 68, 69] (by decide +kernel) (by decide +kernel)
set_option maxRecDepth 20000 in
theorem gX8_vote_X8_refuseBad : GoodIn wsX8_vote (wsV RX8 65 RX8 yX8_refuseBad wsX8_refuseBad) := goodIn_app (goodIn_of _ (by decide +kernel)) ggX8_vote_X8_refuseBad
theorem dX8_vote_0 : decode cX8_vote 0 = .ok (.aload_n 0, 1) := by decide +kernel
theorem dX8_vote_1 : decode cX8_vote 1 = .ok (.getfield 36, 3) := by decide +kernel
theorem dX8_vote_4 : decode cX8_vote 4 = .ok (.aload_n 0, 1) := by decide +kernel
theorem dX8_vote_5 : decode cX8_vote 5 = .ok (.getfield 10, 3) := by decide +kernel
theorem dX8_vote_8 : decode cX8_vote 8 = .ok (.getfield 73, 3) := by decide +kernel
theorem dX8_vote_11 : decode cX8_vote 11 = .ok (.aload_n 0, 1) := by decide +kernel
theorem dX8_vote_12 : decode cX8_vote 12 = .ok (.getfield 10, 3) := by decide +kernel
theorem dX8_vote_15 : decode cX8_vote 15 = .ok (.getfield 103, 3) := by decide +kernel
theorem dX8_vote_18 : decode cX8_vote 18 = .ok (.invokevirtual 141, 3) := by decide +kernel
theorem dX8_vote_21 : decode cX8_vote 21 = .ok (.iload_n 1, 1) := by decide +kernel
theorem dX8_vote_22 : decode cX8_vote 22 = .ok (.tableswitch 73 0 3 #[30, 49, 57, 65], 30) := by decide +kernel
theorem dX8_vote_52 : decode cX8_vote 52 = .ok (.aload_n 0, 1) := by decide +kernel
theorem dX8_vote_53 : decode cX8_vote 53 = .ok (.getfield 10, 3) := by decide +kernel
theorem dX8_vote_56 : decode cX8_vote 56 = .ok (.getfield 103, 3) := by decide +kernel
theorem dX8_vote_59 : decode cX8_vote 59 = .ok (.aload_n 0, 1) := by decide +kernel
theorem dX8_vote_60 : decode cX8_vote 60 = .ok (.getfield 36, 3) := by decide +kernel
theorem dX8_vote_63 : decode cX8_vote 63 = .ok (.getfield 148, 3) := by decide +kernel
theorem dX8_vote_66 : decode cX8_vote 66 = .ok (.ixor, 1) := by decide +kernel
theorem dX8_vote_67 : decode cX8_vote 67 = .ok (.invokestatic 127, 3) := by decide +kernel
theorem dX8_vote_70 : decode cX8_vote 70 = .ok (.ireturn, 1) := by decide +kernel
theorem dX8_vote_71 : decode cX8_vote 71 = .ok (.aload_n 0, 1) := by decide +kernel
theorem dX8_vote_72 : decode cX8_vote 72 = .ok (.getfield 36, 3) := by decide +kernel
theorem dX8_vote_75 : decode cX8_vote 75 = .ok (.getfield 151, 3) := by decide +kernel
theorem dX8_vote_78 : decode cX8_vote 78 = .ok (.ireturn, 1) := by decide +kernel
theorem dX8_vote_79 : decode cX8_vote 79 = .ok (.aload_n 0, 1) := by decide +kernel
theorem dX8_vote_80 : decode cX8_vote 80 = .ok (.getfield 36, 3) := by decide +kernel
theorem dX8_vote_83 : decode cX8_vote 83 = .ok (.getfield 154, 3) := by decide +kernel
theorem dX8_vote_86 : decode cX8_vote 86 = .ok (.ireturn, 1) := by decide +kernel
theorem dX8_vote_87 : decode cX8_vote 87 = .ok (.aload_n 0, 1) := by decide +kernel
theorem dX8_vote_88 : decode cX8_vote 88 = .ok (.getfield 36, 3) := by decide +kernel
theorem dX8_vote_91 : decode cX8_vote 91 = .ok (.getfield 157, 3) := by decide +kernel
theorem dX8_vote_94 : decode cX8_vote 94 = .ok (.ireturn, 1) := by decide +kernel
theorem dX8_vote_95 : decode cX8_vote 95 = .ok (.aload_n 0, 1) := by decide +kernel
theorem dX8_vote_96 : decode cX8_vote 96 = .ok (.bipush (-2), 2) := by decide +kernel
theorem dX8_vote_98 : decode cX8_vote 98 = .ok (.invokevirtual 65, 3) := by decide +kernel
theorem dX8_vote_101 : decode cX8_vote 101 = .ok (.ireturn, 1) := by decide +kernel
set_option maxRecDepth 20000 in
theorem ggX8_mends_X4_keep : GoodIn wsX8_mends wsX4_keep := goodIn_r _ [11, 12, 13, 14, 15, 16, 17, 18, 19, 20, 21, 22, 23, 24, 25, 26, 27, 28, 29, 30, 31, 32, 33, 34, 35, 36, 37, 38, 39, 40, 41, 42, 43, 44, 45, 46, 47, 48, 49, 105, 106, 107, 97, 98, 99, 108, 109, 110, 111, 112] (by decide +kernel) (by decide +kernel)
set_option maxRecDepth 20000 in
theorem gX8_mends_X4_keep : GoodIn wsX8_mends (wsV RX8 69 RX4 yX4_keep wsX4_keep) := goodIn_app (goodIn_of _ (by decide +kernel)) ggX8_mends_X4_keep
set_option maxRecDepth 20000 in
theorem ggX8_mends_X0_hold : GoodIn wsX8_mends wsX0_hold := goodIn_r _ [54, 55, 56, 57, 58, 59, 60, 61, 62, 63, 53, 64, 65, 66, 67, 44, 45, 46, 47, 48, 49, 68, 69, 70, 71, 72, 73, 74, 17, 75, 76, 77, 78, 79, 80, 81, 82, 83, 84, 36, 85, 39, 100, 101, 102, 103, 104, 108, 109, 110, 111, 112] (by decide +kernel) (by decide +kernel)
set_option maxRecDepth 20000 in
theorem gX8_mends_X0_hold : GoodIn wsX8_mends (wsV RX8 141 RX0 yX0_hold wsX0_hold) := goodIn_app (goodIn_of _ (by decide +kernel)) ggX8_mends_X0_hold
set_option maxRecDepth 20000 in
theorem ggX8_mends_J6_bitCount_0f7a4 : GoodIn wsX8_mends wsJ6_bitCount_0f7a4 := goodIn_r _ [46, 47, 48, 49] (by decide +kernel) (by decide +kernel)
set_option maxRecDepth 20000 in
theorem gX8_mends_J6_bitCount_0f7a4 : GoodIn wsX8_mends (va_wsS RX8 127 yJ6_bitCount_0f7a4 wsJ6_bitCount_0f7a4) := goodIn_app (goodIn_of _ (by decide +kernel)) ggX8_mends_J6_bitCount_0f7a4
theorem dX8_mends_0 : decode cX8_mends 0 = .ok (.aload_n 0, 1) := by decide +kernel
theorem dX8_mends_1 : decode cX8_mends 1 = .ok (.getfield 22, 3) := by decide +kernel
theorem dX8_mends_4 : decode cX8_mends 4 = .ok (.aload_n 0, 1) := by decide +kernel
theorem dX8_mends_5 : decode cX8_mends 5 = .ok (.getfield 10, 3) := by decide +kernel
theorem dX8_mends_8 : decode cX8_mends 8 = .ok (.invokevirtual 69, 3) := by decide +kernel
theorem dX8_mends_11 : decode cX8_mends 11 = .ok (.aload_n 0, 1) := by decide +kernel
theorem dX8_mends_12 : decode cX8_mends 12 = .ok (.getfield 36, 3) := by decide +kernel
theorem dX8_mends_15 : decode cX8_mends 15 = .ok (.aload_n 0, 1) := by decide +kernel
theorem dX8_mends_16 : decode cX8_mends 16 = .ok (.getfield 10, 3) := by decide +kernel
theorem dX8_mends_19 : decode cX8_mends 19 = .ok (.getfield 73, 3) := by decide +kernel
theorem dX8_mends_22 : decode cX8_mends 22 = .ok (.aload_n 0, 1) := by decide +kernel
theorem dX8_mends_23 : decode cX8_mends 23 = .ok (.getfield 10, 3) := by decide +kernel
theorem dX8_mends_26 : decode cX8_mends 26 = .ok (.getfield 103, 3) := by decide +kernel
theorem dX8_mends_29 : decode cX8_mends 29 = .ok (.invokevirtual 141, 3) := by decide +kernel
theorem dX8_mends_32 : decode cX8_mends 32 = .ok (.aload_n 0, 1) := by decide +kernel
theorem dX8_mends_33 : decode cX8_mends 33 = .ok (.getfield 10, 3) := by decide +kernel
theorem dX8_mends_36 : decode cX8_mends 36 = .ok (.getfield 103, 3) := by decide +kernel
theorem dX8_mends_39 : decode cX8_mends 39 = .ok (.aload_n 0, 1) := by decide +kernel
theorem dX8_mends_40 : decode cX8_mends 40 = .ok (.getfield 36, 3) := by decide +kernel
theorem dX8_mends_43 : decode cX8_mends 43 = .ok (.getfield 148, 3) := by decide +kernel
theorem dX8_mends_46 : decode cX8_mends 46 = .ok (.ixor, 1) := by decide +kernel
theorem dX8_mends_47 : decode cX8_mends 47 = .ok (.invokestatic 127, 3) := by decide +kernel
theorem dX8_mends_50 : decode cX8_mends 50 = .ok (.istore_n 1, 1) := by decide +kernel
theorem dX8_mends_51 : decode cX8_mends 51 = .ok (.aload_n 0, 1) := by decide +kernel
theorem dX8_mends_52 : decode cX8_mends 52 = .ok (.getfield 10, 3) := by decide +kernel
theorem dX8_mends_55 : decode cX8_mends 55 = .ok (.aload_n 0, 1) := by decide +kernel
theorem dX8_mends_56 : decode cX8_mends 56 = .ok (.getfield 36, 3) := by decide +kernel
theorem dX8_mends_59 : decode cX8_mends 59 = .ok (.getfield 148, 3) := by decide +kernel
theorem dX8_mends_62 : decode cX8_mends 62 = .ok (.putfield 103, 3) := by decide +kernel
theorem dX8_mends_65 : decode cX8_mends 65 = .ok (.iload_n 1, 1) := by decide +kernel
theorem dX8_mends_66 : decode cX8_mends 66 = .ok (.ireturn, 1) := by decide +kernel
set_option maxRecDepth 20000 in
theorem ggX8_sign_X1_hasPlace : GoodIn wsX8_sign wsX1_hasPlace := goodIn_r _ [7, 8, 50, 51, 52, 53, 54] (by decide +kernel) (by decide +kernel)
set_option maxRecDepth 20000 in
theorem gX8_sign_X1_hasPlace : GoodIn wsX8_sign (wsV RX8 115 RX1 yX1_hasPlace wsX1_hasPlace) := goodIn_app (goodIn_of _ (by decide +kernel)) ggX8_sign_X1_hasPlace
set_option maxRecDepth 20000 in
theorem ggX8_sign_X8_signsFor : GoodIn wsX8_sign wsX8_signsFor := goodIn_r _ [13, 1, 2, 14, 15, 16, 12, 17, 18, 19, 20, 21, 22, 23, 24, 25, 26, 27, 28, 29, 30, 36, 37, 38, 39, 40, 41, 42, 43, 44, 45, 46, 47, 48, 49, 50, 51, 52, 53, 54] (by decide +kernel) (by decide +kernel)
set_option maxRecDepth 20000 in
theorem gX8_sign_X8_signsFor : GoodIn wsX8_sign (wsV RX8 160 RX8 yX8_signsFor wsX8_signsFor) := goodIn_app (goodIn_of _ (by decide +kernel)) ggX8_sign_X8_signsFor
set_option maxRecDepth 20000 in
theorem ggX8_sign_X8_refuseBad : GoodIn wsX8_sign wsX8_refuseBad := goodIn_r _ [34, 35, 36, 37, 38, 39, 40, 41, 42, 43, 44, 45, 46] (by decide +kernel) (by decide +kernel)
set_option maxRecDepth 20000 in
theorem gX8_sign_X8_refuseBad : GoodIn wsX8_sign (wsV RX8 65 RX8 yX8_refuseBad wsX8_refuseBad) := goodIn_app (goodIn_of _ (by decide +kernel)) ggX8_sign_X8_refuseBad
theorem dX8_sign_0 : decode cX8_sign 0 = .ok (.aload_n 0, 1) := by decide +kernel
theorem dX8_sign_1 : decode cX8_sign 1 = .ok (.getfield 10, 3) := by decide +kernel
theorem dX8_sign_4 : decode cX8_sign 4 = .ok (.getfield 73, 3) := by decide +kernel
theorem dX8_sign_7 : decode cX8_sign 7 = .ok (.iload_n 1, 1) := by decide +kernel
theorem dX8_sign_8 : decode cX8_sign 8 = .ok (.invokevirtual 115, 3) := by decide +kernel
theorem dX8_sign_11 : decode cX8_sign 11 = .ok (.ifCond .eq 11, 3) := by decide +kernel
theorem dX8_sign_14 : decode cX8_sign 14 = .ok (.aload_n 0, 1) := by decide +kernel
theorem dX8_sign_15 : decode cX8_sign 15 = .ok (.iload_n 1, 1) := by decide +kernel
theorem dX8_sign_16 : decode cX8_sign 16 = .ok (.invokevirtual 160, 3) := by decide +kernel
theorem dX8_sign_19 : decode cX8_sign 19 = .ok (.goto 10, 3) := by decide +kernel
theorem dX8_sign_22 : decode cX8_sign 22 = .ok (.aload_n 0, 1) := by decide +kernel
theorem dX8_sign_23 : decode cX8_sign 23 = .ok (.sipush 1000, 3) := by decide +kernel
theorem dX8_sign_26 : decode cX8_sign 26 = .ok (.invokevirtual 65, 3) := by decide +kernel
theorem dX8_sign_29 : decode cX8_sign 29 = .ok (.ireturn, 1) := by decide +kernel
set_option maxRecDepth 20000 in
theorem ggX8_best_X8_refuseBad : GoodIn wsX8_best wsX8_refuseBad := goodIn_r _ [12, 13, 34, 35, 36, 37, 38, 39, 40, 41, 42, 43, 44] (by decide +kernel) (by decide +kernel)
set_option maxRecDepth 20000 in
theorem gX8_best_X8_refuseBad : GoodIn wsX8_best (wsV RX8 65 RX8 yX8_refuseBad wsX8_refuseBad) := goodIn_app (goodIn_of _ (by decide +kernel)) ggX8_best_X8_refuseBad
set_option maxRecDepth 20000 in
theorem ggX8_best_X8_signsFor : GoodIn wsX8_best wsX8_signsFor := goodIn_r _ [17, 1, 2, 3, 18, 19, 11, 20, 21, 22, 23, 24, 25, 26, 27, 28, 29, 30, 31, 32, 33, 34, 35, 36, 37, 38, 39, 40, 41, 42, 43, 44, 45, 46, 47, 48, 49, 50, 51, 52] (by decide +kernel) (by decide +kernel)
set_option maxRecDepth 20000 in
theorem gX8_best_X8_signsFor : GoodIn wsX8_best (wsV RX8 160 RX8 yX8_signsFor wsX8_signsFor) := goodIn_app (goodIn_of _ (by decide +kernel)) ggX8_best_X8_signsFor
theorem dX8_best_0 : decode cX8_best 0 = .ok (.iload_n 1, 1) := by decide +kernel
theorem dX8_best_1 : decode cX8_best 1 = .ok (.ifCond .lt 8, 3) := by decide +kernel
theorem dX8_best_4 : decode cX8_best 4 = .ok (.iload_n 1, 1) := by decide +kernel
theorem dX8_best_5 : decode cX8_best 5 = .ok (.iconst 2, 1) := by decide +kernel
theorem dX8_best_6 : decode cX8_best 6 = .ok (.if_icmp .le 10, 3) := by decide +kernel
theorem dX8_best_9 : decode cX8_best 9 = .ok (.aload_n 0, 1) := by decide +kernel
theorem dX8_best_10 : decode cX8_best 10 = .ok (.bipush (-2), 2) := by decide +kernel
theorem dX8_best_12 : decode cX8_best 12 = .ok (.invokevirtual 65, 3) := by decide +kernel
theorem dX8_best_15 : decode cX8_best 15 = .ok (.ireturn, 1) := by decide +kernel
theorem dX8_best_16 : decode cX8_best 16 = .ok (.iconst 0, 1) := by decide +kernel
theorem dX8_best_17 : decode cX8_best 17 = .ok (.istore_n 2, 1) := by decide +kernel
theorem dX8_best_18 : decode cX8_best 18 = .ok (.aload_n 0, 1) := by decide +kernel
theorem dX8_best_19 : decode cX8_best 19 = .ok (.iconst 0, 1) := by decide +kernel
theorem dX8_best_20 : decode cX8_best 20 = .ok (.invokevirtual 160, 3) := by decide +kernel
theorem dX8_best_23 : decode cX8_best 23 = .ok (.istore_n 3, 1) := by decide +kernel
theorem dX8_best_24 : decode cX8_best 24 = .ok (.iconst 1, 1) := by decide +kernel
theorem dX8_best_25 : decode cX8_best 25 = .ok (.istore 4, 2) := by decide +kernel
theorem dX8_best_27 : decode cX8_best 27 = .ok (.iconst 1, 1) := by decide +kernel
theorem dX8_best_28 : decode cX8_best 28 = .ok (.istore 5, 2) := by decide +kernel
theorem dX8_best_30 : decode cX8_best 30 = .ok (.iload 5, 2) := by decide +kernel
theorem dX8_best_32 : decode cX8_best 32 = .ok (.aload_n 0, 1) := by decide +kernel
theorem dX8_best_33 : decode cX8_best 33 = .ok (.getfield 10, 3) := by decide +kernel
theorem dX8_best_36 : decode cX8_best 36 = .ok (.getfield 73, 3) := by decide +kernel
theorem dX8_best_39 : decode cX8_best 39 = .ok (.getfield 93, 3) := by decide +kernel
theorem dX8_best_42 : decode cX8_best 42 = .ok (.if_icmp .ge 56, 3) := by decide +kernel
theorem dX8_best_45 : decode cX8_best 45 = .ok (.aload_n 0, 1) := by decide +kernel
theorem dX8_best_46 : decode cX8_best 46 = .ok (.iload 5, 2) := by decide +kernel
theorem dX8_best_48 : decode cX8_best 48 = .ok (.invokevirtual 160, 3) := by decide +kernel
theorem dX8_best_51 : decode cX8_best 51 = .ok (.istore 6, 2) := by decide +kernel
theorem dX8_best_53 : decode cX8_best 53 = .ok (.iload 6, 2) := by decide +kernel
theorem dX8_best_55 : decode cX8_best 55 = .ok (.invokestatic 163, 3) := by decide +kernel
theorem dX8_best_58 : decode cX8_best 58 = .ok (.iload_n 3, 1) := by decide +kernel
theorem dX8_best_59 : decode cX8_best 59 = .ok (.invokestatic 163, 3) := by decide +kernel
theorem dX8_best_62 : decode cX8_best 62 = .ok (.if_icmp .le 15, 3) := by decide +kernel
theorem dX8_best_65 : decode cX8_best 65 = .ok (.iload 5, 2) := by decide +kernel
theorem dX8_best_67 : decode cX8_best 67 = .ok (.istore_n 2, 1) := by decide +kernel
theorem dX8_best_68 : decode cX8_best 68 = .ok (.iload 6, 2) := by decide +kernel
theorem dX8_best_70 : decode cX8_best 70 = .ok (.istore_n 3, 1) := by decide +kernel
theorem dX8_best_71 : decode cX8_best 71 = .ok (.iconst 1, 1) := by decide +kernel
theorem dX8_best_72 : decode cX8_best 72 = .ok (.istore 4, 2) := by decide +kernel
theorem dX8_best_74 : decode cX8_best 74 = .ok (.goto 18, 3) := by decide +kernel
theorem dX8_best_77 : decode cX8_best 77 = .ok (.iload 6, 2) := by decide +kernel
theorem dX8_best_79 : decode cX8_best 79 = .ok (.invokestatic 163, 3) := by decide +kernel
theorem dX8_best_82 : decode cX8_best 82 = .ok (.iload_n 3, 1) := by decide +kernel
theorem dX8_best_83 : decode cX8_best 83 = .ok (.invokestatic 163, 3) := by decide +kernel
theorem dX8_best_86 : decode cX8_best 86 = .ok (.if_icmp .ne 6, 3) := by decide +kernel
theorem dX8_best_89 : decode cX8_best 89 = .ok (.iinc 4 1, 3) := by decide +kernel
theorem dX8_best_92 : decode cX8_best 92 = .ok (.iinc 5 1, 3) := by decide +kernel
theorem dX8_best_95 : decode cX8_best 95 = .ok (.goto (-65), 3) := by decide +kernel
theorem dX8_best_98 : decode cX8_best 98 = .ok (.iload_n 1, 1) := by decide +kernel
theorem dX8_best_99 : decode cX8_best 99 = .ok (.ifCond .ne 5, 3) := by decide +kernel
theorem dX8_best_102 : decode cX8_best 102 = .ok (.iload_n 2, 1) := by decide +kernel
theorem dX8_best_103 : decode cX8_best 103 = .ok (.ireturn, 1) := by decide +kernel
theorem dX8_best_104 : decode cX8_best 104 = .ok (.iload_n 1, 1) := by decide +kernel
theorem dX8_best_105 : decode cX8_best 105 = .ok (.iconst 1, 1) := by decide +kernel
theorem dX8_best_106 : decode cX8_best 106 = .ok (.if_icmp .ne 7, 3) := by decide +kernel
theorem dX8_best_109 : decode cX8_best 109 = .ok (.iload_n 3, 1) := by decide +kernel
theorem dX8_best_110 : decode cX8_best 110 = .ok (.goto 5, 3) := by decide +kernel
theorem dX8_best_113 : decode cX8_best 113 = .ok (.iload 4, 2) := by decide +kernel
theorem dX8_best_115 : decode cX8_best 115 = .ok (.ireturn, 1) := by decide +kernel
set_option maxRecDepth 20000 in
theorem ggX8_nearest_X8_refuseBad : GoodIn wsX8_nearest wsX8_refuseBad := goodIn_r _ [11, 12, 69, 70, 71, 72, 73, 74, 75, 76, 77, 78, 79] (by decide +kernel) (by decide +kernel)
set_option maxRecDepth 20000 in
theorem gX8_nearest_X8_refuseBad : GoodIn wsX8_nearest (wsV RX8 65 RX8 yX8_refuseBad wsX8_refuseBad) := goodIn_app (goodIn_of _ (by decide +kernel)) ggX8_nearest_X8_refuseBad
set_option maxRecDepth 20000 in
theorem ggX8_nearest_X1_canBeWalked : GoodIn wsX8_nearest wsX1_canBeWalked := goodIn_r _ [17, 18, 89, 90, 91, 92, 93] (by decide +kernel) (by decide +kernel)
set_option maxRecDepth 20000 in
theorem gX8_nearest_X1_canBeWalked : GoodIn wsX8_nearest (wsV RX8 168 RX1 yX1_canBeWalked wsX1_canBeWalked) := goodIn_app (goodIn_of _ (by decide +kernel)) ggX8_nearest_X1_canBeWalked
set_option maxRecDepth 20000 in
theorem ggX8_nearest_X8_refuseNo : GoodIn wsX8_nearest wsX8_refuseNo := goodIn_r _ [22, 23, 69, 70, 71, 72, 73, 74, 75, 76, 77, 78, 79] (by decide +kernel) (by decide +kernel)
set_option maxRecDepth 20000 in
theorem gX8_nearest_X8_refuseNo : GoodIn wsX8_nearest (wsV RX8 172 RX8 yX8_refuseNo wsX8_refuseNo) := goodIn_app (goodIn_of _ (by decide +kernel)) ggX8_nearest_X8_refuseNo
set_option maxRecDepth 20000 in
theorem ggX8_nearest_X7_seek : GoodIn wsX8_nearest wsX7_seek := goodIn_r _ [28, 29, 30, 31, 32, 33, 34, 35, 36, 27, 37, 38, 39, 40, 41, 42, 43, 44, 45, 46, 16, 47, 48, 49, 50, 51, 52, 53, 54, 55, 56, 57, 58, 59, 60, 61, 62, 63, 64, 65, 66, 67, 68, 83, 84, 85, 86, 87, 88, 89, 90, 91, 92, 93] (by decide +kernel) (by decide +kernel)
set_option maxRecDepth 20000 in
theorem gX8_nearest_X7_seek : GoodIn wsX8_nearest (wsV RX8 175 RX7 yX7_seek wsX7_seek) := goodIn_app (goodIn_of _ (by decide +kernel)) ggX8_nearest_X7_seek
theorem dX8_nearest_0 : decode cX8_nearest 0 = .ok (.iload_n 1, 1) := by decide +kernel
theorem dX8_nearest_1 : decode cX8_nearest 1 = .ok (.ifCond .lt 8, 3) := by decide +kernel
theorem dX8_nearest_4 : decode cX8_nearest 4 = .ok (.iload_n 1, 1) := by decide +kernel
theorem dX8_nearest_5 : decode cX8_nearest 5 = .ok (.iconst 1, 1) := by decide +kernel
theorem dX8_nearest_6 : decode cX8_nearest 6 = .ok (.if_icmp .le 10, 3) := by decide +kernel
theorem dX8_nearest_9 : decode cX8_nearest 9 = .ok (.aload_n 0, 1) := by decide +kernel
theorem dX8_nearest_10 : decode cX8_nearest 10 = .ok (.bipush (-2), 2) := by decide +kernel
theorem dX8_nearest_12 : decode cX8_nearest 12 = .ok (.invokevirtual 65, 3) := by decide +kernel
theorem dX8_nearest_15 : decode cX8_nearest 15 = .ok (.ireturn, 1) := by decide +kernel
theorem dX8_nearest_16 : decode cX8_nearest 16 = .ok (.aload_n 0, 1) := by decide +kernel
theorem dX8_nearest_17 : decode cX8_nearest 17 = .ok (.getfield 10, 3) := by decide +kernel
theorem dX8_nearest_20 : decode cX8_nearest 20 = .ok (.getfield 73, 3) := by decide +kernel
theorem dX8_nearest_23 : decode cX8_nearest 23 = .ok (.invokevirtual 168, 3) := by decide +kernel
theorem dX8_nearest_26 : decode cX8_nearest 26 = .ok (.ifCond .ne 10, 3) := by decide +kernel
theorem dX8_nearest_29 : decode cX8_nearest 29 = .ok (.aload_n 0, 1) := by decide +kernel
theorem dX8_nearest_30 : decode cX8_nearest 30 = .ok (.bipush (-3), 2) := by decide +kernel
theorem dX8_nearest_32 : decode cX8_nearest 32 = .ok (.invokevirtual 172, 3) := by decide +kernel
theorem dX8_nearest_35 : decode cX8_nearest 35 = .ok (.ireturn, 1) := by decide +kernel
theorem dX8_nearest_36 : decode cX8_nearest 36 = .ok (.aload_n 0, 1) := by decide +kernel
theorem dX8_nearest_37 : decode cX8_nearest 37 = .ok (.getfield 57, 3) := by decide +kernel
theorem dX8_nearest_40 : decode cX8_nearest 40 = .ok (.aload_n 0, 1) := by decide +kernel
theorem dX8_nearest_41 : decode cX8_nearest 41 = .ok (.getfield 10, 3) := by decide +kernel
theorem dX8_nearest_44 : decode cX8_nearest 44 = .ok (.getfield 73, 3) := by decide +kernel
theorem dX8_nearest_47 : decode cX8_nearest 47 = .ok (.aload_n 0, 1) := by decide +kernel
theorem dX8_nearest_48 : decode cX8_nearest 48 = .ok (.getfield 10, 3) := by decide +kernel
theorem dX8_nearest_51 : decode cX8_nearest 51 = .ok (.getfield 103, 3) := by decide +kernel
theorem dX8_nearest_54 : decode cX8_nearest 54 = .ok (.invokevirtual 175, 3) := by decide +kernel
theorem dX8_nearest_57 : decode cX8_nearest 57 = .ok (.iload_n 1, 1) := by decide +kernel
theorem dX8_nearest_58 : decode cX8_nearest 58 = .ok (.ifCond .ne 13, 3) := by decide +kernel
theorem dX8_nearest_61 : decode cX8_nearest 61 = .ok (.aload_n 0, 1) := by decide +kernel
theorem dX8_nearest_62 : decode cX8_nearest 62 = .ok (.getfield 57, 3) := by decide +kernel
theorem dX8_nearest_65 : decode cX8_nearest 65 = .ok (.getfield 178, 3) := by decide +kernel
theorem dX8_nearest_68 : decode cX8_nearest 68 = .ok (.goto 10, 3) := by decide +kernel
theorem dX8_nearest_71 : decode cX8_nearest 71 = .ok (.aload_n 0, 1) := by decide +kernel
theorem dX8_nearest_72 : decode cX8_nearest 72 = .ok (.getfield 57, 3) := by decide +kernel
theorem dX8_nearest_75 : decode cX8_nearest 75 = .ok (.getfield 181, 3) := by decide +kernel
theorem dX8_nearest_78 : decode cX8_nearest 78 = .ok (.ireturn, 1) := by decide +kernel
set_option maxRecDepth 20000 in
theorem ggX8_near_X1_canBeWalked : GoodIn wsX8_near wsX1_canBeWalked := goodIn_r _ [10, 11, 83, 84, 85, 86, 87] (by decide +kernel) (by decide +kernel)
set_option maxRecDepth 20000 in
theorem gX8_near_X1_canBeWalked : GoodIn wsX8_near (wsV RX8 168 RX1 yX1_canBeWalked wsX1_canBeWalked) := goodIn_app (goodIn_of _ (by decide +kernel)) ggX8_near_X1_canBeWalked
set_option maxRecDepth 20000 in
theorem ggX8_near_X8_refuseNo : GoodIn wsX8_near wsX8_refuseNo := goodIn_r _ [16, 17, 63, 64, 65, 66, 67, 68, 69, 70, 71, 72, 73] (by decide +kernel) (by decide +kernel)
set_option maxRecDepth 20000 in
theorem gX8_near_X8_refuseNo : GoodIn wsX8_near (wsV RX8 172 RX8 yX8_refuseNo wsX8_refuseNo) := goodIn_app (goodIn_of _ (by decide +kernel)) ggX8_near_X8_refuseNo
set_option maxRecDepth 20000 in
theorem ggX8_near_X7_seek : GoodIn wsX8_near wsX7_seek := goodIn_r _ [22, 23, 24, 25, 26, 27, 28, 29, 30, 21, 31, 32, 33, 34, 35, 36, 37, 38, 39, 40, 9, 41, 42, 43, 44, 45, 46, 47, 48, 49, 50, 51, 52, 53, 54, 55, 56, 57, 58, 59, 60, 61, 62, 77, 78, 79, 80, 81, 82, 83, 84, 85, 86, 87] (by decide +kernel) (by decide +kernel)
set_option maxRecDepth 20000 in
theorem gX8_near_X7_seek : GoodIn wsX8_near (wsV RX8 175 RX7 yX7_seek wsX7_seek) := goodIn_app (goodIn_of _ (by decide +kernel)) ggX8_near_X7_seek
theorem dX8_near_0 : decode cX8_near 0 = .ok (.aload_n 0, 1) := by decide +kernel
theorem dX8_near_1 : decode cX8_near 1 = .ok (.getfield 10, 3) := by decide +kernel
theorem dX8_near_4 : decode cX8_near 4 = .ok (.getfield 73, 3) := by decide +kernel
theorem dX8_near_7 : decode cX8_near 7 = .ok (.invokevirtual 168, 3) := by decide +kernel
theorem dX8_near_10 : decode cX8_near 10 = .ok (.ifCond .ne 9, 3) := by decide +kernel
theorem dX8_near_13 : decode cX8_near 13 = .ok (.aload_n 0, 1) := by decide +kernel
theorem dX8_near_14 : decode cX8_near 14 = .ok (.iconst 0, 1) := by decide +kernel
theorem dX8_near_15 : decode cX8_near 15 = .ok (.invokevirtual 172, 3) := by decide +kernel
theorem dX8_near_18 : decode cX8_near 18 = .ok (.ireturn, 1) := by decide +kernel
theorem dX8_near_19 : decode cX8_near 19 = .ok (.aload_n 0, 1) := by decide +kernel
theorem dX8_near_20 : decode cX8_near 20 = .ok (.getfield 57, 3) := by decide +kernel
theorem dX8_near_23 : decode cX8_near 23 = .ok (.aload_n 0, 1) := by decide +kernel
theorem dX8_near_24 : decode cX8_near 24 = .ok (.getfield 10, 3) := by decide +kernel
theorem dX8_near_27 : decode cX8_near 27 = .ok (.getfield 73, 3) := by decide +kernel
theorem dX8_near_30 : decode cX8_near 30 = .ok (.aload_n 0, 1) := by decide +kernel
theorem dX8_near_31 : decode cX8_near 31 = .ok (.getfield 10, 3) := by decide +kernel
theorem dX8_near_34 : decode cX8_near 34 = .ok (.getfield 103, 3) := by decide +kernel
theorem dX8_near_37 : decode cX8_near 37 = .ok (.invokevirtual 175, 3) := by decide +kernel
theorem dX8_near_40 : decode cX8_near 40 = .ok (.aload_n 0, 1) := by decide +kernel
theorem dX8_near_41 : decode cX8_near 41 = .ok (.getfield 57, 3) := by decide +kernel
theorem dX8_near_44 : decode cX8_near 44 = .ok (.getfield 184, 3) := by decide +kernel
theorem dX8_near_47 : decode cX8_near 47 = .ok (.ireturn, 1) := by decide +kernel
set_option maxRecDepth 20000 in
theorem ggX8_soft_X1_hasPlace : GoodIn wsX8_soft wsX1_hasPlace := goodIn_r _ [9, 10, 72, 73, 74, 75, 76] (by decide +kernel) (by decide +kernel)
set_option maxRecDepth 20000 in
theorem gX8_soft_X1_hasPlace : GoodIn wsX8_soft (wsV RX8 115 RX1 yX1_hasPlace wsX1_hasPlace) := goodIn_app (goodIn_of _ (by decide +kernel)) ggX8_soft_X1_hasPlace
set_option maxRecDepth 20000 in
theorem ggX8_soft_X8_refuseBad : GoodIn wsX8_soft wsX8_refuseBad := goodIn_r _ [15, 16, 58, 59, 60, 61, 62, 63, 64, 65, 66, 67, 68] (by decide +kernel) (by decide +kernel)
set_option maxRecDepth 20000 in
theorem gX8_soft_X8_refuseBad : GoodIn wsX8_soft (wsV RX8 65 RX8 yX8_refuseBad wsX8_refuseBad) := goodIn_app (goodIn_of _ (by decide +kernel)) ggX8_soft_X8_refuseBad
set_option maxRecDepth 20000 in
theorem ggX8_soft_X4_keep : GoodIn wsX8_soft wsX4_keep := goodIn_r _ [21, 22, 23, 24, 25, 26, 27, 28, 29, 30, 31, 32, 33, 34, 35, 36, 37, 38, 39, 40, 41, 42, 43, 44, 45, 8, 46, 47, 48, 10, 49, 50, 51, 52, 53, 54, 55, 56, 57, 77, 78, 79, 69, 70, 71, 72, 73, 74, 75, 76] (by decide +kernel) (by decide +kernel)
set_option maxRecDepth 20000 in
theorem gX8_soft_X4_keep : GoodIn wsX8_soft (wsV RX8 69 RX4 yX4_keep wsX4_keep) := goodIn_app (goodIn_of _ (by decide +kernel)) ggX8_soft_X4_keep
theorem dX8_soft_0 : decode cX8_soft 0 = .ok (.aload_n 0, 1) := by decide +kernel
theorem dX8_soft_1 : decode cX8_soft 1 = .ok (.getfield 10, 3) := by decide +kernel
theorem dX8_soft_4 : decode cX8_soft 4 = .ok (.getfield 73, 3) := by decide +kernel
theorem dX8_soft_7 : decode cX8_soft 7 = .ok (.iload_n 1, 1) := by decide +kernel
theorem dX8_soft_8 : decode cX8_soft 8 = .ok (.invokevirtual 115, 3) := by decide +kernel
theorem dX8_soft_11 : decode cX8_soft 11 = .ok (.ifCond .eq 15, 3) := by decide +kernel
theorem dX8_soft_14 : decode cX8_soft 14 = .ok (.iload_n 2, 1) := by decide +kernel
theorem dX8_soft_15 : decode cX8_soft 15 = .ok (.bipush (-99), 2) := by decide +kernel
theorem dX8_soft_17 : decode cX8_soft 17 = .ok (.if_icmp .lt 9, 3) := by decide +kernel
theorem dX8_soft_20 : decode cX8_soft 20 = .ok (.iload_n 2, 1) := by decide +kernel
theorem dX8_soft_21 : decode cX8_soft 21 = .ok (.bipush 99, 2) := by decide +kernel
theorem dX8_soft_23 : decode cX8_soft 23 = .ok (.if_icmp .le 11, 3) := by decide +kernel
theorem dX8_soft_26 : decode cX8_soft 26 = .ok (.aload_n 0, 1) := by decide +kernel
theorem dX8_soft_27 : decode cX8_soft 27 = .ok (.sipush (-1000), 3) := by decide +kernel
theorem dX8_soft_30 : decode cX8_soft 30 = .ok (.invokevirtual 65, 3) := by decide +kernel
theorem dX8_soft_33 : decode cX8_soft 33 = .ok (.ireturn, 1) := by decide +kernel
theorem dX8_soft_34 : decode cX8_soft 34 = .ok (.aload_n 0, 1) := by decide +kernel
theorem dX8_soft_35 : decode cX8_soft 35 = .ok (.getfield 22, 3) := by decide +kernel
theorem dX8_soft_38 : decode cX8_soft 38 = .ok (.aload_n 0, 1) := by decide +kernel
theorem dX8_soft_39 : decode cX8_soft 39 = .ok (.getfield 10, 3) := by decide +kernel
theorem dX8_soft_42 : decode cX8_soft 42 = .ok (.invokevirtual 69, 3) := by decide +kernel
theorem dX8_soft_45 : decode cX8_soft 45 = .ok (.aload_n 0, 1) := by decide +kernel
theorem dX8_soft_46 : decode cX8_soft 46 = .ok (.getfield 10, 3) := by decide +kernel
theorem dX8_soft_49 : decode cX8_soft 49 = .ok (.getfield 187, 3) := by decide +kernel
theorem dX8_soft_52 : decode cX8_soft 52 = .ok (.iload_n 1, 1) := by decide +kernel
theorem dX8_soft_53 : decode cX8_soft 53 = .ok (.iaload, 1) := by decide +kernel
theorem dX8_soft_54 : decode cX8_soft 54 = .ok (.istore_n 3, 1) := by decide +kernel
theorem dX8_soft_55 : decode cX8_soft 55 = .ok (.aload_n 0, 1) := by decide +kernel
theorem dX8_soft_56 : decode cX8_soft 56 = .ok (.getfield 10, 3) := by decide +kernel
theorem dX8_soft_59 : decode cX8_soft 59 = .ok (.getfield 187, 3) := by decide +kernel
theorem dX8_soft_62 : decode cX8_soft 62 = .ok (.iload_n 1, 1) := by decide +kernel
theorem dX8_soft_63 : decode cX8_soft 63 = .ok (.iload_n 2, 1) := by decide +kernel
theorem dX8_soft_64 : decode cX8_soft 64 = .ok (.iastore, 1) := by decide +kernel
theorem dX8_soft_65 : decode cX8_soft 65 = .ok (.iload_n 3, 1) := by decide +kernel
theorem dX8_soft_66 : decode cX8_soft 66 = .ok (.ireturn, 1) := by decide +kernel
set_option maxRecDepth 20000 in
theorem ggX8_harden_X8_refuseBad : GoodIn wsX8_harden wsX8_refuseBad := goodIn_r _ [10, 11, 59, 60, 61, 62, 63, 64, 65, 66, 67, 68, 69] (by decide +kernel) (by decide +kernel)
set_option maxRecDepth 20000 in
theorem gX8_harden_X8_refuseBad : GoodIn wsX8_harden (wsV RX8 65 RX8 yX8_refuseBad wsX8_refuseBad) := goodIn_app (goodIn_of _ (by decide +kernel)) ggX8_harden_X8_refuseBad
set_option maxRecDepth 20000 in
theorem ggX8_harden_X4_keep : GoodIn wsX8_harden wsX4_keep := goodIn_r _ [16, 17, 18, 19, 20, 21, 22, 23, 24, 25, 26, 27, 28, 29, 30, 31, 32, 33, 34, 35, 36, 37, 38, 39, 40, 41, 42, 43, 44, 45, 46, 47, 48, 49, 50, 51, 52, 53, 54, 78, 79, 80, 70, 71, 72, 73, 74, 75, 76, 77] (by decide +kernel) (by decide +kernel)
set_option maxRecDepth 20000 in
theorem gX8_harden_X4_keep : GoodIn wsX8_harden (wsV RX8 69 RX4 yX4_keep wsX4_keep) := goodIn_app (goodIn_of _ (by decide +kernel)) ggX8_harden_X4_keep
set_option maxRecDepth 20000 in
theorem ggX8_harden_X5_bit : GoodIn wsX8_harden wsX5_bit := goodIn_r _ [58, 32, 70, 71, 72] (by decide +kernel) (by decide +kernel)
set_option maxRecDepth 20000 in
theorem gX8_harden_X5_bit : GoodIn wsX8_harden (wsV RX8 119 RX5 yX5_bit wsX5_bit) := goodIn_app (goodIn_of _ (by decide +kernel)) ggX8_harden_X5_bit
theorem dX8_harden_0 : decode cX8_harden 0 = .ok (.iload_n 1, 1) := by decide +kernel
theorem dX8_harden_1 : decode cX8_harden 1 = .ok (.iconst 1, 1) := by decide +kernel
theorem dX8_harden_2 : decode cX8_harden 2 = .ok (.if_icmp .lt 9, 3) := by decide +kernel
theorem dX8_harden_5 : decode cX8_harden 5 = .ok (.iload_n 1, 1) := by decide +kernel
theorem dX8_harden_6 : decode cX8_harden 6 = .ok (.bipush 99, 2) := by decide +kernel
theorem dX8_harden_8 : decode cX8_harden 8 = .ok (.if_icmp .le 10, 3) := by decide +kernel
theorem dX8_harden_11 : decode cX8_harden 11 = .ok (.aload_n 0, 1) := by decide +kernel
theorem dX8_harden_12 : decode cX8_harden 12 = .ok (.bipush (-2), 2) := by decide +kernel
theorem dX8_harden_14 : decode cX8_harden 14 = .ok (.invokevirtual 65, 3) := by decide +kernel
theorem dX8_harden_17 : decode cX8_harden 17 = .ok (.ireturn, 1) := by decide +kernel
theorem dX8_harden_18 : decode cX8_harden 18 = .ok (.aload_n 0, 1) := by decide +kernel
theorem dX8_harden_19 : decode cX8_harden 19 = .ok (.getfield 22, 3) := by decide +kernel
theorem dX8_harden_22 : decode cX8_harden 22 = .ok (.aload_n 0, 1) := by decide +kernel
theorem dX8_harden_23 : decode cX8_harden 23 = .ok (.getfield 10, 3) := by decide +kernel
theorem dX8_harden_26 : decode cX8_harden 26 = .ok (.invokevirtual 69, 3) := by decide +kernel
theorem dX8_harden_29 : decode cX8_harden 29 = .ok (.iconst 0, 1) := by decide +kernel
theorem dX8_harden_30 : decode cX8_harden 30 = .ok (.istore_n 2, 1) := by decide +kernel
theorem dX8_harden_31 : decode cX8_harden 31 = .ok (.iload_n 2, 1) := by decide +kernel
theorem dX8_harden_32 : decode cX8_harden 32 = .ok (.aload_n 0, 1) := by decide +kernel
theorem dX8_harden_33 : decode cX8_harden 33 = .ok (.getfield 10, 3) := by decide +kernel
theorem dX8_harden_36 : decode cX8_harden 36 = .ok (.getfield 73, 3) := by decide +kernel
theorem dX8_harden_39 : decode cX8_harden 39 = .ok (.getfield 93, 3) := by decide +kernel
theorem dX8_harden_42 : decode cX8_harden 42 = .ok (.if_icmp .ge 35, 3) := by decide +kernel
theorem dX8_harden_45 : decode cX8_harden 45 = .ok (.aload_n 0, 1) := by decide +kernel
theorem dX8_harden_46 : decode cX8_harden 46 = .ok (.getfield 10, 3) := by decide +kernel
theorem dX8_harden_49 : decode cX8_harden 49 = .ok (.getfield 187, 3) := by decide +kernel
theorem dX8_harden_52 : decode cX8_harden 52 = .ok (.iload_n 2, 1) := by decide +kernel
theorem dX8_harden_53 : decode cX8_harden 53 = .ok (.aload_n 0, 1) := by decide +kernel
theorem dX8_harden_54 : decode cX8_harden 54 = .ok (.getfield 10, 3) := by decide +kernel
theorem dX8_harden_57 : decode cX8_harden 57 = .ok (.iload_n 2, 1) := by decide +kernel
theorem dX8_harden_58 : decode cX8_harden 58 = .ok (.invokevirtual 119, 3) := by decide +kernel
theorem dX8_harden_61 : decode cX8_harden 61 = .ok (.ifCond .ne 7, 3) := by decide +kernel
theorem dX8_harden_64 : decode cX8_harden 64 = .ok (.iload_n 1, 1) := by decide +kernel
theorem dX8_harden_65 : decode cX8_harden 65 = .ok (.goto 5, 3) := by decide +kernel
theorem dX8_harden_68 : decode cX8_harden 68 = .ok (.iload_n 1, 1) := by decide +kernel
theorem dX8_harden_69 : decode cX8_harden 69 = .ok (.ineg, 1) := by decide +kernel
theorem dX8_harden_70 : decode cX8_harden 70 = .ok (.iastore, 1) := by decide +kernel
theorem dX8_harden_71 : decode cX8_harden 71 = .ok (.iinc 2 1, 3) := by decide +kernel
theorem dX8_harden_74 : decode cX8_harden 74 = .ok (.goto (-43), 3) := by decide +kernel
theorem dX8_harden_77 : decode cX8_harden 77 = .ok (.iload_n 1, 1) := by decide +kernel
theorem dX8_harden_78 : decode cX8_harden 78 = .ok (.ireturn, 1) := by decide +kernel
set_option maxRecDepth 20000 in
theorem ggX8_halves_X2_solve : GoodIn wsX8_halves wsX2_solve := goodIn_r _ [9, 10, 11, 12, 13, 14, 15, 16, 17, 18, 19, 20, 8, 21, 22, 23, 24, 25, 26, 27, 28, 29, 30, 31, 32, 33, 34, 35, 36, 37, 38, 39, 40, 41, 42, 43, 44, 45, 46, 47, 62, 63, 64, 65, 66, 67] (by decide +kernel) (by decide +kernel)
set_option maxRecDepth 20000 in
theorem gX8_halves_X2_solve : GoodIn wsX8_halves (wsV RX8 190 RX2 yX2_solve wsX2_solve) := goodIn_app (goodIn_of _ (by decide +kernel)) ggX8_halves_X2_solve
theorem dX8_halves_0 : decode cX8_halves 0 = .ok (.aload_n 0, 1) := by decide +kernel
theorem dX8_halves_1 : decode cX8_halves 1 = .ok (.getfield 43, 3) := by decide +kernel
theorem dX8_halves_4 : decode cX8_halves 4 = .ok (.aload_n 0, 1) := by decide +kernel
theorem dX8_halves_5 : decode cX8_halves 5 = .ok (.getfield 10, 3) := by decide +kernel
theorem dX8_halves_8 : decode cX8_halves 8 = .ok (.getfield 73, 3) := by decide +kernel
theorem dX8_halves_11 : decode cX8_halves 11 = .ok (.aload_n 0, 1) := by decide +kernel
theorem dX8_halves_12 : decode cX8_halves 12 = .ok (.getfield 10, 3) := by decide +kernel
theorem dX8_halves_15 : decode cX8_halves 15 = .ok (.getfield 187, 3) := by decide +kernel
theorem dX8_halves_18 : decode cX8_halves 18 = .ok (.invokevirtual 190, 3) := by decide +kernel
theorem dX8_halves_21 : decode cX8_halves 21 = .ok (.ireturn, 1) := by decide +kernel
set_option maxRecDepth 20000 in
theorem ggX8_merit_X8_refuseBad : GoodIn wsX8_merit wsX8_refuseBad := goodIn_r _ [11, 12, 119, 120, 121, 122, 123, 124, 125, 126, 127, 128, 129] (by decide +kernel) (by decide +kernel)
set_option maxRecDepth 20000 in
theorem gX8_merit_X8_refuseBad : GoodIn wsX8_merit (wsV RX8 65 RX8 yX8_refuseBad wsX8_refuseBad) := goodIn_app (goodIn_of _ (by decide +kernel)) ggX8_merit_X8_refuseBad
set_option maxRecDepth 20000 in
theorem ggX8_merit_X1_canBeWalked : GoodIn wsX8_merit wsX1_canBeWalked := goodIn_r _ [17, 18, 133, 134, 135, 136, 137] (by decide +kernel) (by decide +kernel)
set_option maxRecDepth 20000 in
theorem gX8_merit_X1_canBeWalked : GoodIn wsX8_merit (wsV RX8 168 RX1 yX1_canBeWalked wsX1_canBeWalked) := goodIn_app (goodIn_of _ (by decide +kernel)) ggX8_merit_X1_canBeWalked
set_option maxRecDepth 20000 in
theorem ggX8_merit_X8_refuseNo : GoodIn wsX8_merit wsX8_refuseNo := goodIn_r _ [22, 23, 119, 120, 121, 122, 123, 124, 125, 126, 127, 128, 129] (by decide +kernel) (by decide +kernel)
set_option maxRecDepth 20000 in
theorem gX8_merit_X8_refuseNo : GoodIn wsX8_merit (wsV RX8 172 RX8 yX8_refuseNo wsX8_refuseNo) := goodIn_app (goodIn_of _ (by decide +kernel)) ggX8_merit_X8_refuseNo
set_option maxRecDepth 20000 in
theorem ggX8_merit_X3_weigh : GoodIn wsX8_merit wsX3_weigh := goodIn_r _ [28, 29, 30, 31, 32, 33, 34, 138] (by decide +kernel) (by decide +kernel)
set_option maxRecDepth 20000 in
theorem gX8_merit_X3_weigh : GoodIn wsX8_merit (wsV RX8 194 RX3 yX3_weigh wsX3_weigh) := goodIn_app (goodIn_of _ (by decide +kernel)) ggX8_merit_X3_weigh
set_option maxRecDepth 20000 in
theorem ggX8_merit_X7_greatest : GoodIn wsX8_merit wsX7_greatest := goodIn_r _ [39, 40, 41, 42, 43, 44, 45, 46, 47, 48, 38, 49, 50, 51, 52, 53, 54, 55, 56, 57, 16, 58, 59, 60, 61, 62, 63, 64, 65, 66, 67, 27, 68, 29, 69, 70, 71, 72, 73, 31, 32, 33, 34, 139, 140, 141, 142, 143, 144, 133, 134, 135, 136, 137, 138] (by decide +kernel) (by decide +kernel)
set_option maxRecDepth 20000 in
theorem gX8_merit_X7_greatest : GoodIn wsX8_merit (wsV RX8 198 RX7 yX7_greatest wsX7_greatest) := goodIn_app (goodIn_of _ (by decide +kernel)) ggX8_merit_X7_greatest
set_option maxRecDepth 20000 in
theorem ggX8_merit_X8_halves : GoodIn wsX8_merit wsX8_halves := goodIn_r _ [77, 78, 1, 2, 4, 79, 80, 81, 82, 83, 84, 85, 86, 87, 88, 89, 90, 91, 92, 93, 94, 95, 96, 97, 98, 99, 100, 10, 101, 102, 103, 104, 105, 106, 107, 108, 109, 110, 111, 44, 112, 113, 52, 53, 114, 115, 116, 117, 119, 120, 121, 122, 123, 124, 125, 126, 127, 128, 129, 130, 131, 132, 145, 133, 134, 135, 136, 137] (by decide +kernel) (by decide +kernel)
set_option maxRecDepth 20000 in
theorem gX8_merit_X8_halves : GoodIn wsX8_merit (wsV RX8 202 RX8 yX8_halves wsX8_halves) := goodIn_app (goodIn_of _ (by decide +kernel)) ggX8_merit_X8_halves
set_option maxRecDepth 20000 in
theorem ggX8_merit_X3_sumFor : GoodIn wsX8_merit wsX3_sumFor := goodIn_r _ [68, 29, 138] (by decide +kernel) (by decide +kernel)
set_option maxRecDepth 20000 in
theorem gX8_merit_X3_sumFor : GoodIn wsX8_merit (wsV RX8 205 RX3 yX3_sumFor wsX3_sumFor) := goodIn_app (goodIn_of _ (by decide +kernel)) ggX8_merit_X3_sumFor
theorem dX8_merit_0 : decode cX8_merit 0 = .ok (.iload_n 1, 1) := by decide +kernel
theorem dX8_merit_1 : decode cX8_merit 1 = .ok (.ifCond .lt 8, 3) := by decide +kernel
theorem dX8_merit_4 : decode cX8_merit 4 = .ok (.iload_n 1, 1) := by decide +kernel
theorem dX8_merit_5 : decode cX8_merit 5 = .ok (.iconst 2, 1) := by decide +kernel
theorem dX8_merit_6 : decode cX8_merit 6 = .ok (.if_icmp .le 10, 3) := by decide +kernel
theorem dX8_merit_9 : decode cX8_merit 9 = .ok (.aload_n 0, 1) := by decide +kernel
theorem dX8_merit_10 : decode cX8_merit 10 = .ok (.bipush (-2), 2) := by decide +kernel
theorem dX8_merit_12 : decode cX8_merit 12 = .ok (.invokevirtual 65, 3) := by decide +kernel
theorem dX8_merit_15 : decode cX8_merit 15 = .ok (.ireturn, 1) := by decide +kernel
theorem dX8_merit_16 : decode cX8_merit 16 = .ok (.iload_n 1, 1) := by decide +kernel
theorem dX8_merit_17 : decode cX8_merit 17 = .ok (.iconst 2, 1) := by decide +kernel
theorem dX8_merit_18 : decode cX8_merit 18 = .ok (.if_icmp .ne 23, 3) := by decide +kernel
theorem dX8_merit_21 : decode cX8_merit 21 = .ok (.aload_n 0, 1) := by decide +kernel
theorem dX8_merit_22 : decode cX8_merit 22 = .ok (.getfield 10, 3) := by decide +kernel
theorem dX8_merit_25 : decode cX8_merit 25 = .ok (.getfield 73, 3) := by decide +kernel
theorem dX8_merit_28 : decode cX8_merit 28 = .ok (.invokevirtual 168, 3) := by decide +kernel
theorem dX8_merit_31 : decode cX8_merit 31 = .ok (.ifCond .ne 10, 3) := by decide +kernel
theorem dX8_merit_34 : decode cX8_merit 34 = .ok (.aload_n 0, 1) := by decide +kernel
theorem dX8_merit_35 : decode cX8_merit 35 = .ok (.bipush (-3), 2) := by decide +kernel
theorem dX8_merit_37 : decode cX8_merit 37 = .ok (.invokevirtual 172, 3) := by decide +kernel
theorem dX8_merit_40 : decode cX8_merit 40 = .ok (.ireturn, 1) := by decide +kernel
theorem dX8_merit_41 : decode cX8_merit 41 = .ok (.aload_n 0, 1) := by decide +kernel
theorem dX8_merit_42 : decode cX8_merit 42 = .ok (.getfield 50, 3) := by decide +kernel
theorem dX8_merit_45 : decode cX8_merit 45 = .ok (.aload_n 0, 1) := by decide +kernel
theorem dX8_merit_46 : decode cX8_merit 46 = .ok (.getfield 10, 3) := by decide +kernel
theorem dX8_merit_49 : decode cX8_merit 49 = .ok (.getfield 187, 3) := by decide +kernel
theorem dX8_merit_52 : decode cX8_merit 52 = .ok (.invokevirtual 194, 3) := by decide +kernel
theorem dX8_merit_55 : decode cX8_merit 55 = .ok (.iload_n 1, 1) := by decide +kernel
theorem dX8_merit_56 : decode cX8_merit 56 = .ok (.iconst 2, 1) := by decide +kernel
theorem dX8_merit_57 : decode cX8_merit 57 = .ok (.if_icmp .ne 22, 3) := by decide +kernel
theorem dX8_merit_60 : decode cX8_merit 60 = .ok (.aload_n 0, 1) := by decide +kernel
theorem dX8_merit_61 : decode cX8_merit 61 = .ok (.getfield 57, 3) := by decide +kernel
theorem dX8_merit_64 : decode cX8_merit 64 = .ok (.aload_n 0, 1) := by decide +kernel
theorem dX8_merit_65 : decode cX8_merit 65 = .ok (.getfield 10, 3) := by decide +kernel
theorem dX8_merit_68 : decode cX8_merit 68 = .ok (.getfield 73, 3) := by decide +kernel
theorem dX8_merit_71 : decode cX8_merit 71 = .ok (.aload_n 0, 1) := by decide +kernel
theorem dX8_merit_72 : decode cX8_merit 72 = .ok (.getfield 50, 3) := by decide +kernel
theorem dX8_merit_75 : decode cX8_merit 75 = .ok (.invokevirtual 198, 3) := by decide +kernel
theorem dX8_merit_78 : decode cX8_merit 78 = .ok (.ireturn, 1) := by decide +kernel
theorem dX8_merit_79 : decode cX8_merit 79 = .ok (.aload_n 0, 1) := by decide +kernel
theorem dX8_merit_80 : decode cX8_merit 80 = .ok (.getfield 50, 3) := by decide +kernel
theorem dX8_merit_83 : decode cX8_merit 83 = .ok (.iload_n 1, 1) := by decide +kernel
theorem dX8_merit_84 : decode cX8_merit 84 = .ok (.ifCond .ne 13, 3) := by decide +kernel
theorem dX8_merit_87 : decode cX8_merit 87 = .ok (.aload_n 0, 1) := by decide +kernel
theorem dX8_merit_88 : decode cX8_merit 88 = .ok (.getfield 10, 3) := by decide +kernel
theorem dX8_merit_91 : decode cX8_merit 91 = .ok (.getfield 103, 3) := by decide +kernel
theorem dX8_merit_94 : decode cX8_merit 94 = .ok (.goto 7, 3) := by decide +kernel
theorem dX8_merit_97 : decode cX8_merit 97 = .ok (.aload_n 0, 1) := by decide +kernel
theorem dX8_merit_98 : decode cX8_merit 98 = .ok (.invokevirtual 202, 3) := by decide +kernel
theorem dX8_merit_101 : decode cX8_merit 101 = .ok (.invokevirtual 205, 3) := by decide +kernel
theorem dX8_merit_104 : decode cX8_merit 104 = .ok (.ireturn, 1) := by decide +kernel
set_option maxRecDepth 20000 in
theorem ggX8_weights_X8_refuseBad : GoodIn wsX8_weights wsX8_refuseBad := goodIn_r _ [8, 9, 63, 64, 65, 66, 67, 68, 69, 70, 71, 72, 73] (by decide +kernel) (by decide +kernel)
set_option maxRecDepth 20000 in
theorem gX8_weights_X8_refuseBad : GoodIn wsX8_weights (wsV RX8 65 RX8 yX8_refuseBad wsX8_refuseBad) := goodIn_app (goodIn_of _ (by decide +kernel)) ggX8_weights_X8_refuseBad
set_option maxRecDepth 20000 in
theorem ggX8_weights_X1_canBeWalked : GoodIn wsX8_weights wsX1_canBeWalked := goodIn_r _ [14, 15, 77, 78, 79, 80, 81] (by decide +kernel) (by decide +kernel)
set_option maxRecDepth 20000 in
theorem gX8_weights_X1_canBeWalked : GoodIn wsX8_weights (wsV RX8 168 RX1 yX1_canBeWalked wsX1_canBeWalked) := goodIn_app (goodIn_of _ (by decide +kernel)) ggX8_weights_X1_canBeWalked
set_option maxRecDepth 20000 in
theorem ggX8_weights_X8_refuseNo : GoodIn wsX8_weights wsX8_refuseNo := goodIn_r _ [19, 20, 63, 64, 65, 66, 67, 68, 69, 70, 71, 72, 73] (by decide +kernel) (by decide +kernel)
set_option maxRecDepth 20000 in
theorem gX8_weights_X8_refuseNo : GoodIn wsX8_weights (wsV RX8 172 RX8 yX8_refuseNo wsX8_refuseNo) := goodIn_app (goodIn_of _ (by decide +kernel)) ggX8_weights_X8_refuseNo
set_option maxRecDepth 20000 in
theorem ggX8_weights_X7_howManyWeigh : GoodIn wsX8_weights wsX7_howManyWeigh := goodIn_r _ [25, 26, 27, 28, 29, 30, 24, 31, 32, 33, 34, 35, 36, 37, 38, 39, 40, 13, 41, 42, 43, 44, 45, 46, 47, 48, 49, 50, 51, 52, 53, 54, 55, 56, 57, 58, 59, 60, 61, 62, 82, 83, 84, 85, 86, 87, 77, 78, 79, 80, 81] (by decide +kernel) (by decide +kernel)
set_option maxRecDepth 20000 in
theorem gX8_weights_X7_howManyWeigh : GoodIn wsX8_weights (wsV RX8 208 RX7 yX7_howManyWeigh wsX7_howManyWeigh) := goodIn_app (goodIn_of _ (by decide +kernel)) ggX8_weights_X7_howManyWeigh
theorem dX8_weights_0 : decode cX8_weights 0 = .ok (.iload_n 1, 1) := by decide +kernel
theorem dX8_weights_1 : decode cX8_weights 1 = .ok (.ifCond .lt 9, 3) := by decide +kernel
theorem dX8_weights_4 : decode cX8_weights 4 = .ok (.iload_n 1, 1) := by decide +kernel
theorem dX8_weights_5 : decode cX8_weights 5 = .ok (.bipush 32, 2) := by decide +kernel
theorem dX8_weights_7 : decode cX8_weights 7 = .ok (.if_icmp .le 10, 3) := by decide +kernel
theorem dX8_weights_10 : decode cX8_weights 10 = .ok (.aload_n 0, 1) := by decide +kernel
theorem dX8_weights_11 : decode cX8_weights 11 = .ok (.bipush (-2), 2) := by decide +kernel
theorem dX8_weights_13 : decode cX8_weights 13 = .ok (.invokevirtual 65, 3) := by decide +kernel
theorem dX8_weights_16 : decode cX8_weights 16 = .ok (.ireturn, 1) := by decide +kernel
theorem dX8_weights_17 : decode cX8_weights 17 = .ok (.aload_n 0, 1) := by decide +kernel
theorem dX8_weights_18 : decode cX8_weights 18 = .ok (.getfield 10, 3) := by decide +kernel
theorem dX8_weights_21 : decode cX8_weights 21 = .ok (.getfield 73, 3) := by decide +kernel
theorem dX8_weights_24 : decode cX8_weights 24 = .ok (.invokevirtual 168, 3) := by decide +kernel
theorem dX8_weights_27 : decode cX8_weights 27 = .ok (.ifCond .ne 10, 3) := by decide +kernel
theorem dX8_weights_30 : decode cX8_weights 30 = .ok (.aload_n 0, 1) := by decide +kernel
theorem dX8_weights_31 : decode cX8_weights 31 = .ok (.bipush (-3), 2) := by decide +kernel
theorem dX8_weights_33 : decode cX8_weights 33 = .ok (.invokevirtual 172, 3) := by decide +kernel
theorem dX8_weights_36 : decode cX8_weights 36 = .ok (.ireturn, 1) := by decide +kernel
theorem dX8_weights_37 : decode cX8_weights 37 = .ok (.aload_n 0, 1) := by decide +kernel
theorem dX8_weights_38 : decode cX8_weights 38 = .ok (.getfield 57, 3) := by decide +kernel
theorem dX8_weights_41 : decode cX8_weights 41 = .ok (.aload_n 0, 1) := by decide +kernel
theorem dX8_weights_42 : decode cX8_weights 42 = .ok (.getfield 10, 3) := by decide +kernel
theorem dX8_weights_45 : decode cX8_weights 45 = .ok (.getfield 73, 3) := by decide +kernel
theorem dX8_weights_48 : decode cX8_weights 48 = .ok (.iload_n 1, 1) := by decide +kernel
theorem dX8_weights_49 : decode cX8_weights 49 = .ok (.invokevirtual 208, 3) := by decide +kernel
theorem dX8_weights_52 : decode cX8_weights 52 = .ok (.ireturn, 1) := by decide +kernel
set_option maxRecDepth 20000 in
theorem ggX8_perpendicular_X1_wordOfTerm : GoodIn wsX8_perpendicular wsX1_wordOfTerm := goodIn_r _ [9, 10, 11, 12, 13, 8, 14, 15, 41, 42, 43, 44, 45] (by decide +kernel) (by decide +kernel)
set_option maxRecDepth 20000 in
theorem gX8_perpendicular_X1_wordOfTerm : GoodIn wsX8_perpendicular (wsV RX8 212 RX1 yX1_wordOfTerm wsX1_wordOfTerm) := goodIn_app (goodIn_of _ (by decide +kernel)) ggX8_perpendicular_X1_wordOfTerm
set_option maxRecDepth 20000 in
theorem ggX8_perpendicular_X8_isOdd : GoodIn wsX8_perpendicular wsX8_isOdd := goodIn_r _ [19, 20, 21, 22, 23, 24, 25, 26] (by decide +kernel) (by decide +kernel)
set_option maxRecDepth 20000 in
theorem gX8_perpendicular_X8_isOdd : GoodIn wsX8_perpendicular (va_wsS RX8 215 yX8_isOdd wsX8_isOdd) := goodIn_app (goodIn_of _ (by decide +kernel)) ggX8_perpendicular_X8_isOdd
theorem dX8_perpendicular_0 : decode cX8_perpendicular 0 = .ok (.iconst 0, 1) := by decide +kernel
theorem dX8_perpendicular_1 : decode cX8_perpendicular 1 = .ok (.istore_n 1, 1) := by decide +kernel
theorem dX8_perpendicular_2 : decode cX8_perpendicular 2 = .ok (.iload_n 1, 1) := by decide +kernel
theorem dX8_perpendicular_3 : decode cX8_perpendicular 3 = .ok (.aload_n 0, 1) := by decide +kernel
theorem dX8_perpendicular_4 : decode cX8_perpendicular 4 = .ok (.getfield 10, 3) := by decide +kernel
theorem dX8_perpendicular_7 : decode cX8_perpendicular 7 = .ok (.getfield 73, 3) := by decide +kernel
theorem dX8_perpendicular_10 : decode cX8_perpendicular 10 = .ok (.getfield 77, 3) := by decide +kernel
theorem dX8_perpendicular_13 : decode cX8_perpendicular 13 = .ok (.if_icmp .ge 36, 3) := by decide +kernel
theorem dX8_perpendicular_16 : decode cX8_perpendicular 16 = .ok (.aload_n 0, 1) := by decide +kernel
theorem dX8_perpendicular_17 : decode cX8_perpendicular 17 = .ok (.getfield 10, 3) := by decide +kernel
theorem dX8_perpendicular_20 : decode cX8_perpendicular 20 = .ok (.getfield 103, 3) := by decide +kernel
theorem dX8_perpendicular_23 : decode cX8_perpendicular 23 = .ok (.aload_n 0, 1) := by decide +kernel
theorem dX8_perpendicular_24 : decode cX8_perpendicular 24 = .ok (.getfield 10, 3) := by decide +kernel
theorem dX8_perpendicular_27 : decode cX8_perpendicular 27 = .ok (.getfield 73, 3) := by decide +kernel
theorem dX8_perpendicular_30 : decode cX8_perpendicular 30 = .ok (.iload_n 1, 1) := by decide +kernel
theorem dX8_perpendicular_31 : decode cX8_perpendicular 31 = .ok (.invokevirtual 212, 3) := by decide +kernel
theorem dX8_perpendicular_34 : decode cX8_perpendicular 34 = .ok (.iand, 1) := by decide +kernel
theorem dX8_perpendicular_35 : decode cX8_perpendicular 35 = .ok (.invokestatic 215, 3) := by decide +kernel
theorem dX8_perpendicular_38 : decode cX8_perpendicular 38 = .ok (.ifCond .eq 5, 3) := by decide +kernel
theorem dX8_perpendicular_41 : decode cX8_perpendicular 41 = .ok (.iconst 0, 1) := by decide +kernel
theorem dX8_perpendicular_42 : decode cX8_perpendicular 42 = .ok (.ireturn, 1) := by decide +kernel
theorem dX8_perpendicular_43 : decode cX8_perpendicular 43 = .ok (.iinc 1 1, 3) := by decide +kernel
theorem dX8_perpendicular_46 : decode cX8_perpendicular 46 = .ok (.goto (-44), 3) := by decide +kernel
theorem dX8_perpendicular_49 : decode cX8_perpendicular 49 = .ok (.iconst 1, 1) := by decide +kernel
theorem dX8_perpendicular_50 : decode cX8_perpendicular 50 = .ok (.ireturn, 1) := by decide +kernel
set_option maxRecDepth 20000 in
theorem ggX8_asked_X1_hasPlace : GoodIn wsX8_asked wsX1_hasPlace := goodIn_r _ [11, 12, 51, 52, 53, 54, 55] (by decide +kernel) (by decide +kernel)
set_option maxRecDepth 20000 in
theorem gX8_asked_X1_hasPlace : GoodIn wsX8_asked (wsV RX8 115 RX1 yX1_hasPlace wsX1_hasPlace) := goodIn_app (goodIn_of _ (by decide +kernel)) ggX8_asked_X1_hasPlace
set_option maxRecDepth 20000 in
theorem ggX8_asked_X8_refuseBad : GoodIn wsX8_asked wsX8_refuseBad := goodIn_r _ [17, 18, 37, 38, 39, 40, 41, 42, 43, 44, 45, 46, 47] (by decide +kernel) (by decide +kernel)
set_option maxRecDepth 20000 in
theorem gX8_asked_X8_refuseBad : GoodIn wsX8_asked (wsV RX8 65 RX8 yX8_refuseBad wsX8_refuseBad) := goodIn_app (goodIn_of _ (by decide +kernel)) ggX8_asked_X8_refuseBad
set_option maxRecDepth 20000 in
theorem ggX8_asked_X8_refuseNo : GoodIn wsX8_asked wsX8_refuseNo := goodIn_r _ [22, 23, 37, 38, 39, 40, 41, 42, 43, 44, 45, 46, 47] (by decide +kernel) (by decide +kernel)
set_option maxRecDepth 20000 in
theorem gX8_asked_X8_refuseNo : GoodIn wsX8_asked (wsV RX8 172 RX8 yX8_refuseNo wsX8_refuseNo) := goodIn_app (goodIn_of _ (by decide +kernel)) ggX8_asked_X8_refuseNo
set_option maxRecDepth 20000 in
theorem ggX8_asked_J6_bitCount_0f7a4 : GoodIn wsX8_asked wsJ6_bitCount_0f7a4 := goodIn_r _ [27, 28, 29, 30] (by decide +kernel) (by decide +kernel)
set_option maxRecDepth 20000 in
theorem gX8_asked_J6_bitCount_0f7a4 : GoodIn wsX8_asked (va_wsS RX8 127 yJ6_bitCount_0f7a4 wsJ6_bitCount_0f7a4) := goodIn_app (goodIn_of _ (by decide +kernel)) ggX8_asked_J6_bitCount_0f7a4
set_option maxRecDepth 20000 in
theorem ggX8_asked_X8_partsOf : GoodIn wsX8_asked wsX8_partsOf := goodIn_r _ [33] (by decide +kernel) (by decide +kernel)
set_option maxRecDepth 20000 in
theorem gX8_asked_X8_partsOf : GoodIn wsX8_asked (va_wsS RX8 218 yX8_partsOf wsX8_partsOf) := goodIn_app (goodIn_of _ (by decide +kernel)) ggX8_asked_X8_partsOf
set_option maxRecDepth 20000 in
theorem ggX8_asked_X8_isOdd : GoodIn wsX8_asked wsX8_isOdd := goodIn_r _ [36, 24, 25, 26, 27, 28, 29, 30] (by decide +kernel) (by decide +kernel)
set_option maxRecDepth 20000 in
theorem gX8_asked_X8_isOdd : GoodIn wsX8_asked (va_wsS RX8 215 yX8_isOdd wsX8_isOdd) := goodIn_app (goodIn_of _ (by decide +kernel)) ggX8_asked_X8_isOdd
theorem dX8_asked_0 : decode cX8_asked 0 = .ok (.aload_n 0, 1) := by decide +kernel
theorem dX8_asked_1 : decode cX8_asked 1 = .ok (.getfield 10, 3) := by decide +kernel
theorem dX8_asked_4 : decode cX8_asked 4 = .ok (.getfield 73, 3) := by decide +kernel
theorem dX8_asked_7 : decode cX8_asked 7 = .ok (.iload_n 1, 1) := by decide +kernel
theorem dX8_asked_8 : decode cX8_asked 8 = .ok (.invokevirtual 115, 3) := by decide +kernel
theorem dX8_asked_11 : decode cX8_asked 11 = .ok (.ifCond .ne 10, 3) := by decide +kernel
theorem dX8_asked_14 : decode cX8_asked 14 = .ok (.aload_n 0, 1) := by decide +kernel
theorem dX8_asked_15 : decode cX8_asked 15 = .ok (.bipush (-2), 2) := by decide +kernel
theorem dX8_asked_17 : decode cX8_asked 17 = .ok (.invokevirtual 65, 3) := by decide +kernel
theorem dX8_asked_20 : decode cX8_asked 20 = .ok (.ireturn, 1) := by decide +kernel
theorem dX8_asked_21 : decode cX8_asked 21 = .ok (.aload_n 0, 1) := by decide +kernel
theorem dX8_asked_22 : decode cX8_asked 22 = .ok (.getfield 10, 3) := by decide +kernel
theorem dX8_asked_25 : decode cX8_asked 25 = .ok (.getfield 73, 3) := by decide +kernel
theorem dX8_asked_28 : decode cX8_asked 28 = .ok (.getfield 83, 3) := by decide +kernel
theorem dX8_asked_31 : decode cX8_asked 31 = .ok (.aload_n 0, 1) := by decide +kernel
theorem dX8_asked_32 : decode cX8_asked 32 = .ok (.getfield 10, 3) := by decide +kernel
theorem dX8_asked_35 : decode cX8_asked 35 = .ok (.getfield 73, 3) := by decide +kernel
theorem dX8_asked_38 : decode cX8_asked 38 = .ok (.getfield 86, 3) := by decide +kernel
theorem dX8_asked_41 : decode cX8_asked 41 = .ok (.if_icmp .ne 10, 3) := by decide +kernel
theorem dX8_asked_44 : decode cX8_asked 44 = .ok (.aload_n 0, 1) := by decide +kernel
theorem dX8_asked_45 : decode cX8_asked 45 = .ok (.bipush (-3), 2) := by decide +kernel
theorem dX8_asked_47 : decode cX8_asked 47 = .ok (.invokevirtual 172, 3) := by decide +kernel
theorem dX8_asked_50 : decode cX8_asked 50 = .ok (.ireturn, 1) := by decide +kernel
theorem dX8_asked_51 : decode cX8_asked 51 = .ok (.iconst 0, 1) := by decide +kernel
theorem dX8_asked_52 : decode cX8_asked 52 = .ok (.istore_n 2, 1) := by decide +kernel
theorem dX8_asked_53 : decode cX8_asked 53 = .ok (.iconst 0, 1) := by decide +kernel
theorem dX8_asked_54 : decode cX8_asked 54 = .ok (.istore_n 3, 1) := by decide +kernel
theorem dX8_asked_55 : decode cX8_asked 55 = .ok (.iload_n 3, 1) := by decide +kernel
theorem dX8_asked_56 : decode cX8_asked 56 = .ok (.aload_n 0, 1) := by decide +kernel
theorem dX8_asked_57 : decode cX8_asked 57 = .ok (.getfield 10, 3) := by decide +kernel
theorem dX8_asked_60 : decode cX8_asked 60 = .ok (.getfield 73, 3) := by decide +kernel
theorem dX8_asked_63 : decode cX8_asked 63 = .ok (.getfield 93, 3) := by decide +kernel
theorem dX8_asked_66 : decode cX8_asked 66 = .ok (.if_icmp .ge 70, 3) := by decide +kernel
theorem dX8_asked_69 : decode cX8_asked 69 = .ok (.iload_n 3, 1) := by decide +kernel
theorem dX8_asked_70 : decode cX8_asked 70 = .ok (.invokestatic 127, 3) := by decide +kernel
theorem dX8_asked_73 : decode cX8_asked 73 = .ok (.aload_n 0, 1) := by decide +kernel
theorem dX8_asked_74 : decode cX8_asked 74 = .ok (.getfield 10, 3) := by decide +kernel
theorem dX8_asked_77 : decode cX8_asked 77 = .ok (.getfield 73, 3) := by decide +kernel
theorem dX8_asked_80 : decode cX8_asked 80 = .ok (.getfield 83, 3) := by decide +kernel
theorem dX8_asked_83 : decode cX8_asked 83 = .ok (.iconst 1, 1) := by decide +kernel
theorem dX8_asked_84 : decode cX8_asked 84 = .ok (.iadd, 1) := by decide +kernel
theorem dX8_asked_85 : decode cX8_asked 85 = .ok (.if_icmp .ne 45, 3) := by decide +kernel
theorem dX8_asked_88 : decode cX8_asked 88 = .ok (.iload_n 3, 1) := by decide +kernel
theorem dX8_asked_89 : decode cX8_asked 89 = .ok (.invokestatic 218, 3) := by decide +kernel
theorem dX8_asked_92 : decode cX8_asked 92 = .ok (.iload_n 1, 1) := by decide +kernel
theorem dX8_asked_93 : decode cX8_asked 93 = .ok (.iload_n 3, 1) := by decide +kernel
theorem dX8_asked_94 : decode cX8_asked 94 = .ok (.iconst (-1), 1) := by decide +kernel
theorem dX8_asked_95 : decode cX8_asked 95 = .ok (.ixor, 1) := by decide +kernel
theorem dX8_asked_96 : decode cX8_asked 96 = .ok (.iand, 1) := by decide +kernel
theorem dX8_asked_97 : decode cX8_asked 97 = .ok (.ishl, 1) := by decide +kernel
theorem dX8_asked_98 : decode cX8_asked 98 = .ok (.iconst 1, 1) := by decide +kernel
theorem dX8_asked_99 : decode cX8_asked 99 = .ok (.iload_n 1, 1) := by decide +kernel
theorem dX8_asked_100 : decode cX8_asked 100 = .ok (.ishl, 1) := by decide +kernel
theorem dX8_asked_101 : decode cX8_asked 101 = .ok (.iconst (-1), 1) := by decide +kernel
theorem dX8_asked_102 : decode cX8_asked 102 = .ok (.ixor, 1) := by decide +kernel
theorem dX8_asked_103 : decode cX8_asked 103 = .ok (.iand, 1) := by decide +kernel
theorem dX8_asked_104 : decode cX8_asked 104 = .ok (.istore 4, 2) := by decide +kernel
theorem dX8_asked_106 : decode cX8_asked 106 = .ok (.iload_n 2, 1) := by decide +kernel
theorem dX8_asked_107 : decode cX8_asked 107 = .ok (.aload_n 0, 1) := by decide +kernel
theorem dX8_asked_108 : decode cX8_asked 108 = .ok (.getfield 10, 3) := by decide +kernel
theorem dX8_asked_111 : decode cX8_asked 111 = .ok (.getfield 103, 3) := by decide +kernel
theorem dX8_asked_114 : decode cX8_asked 114 = .ok (.iload 4, 2) := by decide +kernel
theorem dX8_asked_116 : decode cX8_asked 116 = .ok (.iand, 1) := by decide +kernel
theorem dX8_asked_117 : decode cX8_asked 117 = .ok (.invokestatic 215, 3) := by decide +kernel
theorem dX8_asked_120 : decode cX8_asked 120 = .ok (.ifCond .eq 7, 3) := by decide +kernel
theorem dX8_asked_123 : decode cX8_asked 123 = .ok (.iconst 1, 1) := by decide +kernel
theorem dX8_asked_124 : decode cX8_asked 124 = .ok (.goto 4, 3) := by decide +kernel
theorem dX8_asked_127 : decode cX8_asked 127 = .ok (.iconst (-1), 1) := by decide +kernel
theorem dX8_asked_128 : decode cX8_asked 128 = .ok (.iadd, 1) := by decide +kernel
theorem dX8_asked_129 : decode cX8_asked 129 = .ok (.istore_n 2, 1) := by decide +kernel
theorem dX8_asked_130 : decode cX8_asked 130 = .ok (.iinc 3 1, 3) := by decide +kernel
theorem dX8_asked_133 : decode cX8_asked 133 = .ok (.goto (-78), 3) := by decide +kernel
theorem dX8_asked_136 : decode cX8_asked 136 = .ok (.iload_n 2, 1) := by decide +kernel
theorem dX8_asked_137 : decode cX8_asked 137 = .ok (.ifCond .le 7, 3) := by decide +kernel
theorem dX8_asked_140 : decode cX8_asked 140 = .ok (.iconst 1, 1) := by decide +kernel
theorem dX8_asked_141 : decode cX8_asked 141 = .ok (.goto 4, 3) := by decide +kernel
theorem dX8_asked_144 : decode cX8_asked 144 = .ok (.iconst 0, 1) := by decide +kernel
theorem dX8_asked_145 : decode cX8_asked 145 = .ok (.ireturn, 1) := by decide +kernel
set_option maxRecDepth 20000 in
theorem ggX8_type_X8_refuseBad : GoodIn wsX8_type wsX8_refuseBad := goodIn_r _ [8, 9, 17, 18, 19, 20, 21, 22, 23, 24, 25, 26, 27] (by decide +kernel) (by decide +kernel)
set_option maxRecDepth 20000 in
theorem gX8_type_X8_refuseBad : GoodIn wsX8_type (wsV RX8 65 RX8 yX8_refuseBad wsX8_refuseBad) := goodIn_app (goodIn_of _ (by decide +kernel)) ggX8_type_X8_refuseBad
set_option maxRecDepth 20000 in
theorem ggX8_type_X6_append : GoodIn wsX8_type wsX6_append := goodIn_r _ [14, 15, 16, 28, 29, 30, 31] (by decide +kernel) (by decide +kernel)
set_option maxRecDepth 20000 in
theorem gX8_type_X6_append : GoodIn wsX8_type (wsV RX8 227 RX6 yX6_append wsX6_append) := goodIn_app (goodIn_of _ (by decide +kernel)) ggX8_type_X6_append
theorem dX8_type_0 : decode cX8_type 0 = .ok (.iload_n 1, 1) := by decide +kernel
theorem dX8_type_1 : decode cX8_type 1 = .ok (.ifCond .lt 9, 3) := by decide +kernel
theorem dX8_type_4 : decode cX8_type 4 = .ok (.iload_n 1, 1) := by decide +kernel
theorem dX8_type_5 : decode cX8_type 5 = .ok (.bipush 127, 2) := by decide +kernel
theorem dX8_type_7 : decode cX8_type 7 = .ok (.if_icmp .le 10, 3) := by decide +kernel
theorem dX8_type_10 : decode cX8_type 10 = .ok (.aload_n 0, 1) := by decide +kernel
theorem dX8_type_11 : decode cX8_type 11 = .ok (.bipush (-2), 2) := by decide +kernel
theorem dX8_type_13 : decode cX8_type 13 = .ok (.invokevirtual 65, 3) := by decide +kernel
theorem dX8_type_16 : decode cX8_type 16 = .ok (.ireturn, 1) := by decide +kernel
theorem dX8_type_17 : decode cX8_type 17 = .ok (.aload_n 0, 1) := by decide +kernel
theorem dX8_type_18 : decode cX8_type 18 = .ok (.getfield 29, 3) := by decide +kernel
theorem dX8_type_21 : decode cX8_type 21 = .ok (.getfield 221, 3) := by decide +kernel
theorem dX8_type_24 : decode cX8_type 24 = .ok (.bipush 120, 2) := by decide +kernel
theorem dX8_type_26 : decode cX8_type 26 = .ok (.if_icmp .lt 16, 3) := by decide +kernel
theorem dX8_type_29 : decode cX8_type 29 = .ok (.aload_n 0, 1) := by decide +kernel
theorem dX8_type_30 : decode cX8_type 30 = .ok (.dup, 1) := by decide +kernel
theorem dX8_type_31 : decode cX8_type 31 = .ok (.getfield 224, 3) := by decide +kernel
theorem dX8_type_34 : decode cX8_type 34 = .ok (.iconst 1, 1) := by decide +kernel
theorem dX8_type_35 : decode cX8_type 35 = .ok (.iadd, 1) := by decide +kernel
theorem dX8_type_36 : decode cX8_type 36 = .ok (.putfield 224, 3) := by decide +kernel
theorem dX8_type_39 : decode cX8_type 39 = .ok (.bipush (-4), 2) := by decide +kernel
theorem dX8_type_41 : decode cX8_type 41 = .ok (.ireturn, 1) := by decide +kernel
theorem dX8_type_42 : decode cX8_type 42 = .ok (.aload_n 0, 1) := by decide +kernel
theorem dX8_type_43 : decode cX8_type 43 = .ok (.getfield 29, 3) := by decide +kernel
theorem dX8_type_46 : decode cX8_type 46 = .ok (.iload_n 1, 1) := by decide +kernel
theorem dX8_type_47 : decode cX8_type 47 = .ok (.invokevirtual 227, 3) := by decide +kernel
theorem dX8_type_50 : decode cX8_type 50 = .ok (.aload_n 0, 1) := by decide +kernel
theorem dX8_type_51 : decode cX8_type 51 = .ok (.getfield 29, 3) := by decide +kernel
theorem dX8_type_54 : decode cX8_type 54 = .ok (.getfield 221, 3) := by decide +kernel
theorem dX8_type_57 : decode cX8_type 57 = .ok (.ireturn, 1) := by decide +kernel
theorem dX8_clear_0 : decode cX8_clear 0 = .ok (.aload_n 0, 1) := by decide +kernel
theorem dX8_clear_1 : decode cX8_clear 1 = .ok (.getfield 29, 3) := by decide +kernel
theorem dX8_clear_4 : decode cX8_clear 4 = .ok (.getfield 221, 3) := by decide +kernel
theorem dX8_clear_7 : decode cX8_clear 7 = .ok (.istore_n 1, 1) := by decide +kernel
theorem dX8_clear_8 : decode cX8_clear 8 = .ok (.aload_n 0, 1) := by decide +kernel
theorem dX8_clear_9 : decode cX8_clear 9 = .ok (.getfield 29, 3) := by decide +kernel
theorem dX8_clear_12 : decode cX8_clear 12 = .ok (.iconst 0, 1) := by decide +kernel
theorem dX8_clear_13 : decode cX8_clear 13 = .ok (.putfield 221, 3) := by decide +kernel
theorem dX8_clear_16 : decode cX8_clear 16 = .ok (.iload_n 1, 1) := by decide +kernel
theorem dX8_clear_17 : decode cX8_clear 17 = .ok (.ireturn, 1) := by decide +kernel
set_option maxRecDepth 20000 in
theorem ggX8_does_X5_copy : GoodIn wsX8_does wsX5_copy := goodIn_r _ [10, 11, 12, 13, 14, 15, 16, 17, 18, 19, 20, 21, 22, 23, 24, 25, 26, 27, 28, 29, 30, 31, 32, 33, 34, 35, 36, 302, 303, 304, 305, 306, 307, 308, 309] (by decide +kernel) (by decide +kernel)
set_option maxRecDepth 20000 in
theorem gX8_does_X5_copy : GoodIn wsX8_does (wsV RX8 231 RX5 yX5_copy wsX5_copy) := goodIn_app (goodIn_of _ (by decide +kernel)) ggX8_does_X5_copy
set_option maxRecDepth 20000 in
theorem ggX8_does_X8_carryOutAll : GoodIn wsX8_does wsX8_carryOutAll := goodIn_r _ [41, 3, 4, 42, 43, 44, 45, 46, 47, 48, 49, 50, 51, 40, 52, 2, 53, 54, 55, 56, 57, 58, 59, 60, 61, 62, 63, 64, 65, 66, 67, 68, 69, 70, 71, 72, 73, 74, 75, 76, 77, 78, 79, 80, 81, 82, 83, 84, 85, 86, 87, 88, 89, 90, 91, 92, 93, 94, 95, 96, 97, 98, 99, 100, 101, 102, 103, 104, 105, 106, 107, 108, 109, 110, 111, 112, 113, 114, 115, 116, 117, 118, 119, 120, 121, 122, 123, 124, 125, 126, 127, 128, 129, 130, 131, 132, 133, 134, 135, 136, 137, 138, 139, 140, 141, 142, 143, 144, 145, 146, 147, 148, 149, 150, 151, 152, 153, 154, 155, 156, 157, 158, 159, 160, 161, 162, 163, 164, 165, 166, 167, 168, 169, 170, 171, 172, 173, 174, 175, 176, 177, 9, 178, 11, 14, 15, 20, 21, 22, 23, 24, 25, 26, 27, 28, 29, 30, 31, 32, 33, 34, 35, 36, 179, 180, 181, 182, 183, 184, 185, 186, 187, 188, 189, 190, 191, 192, 193, 194, 195, 196, 197, 198, 199, 200, 201, 202, 203, 204, 205, 206, 207, 208, 209, 210, 211, 212, 213, 214, 215, 216, 217, 218, 219, 220, 221, 222, 223, 224, 225, 226, 227, 228, 229, 230, 231, 232, 233, 234, 235, 236, 237, 238, 239, 240, 241, 242, 243, 244, 245, 246, 247, 248, 249, 250, 251, 252, 17, 18, 19, 253, 254, 255, 256, 257, 258, 259, 260, 261, 262, 263, 264, 265, 266, 267, 268, 269, 270, 271, 272, 273, 274, 275, 276, 287, 288, 289, 290, 291, 292, 293, 294, 295, 296, 297, 298, 299, 300, 301, 302, 303, 304, 305, 306, 307, 308, 309, 310, 311, 312, 313, 314, 315] (by decide +kernel) (by decide +kernel)
set_option maxRecDepth 20000 in
theorem gX8_does_X8_carryOutAll : GoodIn wsX8_does (wsV RX8 234 RX8 yX8_carryOutAll wsX8_carryOutAll) := goodIn_app (goodIn_of _ (by decide +kernel)) ggX8_does_X8_carryOutAll
set_option maxRecDepth 20000 in
theorem ggX8_does_X4_keep : GoodIn wsX8_does wsX4_keep := goodIn_r _ [281, 282, 283, 284, 285, 107, 104, 108, 286, 7, 8, 9, 10, 11, 12, 13, 14, 15, 16, 17, 18, 19, 20, 21, 22, 23, 24, 25, 26, 27, 28, 29, 30, 31, 32, 33, 34, 35, 36, 316, 317, 318, 302, 303, 304, 305, 306, 307, 308, 309] (by decide +kernel) (by decide +kernel)
set_option maxRecDepth 20000 in
theorem gX8_does_X4_keep : GoodIn wsX8_does (wsV RX8 69 RX4 yX4_keep wsX4_keep) := goodIn_app (goodIn_of _ (by decide +kernel)) ggX8_does_X4_keep
theorem dX8_does_0 : decode cX8_does 0 = .ok (.aload_n 0, 1) := by decide +kernel
theorem dX8_does_1 : decode cX8_does 1 = .ok (.getfield 16, 3) := by decide +kernel
theorem dX8_does_4 : decode cX8_does 4 = .ok (.aload_n 0, 1) := by decide +kernel
theorem dX8_does_5 : decode cX8_does 5 = .ok (.getfield 10, 3) := by decide +kernel
theorem dX8_does_8 : decode cX8_does 8 = .ok (.invokevirtual 231, 3) := by decide +kernel
theorem dX8_does_11 : decode cX8_does 11 = .ok (.aload_n 0, 1) := by decide +kernel
theorem dX8_does_12 : decode cX8_does 12 = .ok (.invokevirtual 234, 3) := by decide +kernel
theorem dX8_does_15 : decode cX8_does 15 = .ok (.istore_n 1, 1) := by decide +kernel
theorem dX8_does_16 : decode cX8_does 16 = .ok (.aload_n 0, 1) := by decide +kernel
theorem dX8_does_17 : decode cX8_does 17 = .ok (.getfield 29, 3) := by decide +kernel
theorem dX8_does_20 : decode cX8_does 20 = .ok (.getfield 237, 3) := by decide +kernel
theorem dX8_does_23 : decode cX8_does 23 = .ok (.iconst (-1), 1) := by decide +kernel
theorem dX8_does_24 : decode cX8_does 24 = .ok (.if_icmp .eq 25, 3) := by decide +kernel
theorem dX8_does_27 : decode cX8_does 27 = .ok (.aload_n 0, 1) := by decide +kernel
theorem dX8_does_28 : decode cX8_does 28 = .ok (.getfield 10, 3) := by decide +kernel
theorem dX8_does_31 : decode cX8_does 31 = .ok (.aload_n 0, 1) := by decide +kernel
theorem dX8_does_32 : decode cX8_does 32 = .ok (.getfield 16, 3) := by decide +kernel
theorem dX8_does_35 : decode cX8_does 35 = .ok (.invokevirtual 231, 3) := by decide +kernel
theorem dX8_does_38 : decode cX8_does 38 = .ok (.bipush (-10), 2) := by decide +kernel
theorem dX8_does_40 : decode cX8_does 40 = .ok (.aload_n 0, 1) := by decide +kernel
theorem dX8_does_41 : decode cX8_does 41 = .ok (.getfield 29, 3) := by decide +kernel
theorem dX8_does_44 : decode cX8_does 44 = .ok (.getfield 237, 3) := by decide +kernel
theorem dX8_does_47 : decode cX8_does 47 = .ok (.isub, 1) := by decide +kernel
theorem dX8_does_48 : decode cX8_does 48 = .ok (.ireturn, 1) := by decide +kernel
theorem dX8_does_49 : decode cX8_does 49 = .ok (.aload_n 0, 1) := by decide +kernel
theorem dX8_does_50 : decode cX8_does 50 = .ok (.getfield 22, 3) := by decide +kernel
theorem dX8_does_53 : decode cX8_does 53 = .ok (.aload_n 0, 1) := by decide +kernel
theorem dX8_does_54 : decode cX8_does 54 = .ok (.getfield 16, 3) := by decide +kernel
theorem dX8_does_57 : decode cX8_does 57 = .ok (.invokevirtual 69, 3) := by decide +kernel
theorem dX8_does_60 : decode cX8_does 60 = .ok (.iload_n 1, 1) := by decide +kernel
theorem dX8_does_61 : decode cX8_does 61 = .ok (.ireturn, 1) := by decide +kernel
set_option maxRecDepth 20000 in
theorem ggX8_back_X8_refuseNo : GoodIn wsX8_back wsX8_refuseNo := goodIn_r _ [8, 9, 49, 50, 51, 52, 53, 54, 55, 56, 57, 58, 59] (by decide +kernel) (by decide +kernel)
set_option maxRecDepth 20000 in
theorem gX8_back_X8_refuseNo : GoodIn wsX8_back (wsV RX8 172 RX8 yX8_refuseNo wsX8_refuseNo) := goodIn_app (goodIn_of _ (by decide +kernel)) ggX8_back_X8_refuseNo
set_option maxRecDepth 20000 in
theorem ggX8_back_X4_giveBack : GoodIn wsX8_back wsX4_giveBack := goodIn_r _ [14, 15, 16, 17, 18, 19, 20, 21, 22, 23, 24, 25, 26, 27, 28, 29, 30, 31, 32, 33, 34, 35, 36, 37, 38, 39, 40, 41, 42, 43, 44, 45, 46, 47, 48, 60, 61, 62, 63, 64, 65, 66, 67, 68, 69, 70] (by decide +kernel) (by decide +kernel)
set_option maxRecDepth 20000 in
theorem gX8_back_X4_giveBack : GoodIn wsX8_back (wsV RX8 241 RX4 yX4_giveBack wsX4_giveBack) := goodIn_app (goodIn_of _ (by decide +kernel)) ggX8_back_X4_giveBack
theorem dX8_back_0 : decode cX8_back 0 = .ok (.aload_n 0, 1) := by decide +kernel
theorem dX8_back_1 : decode cX8_back 1 = .ok (.getfield 22, 3) := by decide +kernel
theorem dX8_back_4 : decode cX8_back 4 = .ok (.getfield 240, 3) := by decide +kernel
theorem dX8_back_7 : decode cX8_back 7 = .ok (.ifCond .ne 10, 3) := by decide +kernel
theorem dX8_back_10 : decode cX8_back 10 = .ok (.aload_n 0, 1) := by decide +kernel
theorem dX8_back_11 : decode cX8_back 11 = .ok (.bipush (-3), 2) := by decide +kernel
theorem dX8_back_13 : decode cX8_back 13 = .ok (.invokevirtual 172, 3) := by decide +kernel
theorem dX8_back_16 : decode cX8_back 16 = .ok (.ireturn, 1) := by decide +kernel
theorem dX8_back_17 : decode cX8_back 17 = .ok (.aload_n 0, 1) := by decide +kernel
theorem dX8_back_18 : decode cX8_back 18 = .ok (.getfield 22, 3) := by decide +kernel
theorem dX8_back_21 : decode cX8_back 21 = .ok (.aload_n 0, 1) := by decide +kernel
theorem dX8_back_22 : decode cX8_back 22 = .ok (.getfield 10, 3) := by decide +kernel
theorem dX8_back_25 : decode cX8_back 25 = .ok (.invokevirtual 241, 3) := by decide +kernel
theorem dX8_back_28 : decode cX8_back 28 = .ok (.aload_n 0, 1) := by decide +kernel
theorem dX8_back_29 : decode cX8_back 29 = .ok (.getfield 22, 3) := by decide +kernel
theorem dX8_back_32 : decode cX8_back 32 = .ok (.getfield 240, 3) := by decide +kernel
theorem dX8_back_35 : decode cX8_back 35 = .ok (.ireturn, 1) := by decide +kernel
set_option maxRecDepth 20000 in
theorem ggX8_told_X8_refuseBad : GoodIn wsX8_told wsX8_refuseBad := goodIn_r _ [12, 1, 13, 14, 15, 16, 17, 18, 19, 20, 21, 22, 23] (by decide +kernel) (by decide +kernel)
set_option maxRecDepth 20000 in
theorem gX8_told_X8_refuseBad : GoodIn wsX8_told (wsV RX8 65 RX8 yX8_refuseBad wsX8_refuseBad) := goodIn_app (goodIn_of _ (by decide +kernel)) ggX8_told_X8_refuseBad
theorem dX8_told_0 : decode cX8_told 0 = .ok (.iload_n 1, 1) := by decide +kernel
theorem dX8_told_1 : decode cX8_told 1 = .ok (.tableswitch 66 0 4 #[35, 40, 45, 50, 58], 35) := by decide +kernel
theorem dX8_told_36 : decode cX8_told 36 = .ok (.aload_n 0, 1) := by decide +kernel
theorem dX8_told_37 : decode cX8_told 37 = .ok (.getfield 244, 3) := by decide +kernel
theorem dX8_told_40 : decode cX8_told 40 = .ok (.ireturn, 1) := by decide +kernel
theorem dX8_told_41 : decode cX8_told 41 = .ok (.aload_n 0, 1) := by decide +kernel
theorem dX8_told_42 : decode cX8_told 42 = .ok (.getfield 247, 3) := by decide +kernel
theorem dX8_told_45 : decode cX8_told 45 = .ok (.ireturn, 1) := by decide +kernel
theorem dX8_told_46 : decode cX8_told 46 = .ok (.aload_n 0, 1) := by decide +kernel
theorem dX8_told_47 : decode cX8_told 47 = .ok (.getfield 224, 3) := by decide +kernel
theorem dX8_told_50 : decode cX8_told 50 = .ok (.ireturn, 1) := by decide +kernel
theorem dX8_told_51 : decode cX8_told 51 = .ok (.aload_n 0, 1) := by decide +kernel
theorem dX8_told_52 : decode cX8_told 52 = .ok (.getfield 29, 3) := by decide +kernel
theorem dX8_told_55 : decode cX8_told 55 = .ok (.getfield 221, 3) := by decide +kernel
theorem dX8_told_58 : decode cX8_told 58 = .ok (.ireturn, 1) := by decide +kernel
theorem dX8_told_59 : decode cX8_told 59 = .ok (.aload_n 0, 1) := by decide +kernel
theorem dX8_told_60 : decode cX8_told 60 = .ok (.getfield 22, 3) := by decide +kernel
theorem dX8_told_63 : decode cX8_told 63 = .ok (.getfield 240, 3) := by decide +kernel
theorem dX8_told_66 : decode cX8_told 66 = .ok (.ireturn, 1) := by decide +kernel
theorem dX8_told_67 : decode cX8_told 67 = .ok (.aload_n 0, 1) := by decide +kernel
theorem dX8_told_68 : decode cX8_told 68 = .ok (.bipush (-2), 2) := by decide +kernel
theorem dX8_told_70 : decode cX8_told 70 = .ok (.invokevirtual 65, 3) := by decide +kernel
theorem dX8_told_73 : decode cX8_told 73 = .ok (.ireturn, 1) := by decide +kernel
set_option maxRecDepth 20000 in
theorem ggX8_digest_X8_told : GoodIn wsX8_digest wsX8_told := goodIn_r _ [14, 15, 16, 17, 18, 19, 20, 21, 22, 23, 24, 13, 25, 120, 121, 122, 123, 124, 125, 126, 127, 128, 129, 130, 139, 140, 141, 142, 143, 144, 145] (by decide +kernel) (by decide +kernel)
set_option maxRecDepth 20000 in
theorem gX8_digest_X8_told : GoodIn wsX8_digest (wsV RX8 254 RX8 yX8_told wsX8_told) := goodIn_app (goodIn_of _ (by decide +kernel)) ggX8_digest_X8_told
set_option maxRecDepth 20000 in
theorem ggX8_digest_X8_votes : GoodIn wsX8_digest wsX8_votes := goodIn_r _ [29, 30, 3, 4, 7, 31, 32, 33, 34, 35, 36, 37, 38, 39, 40, 41, 42, 43, 44, 45, 46, 47, 48, 49, 50, 51, 52, 53, 54, 55, 56, 57, 58, 59, 60, 61, 62, 63, 64, 65, 13, 66, 67, 68, 69, 70, 71, 72, 73, 74, 75, 120, 121, 122, 123, 124, 125, 126, 127, 128, 129, 130, 131, 132, 133, 146, 147, 148, 149, 150, 134, 135, 136, 137, 138] (by decide +kernel) (by decide +kernel)
set_option maxRecDepth 20000 in
theorem gX8_digest_X8_votes : GoodIn wsX8_digest (wsV RX8 257 RX8 yX8_votes wsX8_votes) := goodIn_app (goodIn_of _ (by decide +kernel)) ggX8_digest_X8_votes
set_option maxRecDepth 20000 in
theorem ggX8_digest_X8_halves : GoodIn wsX8_digest wsX8_halves := goodIn_r _ [79, 80, 3, 4, 9, 81, 82, 83, 84, 85, 86, 87, 88, 89, 90, 91, 92, 93, 94, 95, 96, 97, 98, 99, 100, 101, 102, 13, 103, 104, 105, 106, 107, 108, 109, 110, 111, 112, 62, 63, 64, 113, 114, 115, 116, 117, 118, 119, 120, 121, 122, 123, 124, 125, 126, 127, 128, 129, 130, 131, 132, 133, 151, 134, 135, 136, 137, 138] (by decide +kernel) (by decide +kernel)
set_option maxRecDepth 20000 in
theorem gX8_digest_X8_halves : GoodIn wsX8_digest (wsV RX8 202 RX8 yX8_halves wsX8_halves) := goodIn_app (goodIn_of _ (by decide +kernel)) ggX8_digest_X8_halves
theorem dX8_digest_0 : decode cX8_digest 0 = .ok (.ldc2_w 250, 3) := by decide +kernel
theorem dX8_digest_3 : decode cX8_digest 3 = .ok (.lstore_n 1, 1) := by decide +kernel
theorem dX8_digest_4 : decode cX8_digest 4 = .ok (.iconst 0, 1) := by decide +kernel
theorem dX8_digest_5 : decode cX8_digest 5 = .ok (.istore_n 3, 1) := by decide +kernel
theorem dX8_digest_6 : decode cX8_digest 6 = .ok (.iload_n 3, 1) := by decide +kernel
theorem dX8_digest_7 : decode cX8_digest 7 = .ok (.iconst 5, 1) := by decide +kernel
theorem dX8_digest_8 : decode cX8_digest 8 = .ok (.if_icmp .ge 22, 3) := by decide +kernel
theorem dX8_digest_11 : decode cX8_digest 11 = .ok (.ldc2_w 252, 3) := by decide +kernel
theorem dX8_digest_14 : decode cX8_digest 14 = .ok (.lload_n 1, 1) := by decide +kernel
theorem dX8_digest_15 : decode cX8_digest 15 = .ok (.lmul, 1) := by decide +kernel
theorem dX8_digest_16 : decode cX8_digest 16 = .ok (.aload_n 0, 1) := by decide +kernel
theorem dX8_digest_17 : decode cX8_digest 17 = .ok (.iload_n 3, 1) := by decide +kernel
theorem dX8_digest_18 : decode cX8_digest 18 = .ok (.invokevirtual 254, 3) := by decide +kernel
theorem dX8_digest_21 : decode cX8_digest 21 = .ok (.i2l, 1) := by decide +kernel
theorem dX8_digest_22 : decode cX8_digest 22 = .ok (.ladd, 1) := by decide +kernel
theorem dX8_digest_23 : decode cX8_digest 23 = .ok (.lstore_n 1, 1) := by decide +kernel
theorem dX8_digest_24 : decode cX8_digest 24 = .ok (.iinc 3 1, 3) := by decide +kernel
theorem dX8_digest_27 : decode cX8_digest 27 = .ok (.goto (-21), 3) := by decide +kernel
theorem dX8_digest_30 : decode cX8_digest 30 = .ok (.ldc2_w 252, 3) := by decide +kernel
theorem dX8_digest_33 : decode cX8_digest 33 = .ok (.lload_n 1, 1) := by decide +kernel
theorem dX8_digest_34 : decode cX8_digest 34 = .ok (.lmul, 1) := by decide +kernel
theorem dX8_digest_35 : decode cX8_digest 35 = .ok (.aload_n 0, 1) := by decide +kernel
theorem dX8_digest_36 : decode cX8_digest 36 = .ok (.getfield 10, 3) := by decide +kernel
theorem dX8_digest_39 : decode cX8_digest 39 = .ok (.getfield 73, 3) := by decide +kernel
theorem dX8_digest_42 : decode cX8_digest 42 = .ok (.getfield 83, 3) := by decide +kernel
theorem dX8_digest_45 : decode cX8_digest 45 = .ok (.i2l, 1) := by decide +kernel
theorem dX8_digest_46 : decode cX8_digest 46 = .ok (.ladd, 1) := by decide +kernel
theorem dX8_digest_47 : decode cX8_digest 47 = .ok (.lstore_n 1, 1) := by decide +kernel
theorem dX8_digest_48 : decode cX8_digest 48 = .ok (.ldc2_w 252, 3) := by decide +kernel
theorem dX8_digest_51 : decode cX8_digest 51 = .ok (.lload_n 1, 1) := by decide +kernel
theorem dX8_digest_52 : decode cX8_digest 52 = .ok (.lmul, 1) := by decide +kernel
theorem dX8_digest_53 : decode cX8_digest 53 = .ok (.aload_n 0, 1) := by decide +kernel
theorem dX8_digest_54 : decode cX8_digest 54 = .ok (.getfield 10, 3) := by decide +kernel
theorem dX8_digest_57 : decode cX8_digest 57 = .ok (.getfield 73, 3) := by decide +kernel
theorem dX8_digest_60 : decode cX8_digest 60 = .ok (.getfield 86, 3) := by decide +kernel
theorem dX8_digest_63 : decode cX8_digest 63 = .ok (.i2l, 1) := by decide +kernel
theorem dX8_digest_64 : decode cX8_digest 64 = .ok (.ladd, 1) := by decide +kernel
theorem dX8_digest_65 : decode cX8_digest 65 = .ok (.lstore_n 1, 1) := by decide +kernel
theorem dX8_digest_66 : decode cX8_digest 66 = .ok (.ldc2_w 252, 3) := by decide +kernel
theorem dX8_digest_69 : decode cX8_digest 69 = .ok (.lload_n 1, 1) := by decide +kernel
theorem dX8_digest_70 : decode cX8_digest 70 = .ok (.lmul, 1) := by decide +kernel
theorem dX8_digest_71 : decode cX8_digest 71 = .ok (.aload_n 0, 1) := by decide +kernel
theorem dX8_digest_72 : decode cX8_digest 72 = .ok (.getfield 10, 3) := by decide +kernel
theorem dX8_digest_75 : decode cX8_digest 75 = .ok (.getfield 103, 3) := by decide +kernel
theorem dX8_digest_78 : decode cX8_digest 78 = .ok (.i2l, 1) := by decide +kernel
theorem dX8_digest_79 : decode cX8_digest 79 = .ok (.ladd, 1) := by decide +kernel
theorem dX8_digest_80 : decode cX8_digest 80 = .ok (.lstore_n 1, 1) := by decide +kernel
theorem dX8_digest_81 : decode cX8_digest 81 = .ok (.iconst 0, 1) := by decide +kernel
theorem dX8_digest_82 : decode cX8_digest 82 = .ok (.istore_n 3, 1) := by decide +kernel
theorem dX8_digest_83 : decode cX8_digest 83 = .ok (.iload_n 3, 1) := by decide +kernel
theorem dX8_digest_84 : decode cX8_digest 84 = .ok (.aload_n 0, 1) := by decide +kernel
theorem dX8_digest_85 : decode cX8_digest 85 = .ok (.getfield 10, 3) := by decide +kernel
theorem dX8_digest_88 : decode cX8_digest 88 = .ok (.getfield 73, 3) := by decide +kernel
theorem dX8_digest_91 : decode cX8_digest 91 = .ok (.getfield 93, 3) := by decide +kernel
theorem dX8_digest_94 : decode cX8_digest 94 = .ok (.if_icmp .ge 26, 3) := by decide +kernel
theorem dX8_digest_97 : decode cX8_digest 97 = .ok (.ldc2_w 252, 3) := by decide +kernel
theorem dX8_digest_100 : decode cX8_digest 100 = .ok (.lload_n 1, 1) := by decide +kernel
theorem dX8_digest_101 : decode cX8_digest 101 = .ok (.lmul, 1) := by decide +kernel
theorem dX8_digest_102 : decode cX8_digest 102 = .ok (.aload_n 0, 1) := by decide +kernel
theorem dX8_digest_103 : decode cX8_digest 103 = .ok (.getfield 10, 3) := by decide +kernel
theorem dX8_digest_106 : decode cX8_digest 106 = .ok (.getfield 187, 3) := by decide +kernel
theorem dX8_digest_109 : decode cX8_digest 109 = .ok (.iload_n 3, 1) := by decide +kernel
theorem dX8_digest_110 : decode cX8_digest 110 = .ok (.iaload, 1) := by decide +kernel
theorem dX8_digest_111 : decode cX8_digest 111 = .ok (.i2l, 1) := by decide +kernel
theorem dX8_digest_112 : decode cX8_digest 112 = .ok (.ladd, 1) := by decide +kernel
theorem dX8_digest_113 : decode cX8_digest 113 = .ok (.lstore_n 1, 1) := by decide +kernel
theorem dX8_digest_114 : decode cX8_digest 114 = .ok (.iinc 3 1, 3) := by decide +kernel
theorem dX8_digest_117 : decode cX8_digest 117 = .ok (.goto (-34), 3) := by decide +kernel
theorem dX8_digest_120 : decode cX8_digest 120 = .ok (.ldc2_w 252, 3) := by decide +kernel
