theorem dX9_coefficientOf_3 : decode cX9_coefficientOf 3 = .ok (.istore 4, 2) := by decide +kernel
theorem dX9_coefficientOf_5 : decode cX9_coefficientOf 5 = .ok (.iload 4, 2) := by decide +kernel
theorem dX9_coefficientOf_7 : decode cX9_coefficientOf 7 = .ok (.aload_n 0, 1) := by decide +kernel
theorem dX9_coefficientOf_8 : decode cX9_coefficientOf 8 = .ok (.invokevirtual 60, 3) := by decide +kernel
theorem dX9_coefficientOf_11 : decode cX9_coefficientOf 11 = .ok (.if_icmp .ge 31, 3) := by decide +kernel
theorem dX9_coefficientOf_14 : decode cX9_coefficientOf 14 = .ok (.iload_n 3, 1) := by decide +kernel
theorem dX9_coefficientOf_15 : decode cX9_coefficientOf 15 = .ok (.iload 4, 2) := by decide +kernel
theorem dX9_coefficientOf_17 : decode cX9_coefficientOf 17 = .ok (.iload_n 2, 1) := by decide +kernel
theorem dX9_coefficientOf_18 : decode cX9_coefficientOf 18 = .ok (.iand, 1) := by decide +kernel
theorem dX9_coefficientOf_19 : decode cX9_coefficientOf 19 = .ok (.iload 4, 2) := by decide +kernel
theorem dX9_coefficientOf_21 : decode cX9_coefficientOf 21 = .ok (.if_icmp .ne 12, 3) := by decide +kernel
theorem dX9_coefficientOf_24 : decode cX9_coefficientOf 24 = .ok (.iload_n 1, 1) := by decide +kernel
theorem dX9_coefficientOf_25 : decode cX9_coefficientOf 25 = .ok (.iload 4, 2) := by decide +kernel
theorem dX9_coefficientOf_27 : decode cX9_coefficientOf 27 = .ok (.ishr, 1) := by decide +kernel
theorem dX9_coefficientOf_28 : decode cX9_coefficientOf 28 = .ok (.iconst 1, 1) := by decide +kernel
theorem dX9_coefficientOf_29 : decode cX9_coefficientOf 29 = .ok (.iand, 1) := by decide +kernel
theorem dX9_coefficientOf_30 : decode cX9_coefficientOf 30 = .ok (.goto 4, 3) := by decide +kernel
theorem dX9_coefficientOf_33 : decode cX9_coefficientOf 33 = .ok (.iconst 0, 1) := by decide +kernel
theorem dX9_coefficientOf_34 : decode cX9_coefficientOf 34 = .ok (.ixor, 1) := by decide +kernel
theorem dX9_coefficientOf_35 : decode cX9_coefficientOf 35 = .ok (.istore_n 3, 1) := by decide +kernel
theorem dX9_coefficientOf_36 : decode cX9_coefficientOf 36 = .ok (.iinc 4 1, 3) := by decide +kernel
theorem dX9_coefficientOf_39 : decode cX9_coefficientOf 39 = .ok (.goto (-34), 3) := by decide +kernel
theorem dX9_coefficientOf_42 : decode cX9_coefficientOf 42 = .ok (.iload_n 3, 1) := by decide +kernel
theorem dX9_coefficientOf_43 : decode cX9_coefficientOf 43 = .ok (.ireturn, 1) := by decide +kernel
set_option maxRecDepth 20000 in
theorem ggX9_isWord_X9_places : GoodIn wsX9_isWord wsX9_places := goodIn_r _ [5, 6, 7, 8, 4, 9, 10, 26, 27, 28, 29, 30, 31, 32, 33, 34, 35, 36, 37, 38, 39, 40, 41, 42, 43, 44, 45, 46, 47, 48, 49, 50, 51, 52] (by decide +kernel) (by decide +kernel)
set_option maxRecDepth 20000 in
theorem gX9_isWord_X9_places : GoodIn wsX9_isWord (wsV RX9 60 RX9 yX9_places wsX9_places) := goodIn_app (goodIn_of _ (by decide +kernel)) ggX9_isWord_X9_places
set_option maxRecDepth 20000 in
theorem ggX9_isWord_X9_bits : GoodIn wsX9_isWord wsX9_bits := goodIn_r _ [13] (by decide +kernel) (by decide +kernel)
set_option maxRecDepth 20000 in
theorem gX9_isWord_X9_bits : GoodIn wsX9_isWord (va_wsS RX9 63 yX9_bits wsX9_bits) := goodIn_app (goodIn_of _ (by decide +kernel)) ggX9_isWord_X9_bits
set_option maxRecDepth 20000 in
theorem ggX9_isWord_X9_order : GoodIn wsX9_isWord wsX9_order := goodIn_r _ [17, 10, 26, 27, 28, 29, 30, 31, 32, 33, 34, 35, 36, 37, 38, 39, 40, 41, 42, 43, 44, 45, 46, 47, 48, 49, 50, 51, 52] (by decide +kernel) (by decide +kernel)
set_option maxRecDepth 20000 in
theorem gX9_isWord_X9_order : GoodIn wsX9_isWord (wsV RX9 67 RX9 yX9_order wsX9_order) := goodIn_app (goodIn_of _ (by decide +kernel)) ggX9_isWord_X9_order
set_option maxRecDepth 20000 in
theorem ggX9_isWord_X9_theWord : GoodIn wsX9_isWord wsX9_theWord := goodIn_r _ [21, 10, 26, 27, 28, 29, 30, 31, 32, 33, 34, 35, 36, 37, 38, 39, 40, 41, 42, 43, 44, 45, 46, 47, 48, 49, 50, 51, 52] (by decide +kernel) (by decide +kernel)
set_option maxRecDepth 20000 in
theorem gX9_isWord_X9_theWord : GoodIn wsX9_isWord (wsV RX9 116 RX9 yX9_theWord wsX9_theWord) := goodIn_app (goodIn_of _ (by decide +kernel)) ggX9_isWord_X9_theWord
set_option maxRecDepth 20000 in
theorem ggX9_isWord_X9_coefficientOf : GoodIn wsX9_isWord wsX9_coefficientOf := goodIn_r _ [25, 1, 2, 3, 4, 5, 6, 7, 8, 9, 10, 26, 27, 28, 29, 30, 31, 32, 33, 34, 35, 36, 37, 38, 39, 40, 41, 42, 43, 44, 45, 46, 47, 48, 49, 50, 51, 52] (by decide +kernel) (by decide +kernel)
set_option maxRecDepth 20000 in
theorem gX9_isWord_X9_coefficientOf : GoodIn wsX9_isWord (wsV RX9 139 RX9 yX9_coefficientOf wsX9_coefficientOf) := goodIn_app (goodIn_of _ (by decide +kernel)) ggX9_isWord_X9_coefficientOf
theorem dX9_isWord_0 : decode cX9_isWord 0 = .ok (.iconst 1, 1) := by decide +kernel
theorem dX9_isWord_1 : decode cX9_isWord 1 = .ok (.istore_n 1, 1) := by decide +kernel
theorem dX9_isWord_2 : decode cX9_isWord 2 = .ok (.iconst 0, 1) := by decide +kernel
theorem dX9_isWord_3 : decode cX9_isWord 3 = .ok (.istore_n 2, 1) := by decide +kernel
theorem dX9_isWord_4 : decode cX9_isWord 4 = .ok (.iload_n 2, 1) := by decide +kernel
theorem dX9_isWord_5 : decode cX9_isWord 5 = .ok (.aload_n 0, 1) := by decide +kernel
theorem dX9_isWord_6 : decode cX9_isWord 6 = .ok (.invokevirtual 60, 3) := by decide +kernel
theorem dX9_isWord_9 : decode cX9_isWord 9 = .ok (.if_icmp .ge 39, 3) := by decide +kernel
theorem dX9_isWord_12 : decode cX9_isWord 12 = .ok (.iload_n 2, 1) := by decide +kernel
theorem dX9_isWord_13 : decode cX9_isWord 13 = .ok (.invokestatic 63, 3) := by decide +kernel
theorem dX9_isWord_16 : decode cX9_isWord 16 = .ok (.aload_n 0, 1) := by decide +kernel
theorem dX9_isWord_17 : decode cX9_isWord 17 = .ok (.invokevirtual 67, 3) := by decide +kernel
theorem dX9_isWord_20 : decode cX9_isWord 20 = .ok (.if_icmp .le 20, 3) := by decide +kernel
theorem dX9_isWord_23 : decode cX9_isWord 23 = .ok (.aload_n 0, 1) := by decide +kernel
theorem dX9_isWord_24 : decode cX9_isWord 24 = .ok (.aload_n 0, 1) := by decide +kernel
theorem dX9_isWord_25 : decode cX9_isWord 25 = .ok (.invokevirtual 116, 3) := by decide +kernel
theorem dX9_isWord_28 : decode cX9_isWord 28 = .ok (.iload_n 2, 1) := by decide +kernel
theorem dX9_isWord_29 : decode cX9_isWord 29 = .ok (.invokevirtual 139, 3) := by decide +kernel
theorem dX9_isWord_32 : decode cX9_isWord 32 = .ok (.iconst 1, 1) := by decide +kernel
theorem dX9_isWord_33 : decode cX9_isWord 33 = .ok (.if_icmp .ne 7, 3) := by decide +kernel
theorem dX9_isWord_36 : decode cX9_isWord 36 = .ok (.iconst 0, 1) := by decide +kernel
theorem dX9_isWord_37 : decode cX9_isWord 37 = .ok (.goto 4, 3) := by decide +kernel
theorem dX9_isWord_40 : decode cX9_isWord 40 = .ok (.iload_n 1, 1) := by decide +kernel
theorem dX9_isWord_41 : decode cX9_isWord 41 = .ok (.istore_n 1, 1) := by decide +kernel
theorem dX9_isWord_42 : decode cX9_isWord 42 = .ok (.iinc 2 1, 3) := by decide +kernel
theorem dX9_isWord_45 : decode cX9_isWord 45 = .ok (.goto (-41), 3) := by decide +kernel
theorem dX9_isWord_48 : decode cX9_isWord 48 = .ok (.iload_n 1, 1) := by decide +kernel
theorem dX9_isWord_49 : decode cX9_isWord 49 = .ok (.ireturn, 1) := by decide +kernel
set_option maxRecDepth 20000 in
theorem ggX9_coefficient_X9_isPlace : GoodIn wsX9_coefficient wsX9_isPlace := goodIn_r _ [6, 7, 8, 9, 5, 10, 11, 12, 13, 14, 15, 16, 17, 18, 40, 41, 42, 43, 44, 45, 46, 47, 48, 49, 50, 51, 52, 53, 54, 55, 56, 57, 58, 59, 60, 61, 62, 63, 64, 65, 66] (by decide +kernel) (by decide +kernel)
set_option maxRecDepth 20000 in
theorem gX9_coefficient_X9_isPlace : GoodIn wsX9_coefficient (wsV RX9 122 RX9 yX9_isPlace wsX9_isPlace) := goodIn_app (goodIn_of _ (by decide +kernel)) ggX9_coefficient_X9_isPlace
set_option maxRecDepth 20000 in
theorem ggX9_coefficient_X9_bad : GoodIn wsX9_coefficient wsX9_bad := goodIn_r _ [22, 23, 40, 41, 42, 43, 44, 45, 46, 47, 48, 49, 50, 51, 52, 53, 54, 55, 56, 57, 58, 59, 60, 61, 62, 63, 64, 65, 66] (by decide +kernel) (by decide +kernel)
set_option maxRecDepth 20000 in
theorem gX9_coefficient_X9_bad : GoodIn wsX9_coefficient (wsV RX9 90 RX9 yX9_bad wsX9_bad) := goodIn_app (goodIn_of _ (by decide +kernel)) ggX9_coefficient_X9_bad
set_option maxRecDepth 20000 in
theorem ggX9_coefficient_X9_length : GoodIn wsX9_coefficient wsX9_length := goodIn_r _ [14, 15, 40, 41, 42, 43, 44, 45, 46, 47, 48, 49, 50, 51, 52, 53, 54, 55, 56, 57, 58, 59, 60, 61, 62, 63, 64, 65, 66] (by decide +kernel) (by decide +kernel)
set_option maxRecDepth 20000 in
theorem gX9_coefficient_X9_length : GoodIn wsX9_coefficient (wsV RX9 49 RX9 yX9_length wsX9_length) := goodIn_app (goodIn_of _ (by decide +kernel)) ggX9_coefficient_X9_length
set_option maxRecDepth 20000 in
theorem ggX9_coefficient_X9_lays : GoodIn wsX9_coefficient wsX9_lays := goodIn_r _ [27, 28, 1, 7, 8, 9, 5, 10, 11, 12, 13, 14, 15, 29, 30, 31, 40, 41, 42, 43, 44, 45, 46, 47, 48, 49, 50, 51, 52, 53, 54, 55, 56, 57, 58, 59, 60, 61, 62, 63, 64, 65, 66] (by decide +kernel) (by decide +kernel)
set_option maxRecDepth 20000 in
theorem gX9_coefficient_X9_lays : GoodIn wsX9_coefficient (wsV RX9 70 RX9 yX9_lays wsX9_lays) := goodIn_app (goodIn_of _ (by decide +kernel)) ggX9_coefficient_X9_lays
set_option maxRecDepth 20000 in
theorem ggX9_coefficient_X9_theWord : GoodIn wsX9_coefficient wsX9_theWord := goodIn_r _ [35, 15, 40, 41, 42, 43, 44, 45, 46, 47, 48, 49, 50, 51, 52, 53, 54, 55, 56, 57, 58, 59, 60, 61, 62, 63, 64, 65, 66] (by decide +kernel) (by decide +kernel)
set_option maxRecDepth 20000 in
theorem gX9_coefficient_X9_theWord : GoodIn wsX9_coefficient (wsV RX9 116 RX9 yX9_theWord wsX9_theWord) := goodIn_app (goodIn_of _ (by decide +kernel)) ggX9_coefficient_X9_theWord
set_option maxRecDepth 20000 in
theorem ggX9_coefficient_X9_coefficientOf : GoodIn wsX9_coefficient wsX9_coefficientOf := goodIn_r _ [39, 7, 8, 9, 5, 10, 11, 12, 13, 14, 15, 40, 41, 42, 43, 44, 45, 46, 47, 48, 49, 50, 51, 52, 53, 54, 55, 56, 57, 58, 59, 60, 61, 62, 63, 64, 65, 66] (by decide +kernel) (by decide +kernel)
set_option maxRecDepth 20000 in
theorem gX9_coefficient_X9_coefficientOf : GoodIn wsX9_coefficient (wsV RX9 139 RX9 yX9_coefficientOf wsX9_coefficientOf) := goodIn_app (goodIn_of _ (by decide +kernel)) ggX9_coefficient_X9_coefficientOf
theorem dX9_coefficient_0 : decode cX9_coefficient 0 = .ok (.aload_n 0, 1) := by decide +kernel
theorem dX9_coefficient_1 : decode cX9_coefficient 1 = .ok (.iload_n 1, 1) := by decide +kernel
theorem dX9_coefficient_2 : decode cX9_coefficient 2 = .ok (.invokevirtual 122, 3) := by decide +kernel
theorem dX9_coefficient_5 : decode cX9_coefficient 5 = .ok (.ifCond .ne 10, 3) := by decide +kernel
theorem dX9_coefficient_8 : decode cX9_coefficient 8 = .ok (.aload_n 0, 1) := by decide +kernel
theorem dX9_coefficient_9 : decode cX9_coefficient 9 = .ok (.bipush (-2), 2) := by decide +kernel
theorem dX9_coefficient_11 : decode cX9_coefficient 11 = .ok (.invokevirtual 90, 3) := by decide +kernel
theorem dX9_coefficient_14 : decode cX9_coefficient 14 = .ok (.ireturn, 1) := by decide +kernel
theorem dX9_coefficient_15 : decode cX9_coefficient 15 = .ok (.aload_n 0, 1) := by decide +kernel
theorem dX9_coefficient_16 : decode cX9_coefficient 16 = .ok (.aload_n 0, 1) := by decide +kernel
theorem dX9_coefficient_17 : decode cX9_coefficient 17 = .ok (.invokevirtual 49, 3) := by decide +kernel
theorem dX9_coefficient_20 : decode cX9_coefficient 20 = .ok (.invokevirtual 70, 3) := by decide +kernel
theorem dX9_coefficient_23 : decode cX9_coefficient 23 = .ok (.aload_n 0, 1) := by decide +kernel
theorem dX9_coefficient_24 : decode cX9_coefficient 24 = .ok (.aload_n 0, 1) := by decide +kernel
theorem dX9_coefficient_25 : decode cX9_coefficient 25 = .ok (.invokevirtual 116, 3) := by decide +kernel
theorem dX9_coefficient_28 : decode cX9_coefficient 28 = .ok (.aload_n 0, 1) := by decide +kernel
theorem dX9_coefficient_29 : decode cX9_coefficient 29 = .ok (.getfield 19, 3) := by decide +kernel
theorem dX9_coefficient_32 : decode cX9_coefficient 32 = .ok (.iload_n 1, 1) := by decide +kernel
theorem dX9_coefficient_33 : decode cX9_coefficient 33 = .ok (.iaload, 1) := by decide +kernel
theorem dX9_coefficient_34 : decode cX9_coefficient 34 = .ok (.invokevirtual 139, 3) := by decide +kernel
theorem dX9_coefficient_37 : decode cX9_coefficient 37 = .ok (.ireturn, 1) := by decide +kernel
set_option maxRecDepth 20000 in
theorem ggX9_voted_X9_places : GoodIn wsX9_voted wsX9_places := goodIn_r _ [5, 6, 7, 8, 4, 9, 10, 11, 12, 13, 14, 15, 16, 17, 18, 19, 20, 21, 22, 23, 24, 25, 26, 27, 28, 29, 30, 31, 32, 33, 34, 35, 36, 37] (by decide +kernel) (by decide +kernel)
set_option maxRecDepth 20000 in
theorem gX9_voted_X9_places : GoodIn wsX9_voted (wsV RX9 60 RX9 yX9_places wsX9_places) := goodIn_app (goodIn_of _ (by decide +kernel)) ggX9_voted_X9_places
theorem dX9_voted_0 : decode cX9_voted 0 = .ok (.iconst 0, 1) := by decide +kernel
theorem dX9_voted_1 : decode cX9_voted 1 = .ok (.istore_n 3, 1) := by decide +kernel
theorem dX9_voted_2 : decode cX9_voted 2 = .ok (.iconst 0, 1) := by decide +kernel
theorem dX9_voted_3 : decode cX9_voted 3 = .ok (.istore 4, 2) := by decide +kernel
theorem dX9_voted_5 : decode cX9_voted 5 = .ok (.iload 4, 2) := by decide +kernel
theorem dX9_voted_7 : decode cX9_voted 7 = .ok (.aload_n 0, 1) := by decide +kernel
theorem dX9_voted_8 : decode cX9_voted 8 = .ok (.invokevirtual 60, 3) := by decide +kernel
theorem dX9_voted_11 : decode cX9_voted 11 = .ok (.if_icmp .ge 77, 3) := by decide +kernel
theorem dX9_voted_14 : decode cX9_voted 14 = .ok (.iload 4, 2) := by decide +kernel
theorem dX9_voted_16 : decode cX9_voted 16 = .ok (.iload_n 2, 1) := by decide +kernel
theorem dX9_voted_17 : decode cX9_voted 17 = .ok (.iand, 1) := by decide +kernel
theorem dX9_voted_18 : decode cX9_voted 18 = .ok (.ifCond .ne 64, 3) := by decide +kernel
theorem dX9_voted_21 : decode cX9_voted 21 = .ok (.iconst 0, 1) := by decide +kernel
theorem dX9_voted_22 : decode cX9_voted 22 = .ok (.istore 5, 2) := by decide +kernel
theorem dX9_voted_24 : decode cX9_voted 24 = .ok (.iconst 0, 1) := by decide +kernel
theorem dX9_voted_25 : decode cX9_voted 25 = .ok (.istore 6, 2) := by decide +kernel
theorem dX9_voted_27 : decode cX9_voted 27 = .ok (.iload 6, 2) := by decide +kernel
theorem dX9_voted_29 : decode cX9_voted 29 = .ok (.aload_n 0, 1) := by decide +kernel
theorem dX9_voted_30 : decode cX9_voted 30 = .ok (.invokevirtual 60, 3) := by decide +kernel
theorem dX9_voted_33 : decode cX9_voted 33 = .ok (.if_icmp .ge 35, 3) := by decide +kernel
theorem dX9_voted_36 : decode cX9_voted 36 = .ok (.iload 5, 2) := by decide +kernel
theorem dX9_voted_38 : decode cX9_voted 38 = .ok (.iload 6, 2) := by decide +kernel
theorem dX9_voted_40 : decode cX9_voted 40 = .ok (.iload_n 2, 1) := by decide +kernel
theorem dX9_voted_41 : decode cX9_voted 41 = .ok (.iconst (-1), 1) := by decide +kernel
theorem dX9_voted_42 : decode cX9_voted 42 = .ok (.ixor, 1) := by decide +kernel
theorem dX9_voted_43 : decode cX9_voted 43 = .ok (.iand, 1) := by decide +kernel
theorem dX9_voted_44 : decode cX9_voted 44 = .ok (.iload 4, 2) := by decide +kernel
theorem dX9_voted_46 : decode cX9_voted 46 = .ok (.if_icmp .ne 12, 3) := by decide +kernel
theorem dX9_voted_49 : decode cX9_voted 49 = .ok (.iload_n 1, 1) := by decide +kernel
theorem dX9_voted_50 : decode cX9_voted 50 = .ok (.iload 6, 2) := by decide +kernel
theorem dX9_voted_52 : decode cX9_voted 52 = .ok (.ishr, 1) := by decide +kernel
theorem dX9_voted_53 : decode cX9_voted 53 = .ok (.iconst 1, 1) := by decide +kernel
theorem dX9_voted_54 : decode cX9_voted 54 = .ok (.iand, 1) := by decide +kernel
theorem dX9_voted_55 : decode cX9_voted 55 = .ok (.goto 4, 3) := by decide +kernel
theorem dX9_voted_58 : decode cX9_voted 58 = .ok (.iconst 0, 1) := by decide +kernel
theorem dX9_voted_59 : decode cX9_voted 59 = .ok (.ixor, 1) := by decide +kernel
theorem dX9_voted_60 : decode cX9_voted 60 = .ok (.istore 5, 2) := by decide +kernel
theorem dX9_voted_62 : decode cX9_voted 62 = .ok (.iinc 6 1, 3) := by decide +kernel
theorem dX9_voted_65 : decode cX9_voted 65 = .ok (.goto (-38), 3) := by decide +kernel
theorem dX9_voted_68 : decode cX9_voted 68 = .ok (.iload_n 3, 1) := by decide +kernel
theorem dX9_voted_69 : decode cX9_voted 69 = .ok (.iload 5, 2) := by decide +kernel
theorem dX9_voted_71 : decode cX9_voted 71 = .ok (.iconst 1, 1) := by decide +kernel
theorem dX9_voted_72 : decode cX9_voted 72 = .ok (.if_icmp .ne 7, 3) := by decide +kernel
theorem dX9_voted_75 : decode cX9_voted 75 = .ok (.iconst 1, 1) := by decide +kernel
theorem dX9_voted_76 : decode cX9_voted 76 = .ok (.goto 4, 3) := by decide +kernel
theorem dX9_voted_79 : decode cX9_voted 79 = .ok (.iconst (-1), 1) := by decide +kernel
theorem dX9_voted_80 : decode cX9_voted 80 = .ok (.iadd, 1) := by decide +kernel
theorem dX9_voted_81 : decode cX9_voted 81 = .ok (.istore_n 3, 1) := by decide +kernel
theorem dX9_voted_82 : decode cX9_voted 82 = .ok (.iinc 4 1, 3) := by decide +kernel
theorem dX9_voted_85 : decode cX9_voted 85 = .ok (.goto (-80), 3) := by decide +kernel
theorem dX9_voted_88 : decode cX9_voted 88 = .ok (.iload_n 3, 1) := by decide +kernel
theorem dX9_voted_89 : decode cX9_voted 89 = .ok (.ireturn, 1) := by decide +kernel
set_option maxRecDepth 20000 in
theorem ggX9_votesNow_X9_theWord : GoodIn wsX9_votesNow wsX9_theWord := goodIn_r _ [11, 12, 52, 53, 54, 55, 56, 57, 58, 59, 60, 61, 62, 63, 64, 65, 66, 67, 68, 69, 70, 71, 72, 73, 74, 75, 76, 77, 78] (by decide +kernel) (by decide +kernel)
set_option maxRecDepth 20000 in
theorem gX9_votesNow_X9_theWord : GoodIn wsX9_votesNow (wsV RX9 116 RX9 yX9_theWord wsX9_theWord) := goodIn_app (goodIn_of _ (by decide +kernel)) ggX9_votesNow_X9_theWord
set_option maxRecDepth 20000 in
theorem ggX9_votesNow_X9_many : GoodIn wsX9_votesNow wsX9_many := goodIn_r _ [16, 17, 18, 19, 20, 10, 21, 12, 22, 23, 24, 25, 5, 26, 27, 28, 29, 30, 31, 32, 33, 34, 35, 36, 52, 53, 54, 55, 56, 57, 58, 59, 60, 61, 62, 63, 64, 65, 66, 67, 68, 69, 70, 71, 72, 73, 74, 75, 76, 77, 78] (by decide +kernel) (by decide +kernel)
set_option maxRecDepth 20000 in
theorem gX9_votesNow_X9_many : GoodIn wsX9_votesNow (wsV RX9 100 RX9 yX9_many wsX9_many) := goodIn_app (goodIn_of _ (by decide +kernel)) ggX9_votesNow_X9_many
set_option maxRecDepth 20000 in
theorem ggX9_votesNow_X9_order : GoodIn wsX9_votesNow wsX9_order := goodIn_r _ [21, 12, 52, 53, 54, 55, 56, 57, 58, 59, 60, 61, 62, 63, 64, 65, 66, 67, 68, 69, 70, 71, 72, 73, 74, 75, 76, 77, 78] (by decide +kernel) (by decide +kernel)
set_option maxRecDepth 20000 in
theorem gX9_votesNow_X9_order : GoodIn wsX9_votesNow (wsV RX9 67 RX9 yX9_order wsX9_order) := goodIn_app (goodIn_of _ (by decide +kernel)) ggX9_votesNow_X9_order
set_option maxRecDepth 20000 in
theorem ggX9_votesNow_X9_bits : GoodIn wsX9_votesNow wsX9_bits := goodIn_r _ [36] (by decide +kernel) (by decide +kernel)
set_option maxRecDepth 20000 in
theorem gX9_votesNow_X9_bits : GoodIn wsX9_votesNow (va_wsS RX9 63 yX9_bits wsX9_bits) := goodIn_app (goodIn_of _ (by decide +kernel)) ggX9_votesNow_X9_bits
set_option maxRecDepth 20000 in
theorem ggX9_votesNow_X9_voted : GoodIn wsX9_votesNow wsX9_voted := goodIn_r _ [40, 26, 27, 28, 10, 29, 30, 31, 32, 33, 12, 52, 53, 54, 55, 56, 57, 58, 59, 60, 61, 62, 63, 64, 65, 66, 67, 68, 69, 70, 71, 72, 73, 74, 75, 76, 77, 78] (by decide +kernel) (by decide +kernel)
set_option maxRecDepth 20000 in
theorem gX9_votesNow_X9_voted : GoodIn wsX9_votesNow (wsV RX9 154 RX9 yX9_voted wsX9_voted) := goodIn_app (goodIn_of _ (by decide +kernel)) ggX9_votesNow_X9_voted
set_option maxRecDepth 20000 in
theorem ggX9_votesNow_X9_wordOf : GoodIn wsX9_votesNow wsX9_wordOf := goodIn_r _ [44, 26, 27, 28, 10, 29, 30, 31, 32, 33, 12, 52, 53, 54, 55, 56, 57, 58, 59, 60, 61, 62, 63, 64, 65, 66, 67, 68, 69, 70, 71, 72, 73, 74, 75, 76, 77, 78] (by decide +kernel) (by decide +kernel)
set_option maxRecDepth 20000 in
theorem gX9_votesNow_X9_wordOf : GoodIn wsX9_votesNow (wsV RX9 78 RX9 yX9_wordOf wsX9_wordOf) := goodIn_app (goodIn_of _ (by decide +kernel)) ggX9_votesNow_X9_wordOf
set_option maxRecDepth 20000 in
theorem ggX9_votesNow_X9_sumOf : GoodIn wsX9_votesNow wsX9_sumOf := goodIn_r _ [48, 5, 49, 50, 10, 51, 41, 42, 43, 44, 26, 27, 28, 29, 30, 31, 32, 33, 12, 52, 53, 54, 55, 56, 57, 58, 59, 60, 61, 62, 63, 64, 65, 66, 67, 68, 69, 70, 71, 72, 73, 74, 75, 76, 77, 78] (by decide +kernel) (by decide +kernel)
set_option maxRecDepth 20000 in
theorem gX9_votesNow_X9_sumOf : GoodIn wsX9_votesNow (wsV RX9 112 RX9 yX9_sumOf wsX9_sumOf) := goodIn_app (goodIn_of _ (by decide +kernel)) ggX9_votesNow_X9_sumOf
theorem dX9_votesNow_0 : decode cX9_votesNow 0 = .ok (.aload_n 0, 1) := by decide +kernel
theorem dX9_votesNow_1 : decode cX9_votesNow 1 = .ok (.invokevirtual 116, 3) := by decide +kernel
theorem dX9_votesNow_4 : decode cX9_votesNow 4 = .ok (.istore_n 1, 1) := by decide +kernel
theorem dX9_votesNow_5 : decode cX9_votesNow 5 = .ok (.aload_n 0, 1) := by decide +kernel
theorem dX9_votesNow_6 : decode cX9_votesNow 6 = .ok (.invokevirtual 100, 3) := by decide +kernel
theorem dX9_votesNow_9 : decode cX9_votesNow 9 = .ok (.istore_n 2, 1) := by decide +kernel
theorem dX9_votesNow_10 : decode cX9_votesNow 10 = .ok (.aload_n 0, 1) := by decide +kernel
theorem dX9_votesNow_11 : decode cX9_votesNow 11 = .ok (.iconst 0, 1) := by decide +kernel
theorem dX9_votesNow_12 : decode cX9_votesNow 12 = .ok (.putfield 142, 3) := by decide +kernel
theorem dX9_votesNow_15 : decode cX9_votesNow 15 = .ok (.aload_n 0, 1) := by decide +kernel
theorem dX9_votesNow_16 : decode cX9_votesNow 16 = .ok (.iconst 0, 1) := by decide +kernel
theorem dX9_votesNow_17 : decode cX9_votesNow 17 = .ok (.putfield 145, 3) := by decide +kernel
theorem dX9_votesNow_20 : decode cX9_votesNow 20 = .ok (.aload_n 0, 1) := by decide +kernel
theorem dX9_votesNow_21 : decode cX9_votesNow 21 = .ok (.iconst (-1), 1) := by decide +kernel
theorem dX9_votesNow_22 : decode cX9_votesNow 22 = .ok (.putfield 148, 3) := by decide +kernel
theorem dX9_votesNow_25 : decode cX9_votesNow 25 = .ok (.aload_n 0, 1) := by decide +kernel
theorem dX9_votesNow_26 : decode cX9_votesNow 26 = .ok (.iconst 0, 1) := by decide +kernel
theorem dX9_votesNow_27 : decode cX9_votesNow 27 = .ok (.putfield 151, 3) := by decide +kernel
theorem dX9_votesNow_30 : decode cX9_votesNow 30 = .ok (.aload_n 0, 1) := by decide +kernel
theorem dX9_votesNow_31 : decode cX9_votesNow 31 = .ok (.invokevirtual 67, 3) := by decide +kernel
theorem dX9_votesNow_34 : decode cX9_votesNow 34 = .ok (.istore_n 3, 1) := by decide +kernel
theorem dX9_votesNow_35 : decode cX9_votesNow 35 = .ok (.iload_n 3, 1) := by decide +kernel
theorem dX9_votesNow_36 : decode cX9_votesNow 36 = .ok (.ifCond .lt 175, 3) := by decide +kernel
theorem dX9_votesNow_39 : decode cX9_votesNow 39 = .ok (.iconst 0, 1) := by decide +kernel
theorem dX9_votesNow_40 : decode cX9_votesNow 40 = .ok (.istore 4, 2) := by decide +kernel
theorem dX9_votesNow_42 : decode cX9_votesNow 42 = .ok (.iconst 0, 1) := by decide +kernel
theorem dX9_votesNow_43 : decode cX9_votesNow 43 = .ok (.istore 5, 2) := by decide +kernel
theorem dX9_votesNow_45 : decode cX9_votesNow 45 = .ok (.iload 5, 2) := by decide +kernel
theorem dX9_votesNow_47 : decode cX9_votesNow 47 = .ok (.iload_n 2, 1) := by decide +kernel
theorem dX9_votesNow_48 : decode cX9_votesNow 48 = .ok (.if_icmp .ge 152, 3) := by decide +kernel
theorem dX9_votesNow_51 : decode cX9_votesNow 51 = .ok (.aload_n 0, 1) := by decide +kernel
theorem dX9_votesNow_52 : decode cX9_votesNow 52 = .ok (.getfield 19, 3) := by decide +kernel
theorem dX9_votesNow_55 : decode cX9_votesNow 55 = .ok (.iload 5, 2) := by decide +kernel
theorem dX9_votesNow_57 : decode cX9_votesNow 57 = .ok (.iaload, 1) := by decide +kernel
theorem dX9_votesNow_58 : decode cX9_votesNow 58 = .ok (.invokestatic 63, 3) := by decide +kernel
theorem dX9_votesNow_61 : decode cX9_votesNow 61 = .ok (.iload_n 3, 1) := by decide +kernel
theorem dX9_votesNow_62 : decode cX9_votesNow 62 = .ok (.if_icmp .ne 132, 3) := by decide +kernel
theorem dX9_votesNow_65 : decode cX9_votesNow 65 = .ok (.aload_n 0, 1) := by decide +kernel
theorem dX9_votesNow_66 : decode cX9_votesNow 66 = .ok (.iload_n 1, 1) := by decide +kernel
theorem dX9_votesNow_67 : decode cX9_votesNow 67 = .ok (.aload_n 0, 1) := by decide +kernel
theorem dX9_votesNow_68 : decode cX9_votesNow 68 = .ok (.getfield 19, 3) := by decide +kernel
theorem dX9_votesNow_71 : decode cX9_votesNow 71 = .ok (.iload 5, 2) := by decide +kernel
theorem dX9_votesNow_73 : decode cX9_votesNow 73 = .ok (.iaload, 1) := by decide +kernel
theorem dX9_votesNow_74 : decode cX9_votesNow 74 = .ok (.invokevirtual 154, 3) := by decide +kernel
theorem dX9_votesNow_77 : decode cX9_votesNow 77 = .ok (.istore 6, 2) := by decide +kernel
theorem dX9_votesNow_79 : decode cX9_votesNow 79 = .ok (.iload 6, 2) := by decide +kernel
theorem dX9_votesNow_81 : decode cX9_votesNow 81 = .ok (.ifCond .ge 9, 3) := by decide +kernel
theorem dX9_votesNow_84 : decode cX9_votesNow 84 = .ok (.iload 6, 2) := by decide +kernel
theorem dX9_votesNow_86 : decode cX9_votesNow 86 = .ok (.ineg, 1) := by decide +kernel
theorem dX9_votesNow_87 : decode cX9_votesNow 87 = .ok (.goto 5, 3) := by decide +kernel
theorem dX9_votesNow_90 : decode cX9_votesNow 90 = .ok (.iload 6, 2) := by decide +kernel
theorem dX9_votesNow_92 : decode cX9_votesNow 92 = .ok (.istore 7, 2) := by decide +kernel
theorem dX9_votesNow_94 : decode cX9_votesNow 94 = .ok (.aload_n 0, 1) := by decide +kernel
theorem dX9_votesNow_95 : decode cX9_votesNow 95 = .ok (.dup, 1) := by decide +kernel
theorem dX9_votesNow_96 : decode cX9_votesNow 96 = .ok (.getfield 142, 3) := by decide +kernel
theorem dX9_votesNow_99 : decode cX9_votesNow 99 = .ok (.iload 6, 2) := by decide +kernel
theorem dX9_votesNow_101 : decode cX9_votesNow 101 = .ok (.ifCond .le 10, 3) := by decide +kernel
theorem dX9_votesNow_104 : decode cX9_votesNow 104 = .ok (.iconst 1, 1) := by decide +kernel
theorem dX9_votesNow_105 : decode cX9_votesNow 105 = .ok (.iload 5, 2) := by decide +kernel
theorem dX9_votesNow_107 : decode cX9_votesNow 107 = .ok (.ishl, 1) := by decide +kernel
theorem dX9_votesNow_108 : decode cX9_votesNow 108 = .ok (.goto 4, 3) := by decide +kernel
theorem dX9_votesNow_111 : decode cX9_votesNow 111 = .ok (.iconst 0, 1) := by decide +kernel
theorem dX9_votesNow_112 : decode cX9_votesNow 112 = .ok (.ior, 1) := by decide +kernel
theorem dX9_votesNow_113 : decode cX9_votesNow 113 = .ok (.putfield 142, 3) := by decide +kernel
theorem dX9_votesNow_116 : decode cX9_votesNow 116 = .ok (.iload 4, 2) := by decide +kernel
theorem dX9_votesNow_118 : decode cX9_votesNow 118 = .ok (.iload 6, 2) := by decide +kernel
theorem dX9_votesNow_120 : decode cX9_votesNow 120 = .ok (.ifCond .le 17, 3) := by decide +kernel
theorem dX9_votesNow_123 : decode cX9_votesNow 123 = .ok (.aload_n 0, 1) := by decide +kernel
theorem dX9_votesNow_124 : decode cX9_votesNow 124 = .ok (.aload_n 0, 1) := by decide +kernel
theorem dX9_votesNow_125 : decode cX9_votesNow 125 = .ok (.getfield 19, 3) := by decide +kernel
theorem dX9_votesNow_128 : decode cX9_votesNow 128 = .ok (.iload 5, 2) := by decide +kernel
theorem dX9_votesNow_130 : decode cX9_votesNow 130 = .ok (.iaload, 1) := by decide +kernel
theorem dX9_votesNow_131 : decode cX9_votesNow 131 = .ok (.invokevirtual 78, 3) := by decide +kernel
theorem dX9_votesNow_134 : decode cX9_votesNow 134 = .ok (.goto 4, 3) := by decide +kernel
theorem dX9_votesNow_137 : decode cX9_votesNow 137 = .ok (.iconst 0, 1) := by decide +kernel
theorem dX9_votesNow_138 : decode cX9_votesNow 138 = .ok (.ixor, 1) := by decide +kernel
theorem dX9_votesNow_139 : decode cX9_votesNow 139 = .ok (.istore 4, 2) := by decide +kernel
theorem dX9_votesNow_141 : decode cX9_votesNow 141 = .ok (.aload_n 0, 1) := by decide +kernel
theorem dX9_votesNow_142 : decode cX9_votesNow 142 = .ok (.dup, 1) := by decide +kernel
theorem dX9_votesNow_143 : decode cX9_votesNow 143 = .ok (.getfield 145, 3) := by decide +kernel
theorem dX9_votesNow_146 : decode cX9_votesNow 146 = .ok (.iload 6, 2) := by decide +kernel
theorem dX9_votesNow_148 : decode cX9_votesNow 148 = .ok (.ifCond .ne 7, 3) := by decide +kernel
theorem dX9_votesNow_151 : decode cX9_votesNow 151 = .ok (.iconst 1, 1) := by decide +kernel
theorem dX9_votesNow_152 : decode cX9_votesNow 152 = .ok (.goto 4, 3) := by decide +kernel
theorem dX9_votesNow_155 : decode cX9_votesNow 155 = .ok (.iconst 0, 1) := by decide +kernel
theorem dX9_votesNow_156 : decode cX9_votesNow 156 = .ok (.iadd, 1) := by decide +kernel
theorem dX9_votesNow_157 : decode cX9_votesNow 157 = .ok (.putfield 145, 3) := by decide +kernel
theorem dX9_votesNow_160 : decode cX9_votesNow 160 = .ok (.aload_n 0, 1) := by decide +kernel
theorem dX9_votesNow_161 : decode cX9_votesNow 161 = .ok (.getfield 148, 3) := by decide +kernel
theorem dX9_votesNow_164 : decode cX9_votesNow 164 = .ok (.iconst (-1), 1) := by decide +kernel
theorem dX9_votesNow_165 : decode cX9_votesNow 165 = .ok (.if_icmp .eq 12, 3) := by decide +kernel
theorem dX9_votesNow_168 : decode cX9_votesNow 168 = .ok (.iload 7, 2) := by decide +kernel
theorem dX9_votesNow_170 : decode cX9_votesNow 170 = .ok (.aload_n 0, 1) := by decide +kernel
theorem dX9_votesNow_171 : decode cX9_votesNow 171 = .ok (.getfield 151, 3) := by decide +kernel
theorem dX9_votesNow_174 : decode cX9_votesNow 174 = .ok (.if_icmp .ge 20, 3) := by decide +kernel
theorem dX9_votesNow_177 : decode cX9_votesNow 177 = .ok (.aload_n 0, 1) := by decide +kernel
theorem dX9_votesNow_178 : decode cX9_votesNow 178 = .ok (.aload_n 0, 1) := by decide +kernel
theorem dX9_votesNow_179 : decode cX9_votesNow 179 = .ok (.getfield 19, 3) := by decide +kernel
theorem dX9_votesNow_182 : decode cX9_votesNow 182 = .ok (.iload 5, 2) := by decide +kernel
theorem dX9_votesNow_184 : decode cX9_votesNow 184 = .ok (.iaload, 1) := by decide +kernel
theorem dX9_votesNow_185 : decode cX9_votesNow 185 = .ok (.putfield 148, 3) := by decide +kernel
theorem dX9_votesNow_188 : decode cX9_votesNow 188 = .ok (.aload_n 0, 1) := by decide +kernel
theorem dX9_votesNow_189 : decode cX9_votesNow 189 = .ok (.iload 7, 2) := by decide +kernel
theorem dX9_votesNow_191 : decode cX9_votesNow 191 = .ok (.putfield 151, 3) := by decide +kernel
theorem dX9_votesNow_194 : decode cX9_votesNow 194 = .ok (.iinc 5 1, 3) := by decide +kernel
theorem dX9_votesNow_197 : decode cX9_votesNow 197 = .ok (.goto (-152), 3) := by decide +kernel
theorem dX9_votesNow_200 : decode cX9_votesNow 200 = .ok (.iload_n 1, 1) := by decide +kernel
theorem dX9_votesNow_201 : decode cX9_votesNow 201 = .ok (.iload 4, 2) := by decide +kernel
theorem dX9_votesNow_203 : decode cX9_votesNow 203 = .ok (.ixor, 1) := by decide +kernel
theorem dX9_votesNow_204 : decode cX9_votesNow 204 = .ok (.istore_n 1, 1) := by decide +kernel
theorem dX9_votesNow_205 : decode cX9_votesNow 205 = .ok (.iinc 3 (-1), 3) := by decide +kernel
theorem dX9_votesNow_208 : decode cX9_votesNow 208 = .ok (.goto (-173), 3) := by decide +kernel
theorem dX9_votesNow_211 : decode cX9_votesNow 211 = .ok (.aload_n 0, 1) := by decide +kernel
theorem dX9_votesNow_212 : decode cX9_votesNow 212 = .ok (.aload_n 0, 1) := by decide +kernel
theorem dX9_votesNow_213 : decode cX9_votesNow 213 = .ok (.aload_n 0, 1) := by decide +kernel
theorem dX9_votesNow_214 : decode cX9_votesNow 214 = .ok (.getfield 142, 3) := by decide +kernel
theorem dX9_votesNow_217 : decode cX9_votesNow 217 = .ok (.iload_n 2, 1) := by decide +kernel
theorem dX9_votesNow_218 : decode cX9_votesNow 218 = .ok (.invokevirtual 112, 3) := by decide +kernel
theorem dX9_votesNow_221 : decode cX9_votesNow 221 = .ok (.putfield 157, 3) := by decide +kernel
theorem dX9_votesNow_224 : decode cX9_votesNow 224 = .ok (.return_, 1) := by decide +kernel
set_option maxRecDepth 20000 in
theorem ggX9_votes_X9_votesNow : GoodIn wsX9_votes wsX9_votesNow := goodIn_r _ [6, 1, 7, 8, 9, 10, 11, 12, 13, 14, 5, 15, 16, 17, 18, 19, 20, 21, 22, 23, 24, 25, 26, 27, 28, 29, 30, 31, 32, 33, 34, 35, 36, 37, 38, 39, 40, 41, 42, 43, 44, 45, 46, 47, 48, 49, 50, 51, 52, 53, 54, 55, 56, 57, 58, 59, 60, 61, 62, 63, 64, 65, 66, 67, 68, 69, 70, 71, 72, 73, 74, 75, 76, 77, 78, 79, 80, 81, 82] (by decide +kernel) (by decide +kernel)
set_option maxRecDepth 20000 in
theorem gX9_votes_X9_votesNow : GoodIn wsX9_votes (wsV RX9 160 RX9 yX9_votesNow wsX9_votesNow) := goodIn_app (goodIn_of _ (by decide +kernel)) ggX9_votes_X9_votesNow
theorem dX9_votes_0 : decode cX9_votes 0 = .ok (.aload_n 0, 1) := by decide +kernel
theorem dX9_votes_1 : decode cX9_votes 1 = .ok (.invokevirtual 160, 3) := by decide +kernel
theorem dX9_votes_4 : decode cX9_votes 4 = .ok (.aload_n 0, 1) := by decide +kernel
theorem dX9_votes_5 : decode cX9_votes 5 = .ok (.getfield 142, 3) := by decide +kernel
theorem dX9_votes_8 : decode cX9_votes 8 = .ok (.ireturn, 1) := by decide +kernel
set_option maxRecDepth 20000 in
theorem ggX9_vote_X9_in : GoodIn wsX9_vote wsX9_in := goodIn_r _ [9] (by decide +kernel) (by decide +kernel)
set_option maxRecDepth 20000 in
theorem gX9_vote_X9_in : GoodIn wsX9_vote (va_wsS RX9 83 yX9_in wsX9_in) := goodIn_app (goodIn_of _ (by decide +kernel)) ggX9_vote_X9_in
set_option maxRecDepth 20000 in
theorem ggX9_vote_X9_bad : GoodIn wsX9_vote wsX9_bad := goodIn_r _ [13, 14, 65, 66, 67, 68, 69, 70, 71, 72, 73, 74, 75, 76, 77, 78, 79, 80, 81, 82, 83, 84, 85, 86, 87, 88, 89, 90, 91] (by decide +kernel) (by decide +kernel)
set_option maxRecDepth 20000 in
theorem gX9_vote_X9_bad : GoodIn wsX9_vote (wsV RX9 90 RX9 yX9_bad wsX9_bad) := goodIn_app (goodIn_of _ (by decide +kernel)) ggX9_vote_X9_bad
set_option maxRecDepth 20000 in
theorem ggX9_vote_X9_votesNow : GoodIn wsX9_vote wsX9_votesNow := goodIn_r _ [18, 19, 3, 4, 5, 20, 2, 21, 22, 23, 8, 24, 25, 26, 27, 28, 29, 30, 31, 32, 33, 34, 35, 36, 37, 38, 39, 40, 41, 42, 43, 44, 45, 46, 47, 48, 49, 50, 51, 52, 53, 54, 55, 56, 57, 58, 59, 60, 61, 62, 63, 64, 65, 66, 67, 68, 69, 70, 71, 72, 73, 74, 75, 76, 77, 78, 79, 80, 81, 82, 83, 84, 85, 86, 87, 88, 89, 90, 91] (by decide +kernel) (by decide +kernel)
set_option maxRecDepth 20000 in
theorem gX9_vote_X9_votesNow : GoodIn wsX9_vote (wsV RX9 160 RX9 yX9_votesNow wsX9_votesNow) := goodIn_app (goodIn_of _ (by decide +kernel)) ggX9_vote_X9_votesNow
set_option maxRecDepth 20000 in
theorem ggX9_vote_X9_theWord : GoodIn wsX9_vote wsX9_theWord := goodIn_r _ [24, 25, 65, 66, 67, 68, 69, 70, 71, 72, 73, 74, 75, 76, 77, 78, 79, 80, 81, 82, 83, 84, 85, 86, 87, 88, 89, 90, 91] (by decide +kernel) (by decide +kernel)
set_option maxRecDepth 20000 in
theorem gX9_vote_X9_theWord : GoodIn wsX9_vote (wsV RX9 116 RX9 yX9_theWord wsX9_theWord) := goodIn_app (goodIn_of _ (by decide +kernel)) ggX9_vote_X9_theWord
set_option maxRecDepth 20000 in
theorem ggX9_vote_X9_bits : GoodIn wsX9_vote wsX9_bits := goodIn_r _ [49] (by decide +kernel) (by decide +kernel)
set_option maxRecDepth 20000 in
theorem gX9_vote_X9_bits : GoodIn wsX9_vote (va_wsS RX9 63 yX9_bits wsX9_bits) := goodIn_app (goodIn_of _ (by decide +kernel)) ggX9_vote_X9_bits
theorem dX9_vote_0 : decode cX9_vote 0 = .ok (.iload_n 1, 1) := by decide +kernel
theorem dX9_vote_1 : decode cX9_vote 1 = .ok (.i2l, 1) := by decide +kernel
theorem dX9_vote_2 : decode cX9_vote 2 = .ok (.lconst 0, 1) := by decide +kernel
theorem dX9_vote_3 : decode cX9_vote 3 = .ok (.ldc2_w 163, 3) := by decide +kernel
theorem dX9_vote_6 : decode cX9_vote 6 = .ok (.invokestatic 83, 3) := by decide +kernel
theorem dX9_vote_9 : decode cX9_vote 9 = .ok (.ifCond .ne 10, 3) := by decide +kernel
theorem dX9_vote_12 : decode cX9_vote 12 = .ok (.aload_n 0, 1) := by decide +kernel
theorem dX9_vote_13 : decode cX9_vote 13 = .ok (.bipush (-2), 2) := by decide +kernel
theorem dX9_vote_15 : decode cX9_vote 15 = .ok (.invokevirtual 90, 3) := by decide +kernel
theorem dX9_vote_18 : decode cX9_vote 18 = .ok (.ireturn, 1) := by decide +kernel
theorem dX9_vote_19 : decode cX9_vote 19 = .ok (.aload_n 0, 1) := by decide +kernel
theorem dX9_vote_20 : decode cX9_vote 20 = .ok (.invokevirtual 160, 3) := by decide +kernel
theorem dX9_vote_23 : decode cX9_vote 23 = .ok (.iload_n 1, 1) := by decide +kernel
theorem dX9_vote_24 : decode cX9_vote 24 = .ok (.ifCond .ne 18, 3) := by decide +kernel
theorem dX9_vote_27 : decode cX9_vote 27 = .ok (.aload_n 0, 1) := by decide +kernel
theorem dX9_vote_28 : decode cX9_vote 28 = .ok (.invokevirtual 116, 3) := by decide +kernel
theorem dX9_vote_31 : decode cX9_vote 31 = .ok (.aload_n 0, 1) := by decide +kernel
theorem dX9_vote_32 : decode cX9_vote 32 = .ok (.getfield 157, 3) := by decide +kernel
theorem dX9_vote_35 : decode cX9_vote 35 = .ok (.ixor, 1) := by decide +kernel
theorem dX9_vote_36 : decode cX9_vote 36 = .ok (.invokestatic 63, 3) := by decide +kernel
theorem dX9_vote_39 : decode cX9_vote 39 = .ok (.goto 31, 3) := by decide +kernel
theorem dX9_vote_42 : decode cX9_vote 42 = .ok (.iload_n 1, 1) := by decide +kernel
theorem dX9_vote_43 : decode cX9_vote 43 = .ok (.iconst 1, 1) := by decide +kernel
theorem dX9_vote_44 : decode cX9_vote 44 = .ok (.if_icmp .ne 10, 3) := by decide +kernel
theorem dX9_vote_47 : decode cX9_vote 47 = .ok (.aload_n 0, 1) := by decide +kernel
theorem dX9_vote_48 : decode cX9_vote 48 = .ok (.getfield 145, 3) := by decide +kernel
theorem dX9_vote_51 : decode cX9_vote 51 = .ok (.goto 19, 3) := by decide +kernel
theorem dX9_vote_54 : decode cX9_vote 54 = .ok (.iload_n 1, 1) := by decide +kernel
theorem dX9_vote_55 : decode cX9_vote 55 = .ok (.iconst 2, 1) := by decide +kernel
theorem dX9_vote_56 : decode cX9_vote 56 = .ok (.if_icmp .ne 10, 3) := by decide +kernel
theorem dX9_vote_59 : decode cX9_vote 59 = .ok (.aload_n 0, 1) := by decide +kernel
theorem dX9_vote_60 : decode cX9_vote 60 = .ok (.getfield 148, 3) := by decide +kernel
theorem dX9_vote_63 : decode cX9_vote 63 = .ok (.goto 7, 3) := by decide +kernel
theorem dX9_vote_66 : decode cX9_vote 66 = .ok (.aload_n 0, 1) := by decide +kernel
theorem dX9_vote_67 : decode cX9_vote 67 = .ok (.getfield 151, 3) := by decide +kernel
theorem dX9_vote_70 : decode cX9_vote 70 = .ok (.ireturn, 1) := by decide +kernel
set_option maxRecDepth 20000 in
theorem ggX9_mendsNow_X9_votesNow : GoodIn wsX9_mendsNow wsX9_votesNow := goodIn_r _ [7, 8, 9, 10, 11, 12, 1, 13, 14, 15, 6, 16, 2, 17, 18, 19, 20, 21, 22, 23, 24, 25, 26, 27, 28, 29, 30, 31, 32, 33, 34, 35, 36, 37, 38, 39, 40, 41, 42, 43, 44, 45, 46, 47, 48, 49, 50, 51, 52, 53, 54, 55, 56, 57, 58, 59, 60, 61, 62, 63, 64, 65, 66, 67, 68, 69, 70, 71, 72, 73, 74, 75, 76, 77, 78, 79, 80, 81, 82] (by decide +kernel) (by decide +kernel)
set_option maxRecDepth 20000 in
theorem gX9_mendsNow_X9_votesNow : GoodIn wsX9_mendsNow (wsV RX9 160 RX9 yX9_votesNow wsX9_votesNow) := goodIn_app (goodIn_of _ (by decide +kernel)) ggX9_mendsNow_X9_votesNow
set_option maxRecDepth 20000 in
theorem ggX9_mendsNow_X9_theWord : GoodIn wsX9_mendsNow wsX9_theWord := goodIn_r _ [16, 2, 56, 57, 58, 59, 60, 61, 62, 63, 64, 65, 66, 67, 68, 69, 70, 71, 72, 73, 74, 75, 76, 77, 78, 79, 80, 81, 82] (by decide +kernel) (by decide +kernel)
set_option maxRecDepth 20000 in
theorem gX9_mendsNow_X9_theWord : GoodIn wsX9_mendsNow (wsV RX9 116 RX9 yX9_theWord wsX9_theWord) := goodIn_app (goodIn_of _ (by decide +kernel)) ggX9_mendsNow_X9_theWord
set_option maxRecDepth 20000 in
theorem ggX9_mendsNow_X9_bits : GoodIn wsX9_mendsNow wsX9_bits := goodIn_r _ [40] (by decide +kernel) (by decide +kernel)
set_option maxRecDepth 20000 in
theorem gX9_mendsNow_X9_bits : GoodIn wsX9_mendsNow (va_wsS RX9 63 yX9_bits wsX9_bits) := goodIn_app (goodIn_of _ (by decide +kernel)) ggX9_mendsNow_X9_bits
theorem dX9_mendsNow_0 : decode cX9_mendsNow 0 = .ok (.aload_n 0, 1) := by decide +kernel
theorem dX9_mendsNow_1 : decode cX9_mendsNow 1 = .ok (.invokevirtual 160, 3) := by decide +kernel
theorem dX9_mendsNow_4 : decode cX9_mendsNow 4 = .ok (.aload_n 0, 1) := by decide +kernel
theorem dX9_mendsNow_5 : decode cX9_mendsNow 5 = .ok (.invokevirtual 116, 3) := by decide +kernel
theorem dX9_mendsNow_8 : decode cX9_mendsNow 8 = .ok (.aload_n 0, 1) := by decide +kernel
theorem dX9_mendsNow_9 : decode cX9_mendsNow 9 = .ok (.getfield 157, 3) := by decide +kernel
theorem dX9_mendsNow_12 : decode cX9_mendsNow 12 = .ok (.ixor, 1) := by decide +kernel
theorem dX9_mendsNow_13 : decode cX9_mendsNow 13 = .ok (.invokestatic 63, 3) := by decide +kernel
theorem dX9_mendsNow_16 : decode cX9_mendsNow 16 = .ok (.istore_n 1, 1) := by decide +kernel
theorem dX9_mendsNow_17 : decode cX9_mendsNow 17 = .ok (.aload_n 0, 1) := by decide +kernel
theorem dX9_mendsNow_18 : decode cX9_mendsNow 18 = .ok (.getfield 7, 3) := by decide +kernel
theorem dX9_mendsNow_21 : decode cX9_mendsNow 21 = .ok (.iconst 2, 1) := by decide +kernel
theorem dX9_mendsNow_22 : decode cX9_mendsNow 22 = .ok (.aload_n 0, 1) := by decide +kernel
theorem dX9_mendsNow_23 : decode cX9_mendsNow 23 = .ok (.getfield 157, 3) := by decide +kernel
theorem dX9_mendsNow_26 : decode cX9_mendsNow 26 = .ok (.iastore, 1) := by decide +kernel
theorem dX9_mendsNow_27 : decode cX9_mendsNow 27 = .ok (.iload_n 1, 1) := by decide +kernel
theorem dX9_mendsNow_28 : decode cX9_mendsNow 28 = .ok (.ireturn, 1) := by decide +kernel
set_option maxRecDepth 20000 in
theorem ggX9_mends_X9_keep : GoodIn wsX9_mends wsX9_keep := goodIn_r _ [5, 6, 7, 8, 66, 67, 68, 69, 70, 71, 72, 73, 74, 75, 76, 77, 78, 79, 80, 81, 82, 83, 84, 85, 86, 87, 88, 89, 90, 91, 92] (by decide +kernel) (by decide +kernel)
set_option maxRecDepth 20000 in
theorem gX9_mends_X9_keep : GoodIn wsX9_mends (wsV RX9 93 RX9 yX9_keep wsX9_keep) := goodIn_app (goodIn_of _ (by decide +kernel)) ggX9_mends_X9_keep
set_option maxRecDepth 20000 in
theorem ggX9_mends_X9_mendsNow : GoodIn wsX9_mends wsX9_mendsNow := goodIn_r _ [12, 13, 8, 14, 15, 16, 4, 17, 18, 19, 20, 21, 22, 23, 24, 25, 26, 27, 28, 29, 30, 31, 32, 33, 34, 35, 36, 37, 38, 39, 40, 41, 42, 43, 44, 45, 46, 47, 48, 49, 50, 51, 52, 53, 54, 55, 56, 57, 58, 59, 60, 61, 62, 63, 64, 65, 66, 67, 68, 69, 70, 71, 72, 73, 74, 75, 76, 77, 78, 79, 80, 81, 82, 83, 84, 85, 86, 87, 88, 89, 90, 91, 92] (by decide +kernel) (by decide +kernel)
set_option maxRecDepth 20000 in
theorem gX9_mends_X9_mendsNow : GoodIn wsX9_mends (wsV RX9 165 RX9 yX9_mendsNow wsX9_mendsNow) := goodIn_app (goodIn_of _ (by decide +kernel)) ggX9_mends_X9_mendsNow
theorem dX9_mends_0 : decode cX9_mends 0 = .ok (.aload_n 0, 1) := by decide +kernel
theorem dX9_mends_1 : decode cX9_mends 1 = .ok (.invokevirtual 93, 3) := by decide +kernel
theorem dX9_mends_4 : decode cX9_mends 4 = .ok (.aload_n 0, 1) := by decide +kernel
theorem dX9_mends_5 : decode cX9_mends 5 = .ok (.invokevirtual 165, 3) := by decide +kernel
theorem dX9_mends_8 : decode cX9_mends 8 = .ok (.ireturn, 1) := by decide +kernel
set_option maxRecDepth 20000 in
theorem ggX9_signOf_X9_places : GoodIn wsX9_signOf wsX9_places := goodIn_r _ [5, 6, 7, 8, 4, 9, 10, 18, 19, 20, 21, 22, 23, 24, 25, 26, 27, 28, 29, 30, 31, 32, 33, 34, 35, 36, 37, 38, 39, 40, 41, 42, 43, 44] (by decide +kernel) (by decide +kernel)
set_option maxRecDepth 20000 in
theorem gX9_signOf_X9_places : GoodIn wsX9_signOf (wsV RX9 60 RX9 yX9_places wsX9_places) := goodIn_app (goodIn_of _ (by decide +kernel)) ggX9_signOf_X9_places
set_option maxRecDepth 20000 in
theorem ggX9_signOf_X9_theWord : GoodIn wsX9_signOf wsX9_theWord := goodIn_r _ [14, 10, 18, 19, 20, 21, 22, 23, 24, 25, 26, 27, 28, 29, 30, 31, 32, 33, 34, 35, 36, 37, 38, 39, 40, 41, 42, 43, 44] (by decide +kernel) (by decide +kernel)
set_option maxRecDepth 20000 in
theorem gX9_signOf_X9_theWord : GoodIn wsX9_signOf (wsV RX9 116 RX9 yX9_theWord wsX9_theWord) := goodIn_app (goodIn_of _ (by decide +kernel)) ggX9_signOf_X9_theWord
set_option maxRecDepth 20000 in
theorem ggX9_signOf_X9_bits : GoodIn wsX9_signOf wsX9_bits := goodIn_r _ [17] (by decide +kernel) (by decide +kernel)
set_option maxRecDepth 20000 in
theorem gX9_signOf_X9_bits : GoodIn wsX9_signOf (va_wsS RX9 63 yX9_bits wsX9_bits) := goodIn_app (goodIn_of _ (by decide +kernel)) ggX9_signOf_X9_bits
theorem dX9_signOf_0 : decode cX9_signOf 0 = .ok (.iconst 0, 1) := by decide +kernel
theorem dX9_signOf_1 : decode cX9_signOf 1 = .ok (.istore_n 2, 1) := by decide +kernel
theorem dX9_signOf_2 : decode cX9_signOf 2 = .ok (.iconst 0, 1) := by decide +kernel
theorem dX9_signOf_3 : decode cX9_signOf 3 = .ok (.istore_n 3, 1) := by decide +kernel
theorem dX9_signOf_4 : decode cX9_signOf 4 = .ok (.iload_n 3, 1) := by decide +kernel
theorem dX9_signOf_5 : decode cX9_signOf 5 = .ok (.aload_n 0, 1) := by decide +kernel
theorem dX9_signOf_6 : decode cX9_signOf 6 = .ok (.invokevirtual 60, 3) := by decide +kernel
theorem dX9_signOf_9 : decode cX9_signOf 9 = .ok (.if_icmp .ge 36, 3) := by decide +kernel
theorem dX9_signOf_12 : decode cX9_signOf 12 = .ok (.iload_n 2, 1) := by decide +kernel
theorem dX9_signOf_13 : decode cX9_signOf 13 = .ok (.aload_n 0, 1) := by decide +kernel
theorem dX9_signOf_14 : decode cX9_signOf 14 = .ok (.invokevirtual 116, 3) := by decide +kernel
theorem dX9_signOf_17 : decode cX9_signOf 17 = .ok (.iload_n 3, 1) := by decide +kernel
theorem dX9_signOf_18 : decode cX9_signOf 18 = .ok (.ishr, 1) := by decide +kernel
theorem dX9_signOf_19 : decode cX9_signOf 19 = .ok (.iconst 1, 1) := by decide +kernel
theorem dX9_signOf_20 : decode cX9_signOf 20 = .ok (.iand, 1) := by decide +kernel
theorem dX9_signOf_21 : decode cX9_signOf 21 = .ok (.iload_n 1, 1) := by decide +kernel
theorem dX9_signOf_22 : decode cX9_signOf 22 = .ok (.iload_n 3, 1) := by decide +kernel
theorem dX9_signOf_23 : decode cX9_signOf 23 = .ok (.iand, 1) := by decide +kernel
theorem dX9_signOf_24 : decode cX9_signOf 24 = .ok (.invokestatic 63, 3) := by decide +kernel
theorem dX9_signOf_27 : decode cX9_signOf 27 = .ok (.iconst 1, 1) := by decide +kernel
theorem dX9_signOf_28 : decode cX9_signOf 28 = .ok (.iand, 1) := by decide +kernel
theorem dX9_signOf_29 : decode cX9_signOf 29 = .ok (.if_icmp .ne 7, 3) := by decide +kernel
theorem dX9_signOf_32 : decode cX9_signOf 32 = .ok (.iconst 1, 1) := by decide +kernel
theorem dX9_signOf_33 : decode cX9_signOf 33 = .ok (.goto 4, 3) := by decide +kernel
theorem dX9_signOf_36 : decode cX9_signOf 36 = .ok (.iconst (-1), 1) := by decide +kernel
theorem dX9_signOf_37 : decode cX9_signOf 37 = .ok (.iadd, 1) := by decide +kernel
theorem dX9_signOf_38 : decode cX9_signOf 38 = .ok (.istore_n 2, 1) := by decide +kernel
theorem dX9_signOf_39 : decode cX9_signOf 39 = .ok (.iinc 3 1, 3) := by decide +kernel
theorem dX9_signOf_42 : decode cX9_signOf 42 = .ok (.goto (-38), 3) := by decide +kernel
theorem dX9_signOf_45 : decode cX9_signOf 45 = .ok (.iload_n 2, 1) := by decide +kernel
theorem dX9_signOf_46 : decode cX9_signOf 46 = .ok (.ireturn, 1) := by decide +kernel
set_option maxRecDepth 20000 in
theorem ggX9_sign_X9_isPlace : GoodIn wsX9_sign wsX9_isPlace := goodIn_r _ [5, 6, 7, 8, 4, 9, 10, 11, 12, 13, 14, 15, 16, 17, 34, 35, 36, 37, 38, 39, 40, 41, 42, 43, 44, 45, 46, 47, 48, 49, 50, 51, 52, 53, 54, 55, 56, 57, 58, 59, 60] (by decide +kernel) (by decide +kernel)
set_option maxRecDepth 20000 in
theorem gX9_sign_X9_isPlace : GoodIn wsX9_sign (wsV RX9 122 RX9 yX9_isPlace wsX9_isPlace) := goodIn_app (goodIn_of _ (by decide +kernel)) ggX9_sign_X9_isPlace
set_option maxRecDepth 20000 in
theorem ggX9_sign_X9_signOf : GoodIn wsX9_sign wsX9_signOf := goodIn_r _ [21, 6, 7, 8, 4, 9, 10, 11, 12, 13, 14, 22, 23, 24, 25, 26, 27, 28, 34, 35, 36, 37, 38, 39, 40, 41, 42, 43, 44, 45, 46, 47, 48, 49, 50, 51, 52, 53, 54, 55, 56, 57, 58, 59, 60] (by decide +kernel) (by decide +kernel)
set_option maxRecDepth 20000 in
theorem gX9_sign_X9_signOf : GoodIn wsX9_sign (wsV RX9 168 RX9 yX9_signOf wsX9_signOf) := goodIn_app (goodIn_of _ (by decide +kernel)) ggX9_sign_X9_signOf
set_option maxRecDepth 20000 in
theorem ggX9_sign_X9_bad : GoodIn wsX9_sign wsX9_bad := goodIn_r _ [32, 33, 34, 35, 36, 37, 38, 39, 40, 41, 42, 43, 44, 45, 46, 47, 48, 49, 50, 51, 52, 53, 54, 55, 56, 57, 58, 59, 60] (by decide +kernel) (by decide +kernel)
set_option maxRecDepth 20000 in
theorem gX9_sign_X9_bad : GoodIn wsX9_sign (wsV RX9 90 RX9 yX9_bad wsX9_bad) := goodIn_app (goodIn_of _ (by decide +kernel)) ggX9_sign_X9_bad
theorem dX9_sign_0 : decode cX9_sign 0 = .ok (.aload_n 0, 1) := by decide +kernel
theorem dX9_sign_1 : decode cX9_sign 1 = .ok (.iload_n 1, 1) := by decide +kernel
theorem dX9_sign_2 : decode cX9_sign 2 = .ok (.invokevirtual 122, 3) := by decide +kernel
theorem dX9_sign_5 : decode cX9_sign 5 = .ok (.ifCond .eq 11, 3) := by decide +kernel
theorem dX9_sign_8 : decode cX9_sign 8 = .ok (.aload_n 0, 1) := by decide +kernel
theorem dX9_sign_9 : decode cX9_sign 9 = .ok (.iload_n 1, 1) := by decide +kernel
theorem dX9_sign_10 : decode cX9_sign 10 = .ok (.invokevirtual 168, 3) := by decide +kernel
theorem dX9_sign_13 : decode cX9_sign 13 = .ok (.goto 10, 3) := by decide +kernel
theorem dX9_sign_16 : decode cX9_sign 16 = .ok (.aload_n 0, 1) := by decide +kernel
theorem dX9_sign_17 : decode cX9_sign 17 = .ok (.sipush 1000, 3) := by decide +kernel
theorem dX9_sign_20 : decode cX9_sign 20 = .ok (.invokevirtual 90, 3) := by decide +kernel
theorem dX9_sign_23 : decode cX9_sign 23 = .ok (.ireturn, 1) := by decide +kernel
theorem dX9_far_0 : decode cX9_far 0 = .ok (.iload_n 0, 1) := by decide +kernel
theorem dX9_far_1 : decode cX9_far 1 = .ok (.ifCond .ge 8, 3) := by decide +kernel
theorem dX9_far_4 : decode cX9_far 4 = .ok (.iload_n 0, 1) := by decide +kernel
theorem dX9_far_5 : decode cX9_far 5 = .ok (.ineg, 1) := by decide +kernel
theorem dX9_far_6 : decode cX9_far 6 = .ok (.goto 4, 3) := by decide +kernel
theorem dX9_far_9 : decode cX9_far 9 = .ok (.iload_n 0, 1) := by decide +kernel
theorem dX9_far_10 : decode cX9_far 10 = .ok (.ireturn, 1) := by decide +kernel
set_option maxRecDepth 20000 in
theorem ggX9_best_X9_in : GoodIn wsX9_best wsX9_in := goodIn_r _ [5] (by decide +kernel) (by decide +kernel)
set_option maxRecDepth 20000 in
theorem gX9_best_X9_in : GoodIn wsX9_best (va_wsS RX9 83 yX9_in wsX9_in) := goodIn_app (goodIn_of _ (by decide +kernel)) ggX9_best_X9_in
set_option maxRecDepth 20000 in
theorem ggX9_best_X9_bad : GoodIn wsX9_best wsX9_bad := goodIn_r _ [9, 10, 34, 35, 36, 37, 38, 39, 40, 41, 42, 43, 44, 45, 46, 47, 48, 49, 50, 51, 52, 53, 54, 55, 56, 57, 58, 59, 60] (by decide +kernel) (by decide +kernel)
set_option maxRecDepth 20000 in
theorem gX9_best_X9_bad : GoodIn wsX9_best (wsV RX9 90 RX9 yX9_bad wsX9_bad) := goodIn_app (goodIn_of _ (by decide +kernel)) ggX9_best_X9_bad
set_option maxRecDepth 20000 in
theorem ggX9_best_X9_places : GoodIn wsX9_best wsX9_places := goodIn_r _ [14, 15, 16, 17, 4, 18, 19, 34, 35, 36, 37, 38, 39, 40, 41, 42, 43, 44, 45, 46, 47, 48, 49, 50, 51, 52, 53, 54, 55, 56, 57, 58, 59, 60] (by decide +kernel) (by decide +kernel)
set_option maxRecDepth 20000 in
theorem gX9_best_X9_places : GoodIn wsX9_best (wsV RX9 60 RX9 yX9_places wsX9_places) := goodIn_app (goodIn_of _ (by decide +kernel)) ggX9_best_X9_places
set_option maxRecDepth 20000 in
theorem ggX9_best_X9_signOf : GoodIn wsX9_best wsX9_signOf := goodIn_r _ [23, 11, 12, 13, 4, 14, 15, 16, 17, 18, 19, 24, 25, 26, 27, 28, 29, 30, 34, 35, 36, 37, 38, 39, 40, 41, 42, 43, 44, 45, 46, 47, 48, 49, 50, 51, 52, 53, 54, 55, 56, 57, 58, 59, 60] (by decide +kernel) (by decide +kernel)
set_option maxRecDepth 20000 in
theorem gX9_best_X9_signOf : GoodIn wsX9_best (wsV RX9 168 RX9 yX9_signOf wsX9_signOf) := goodIn_app (goodIn_of _ (by decide +kernel)) ggX9_best_X9_signOf
set_option maxRecDepth 20000 in
theorem ggX9_best_X9_far : GoodIn wsX9_best wsX9_far := goodIn_r _ [33] (by decide +kernel) (by decide +kernel)
set_option maxRecDepth 20000 in
theorem gX9_best_X9_far : GoodIn wsX9_best (va_wsS RX9 173 yX9_far wsX9_far) := goodIn_app (goodIn_of _ (by decide +kernel)) ggX9_best_X9_far
theorem dX9_best_0 : decode cX9_best 0 = .ok (.iload_n 1, 1) := by decide +kernel
theorem dX9_best_1 : decode cX9_best 1 = .ok (.i2l, 1) := by decide +kernel
theorem dX9_best_2 : decode cX9_best 2 = .ok (.lconst 0, 1) := by decide +kernel
theorem dX9_best_3 : decode cX9_best 3 = .ok (.ldc2_w 171, 3) := by decide +kernel
theorem dX9_best_6 : decode cX9_best 6 = .ok (.invokestatic 83, 3) := by decide +kernel
theorem dX9_best_9 : decode cX9_best 9 = .ok (.ifCond .ne 10, 3) := by decide +kernel
theorem dX9_best_12 : decode cX9_best 12 = .ok (.aload_n 0, 1) := by decide +kernel
theorem dX9_best_13 : decode cX9_best 13 = .ok (.bipush (-2), 2) := by decide +kernel
theorem dX9_best_15 : decode cX9_best 15 = .ok (.invokevirtual 90, 3) := by decide +kernel
theorem dX9_best_18 : decode cX9_best 18 = .ok (.ireturn, 1) := by decide +kernel
theorem dX9_best_19 : decode cX9_best 19 = .ok (.iconst 0, 1) := by decide +kernel
theorem dX9_best_20 : decode cX9_best 20 = .ok (.istore_n 2, 1) := by decide +kernel
theorem dX9_best_21 : decode cX9_best 21 = .ok (.iconst 0, 1) := by decide +kernel
theorem dX9_best_22 : decode cX9_best 22 = .ok (.istore_n 3, 1) := by decide +kernel
theorem dX9_best_23 : decode cX9_best 23 = .ok (.iconst 0, 1) := by decide +kernel
theorem dX9_best_24 : decode cX9_best 24 = .ok (.istore 4, 2) := by decide +kernel
theorem dX9_best_26 : decode cX9_best 26 = .ok (.iload 4, 2) := by decide +kernel
theorem dX9_best_28 : decode cX9_best 28 = .ok (.aload_n 0, 1) := by decide +kernel
theorem dX9_best_29 : decode cX9_best 29 = .ok (.invokevirtual 60, 3) := by decide +kernel
theorem dX9_best_32 : decode cX9_best 32 = .ok (.if_icmp .ge 68, 3) := by decide +kernel
theorem dX9_best_35 : decode cX9_best 35 = .ok (.aload_n 0, 1) := by decide +kernel
theorem dX9_best_36 : decode cX9_best 36 = .ok (.iload 4, 2) := by decide +kernel
theorem dX9_best_38 : decode cX9_best 38 = .ok (.invokevirtual 168, 3) := by decide +kernel
theorem dX9_best_41 : decode cX9_best 41 = .ok (.invokestatic 173, 3) := by decide +kernel
theorem dX9_best_44 : decode cX9_best 44 = .ok (.aload_n 0, 1) := by decide +kernel
theorem dX9_best_45 : decode cX9_best 45 = .ok (.iload_n 2, 1) := by decide +kernel
theorem dX9_best_46 : decode cX9_best 46 = .ok (.invokevirtual 168, 3) := by decide +kernel
theorem dX9_best_49 : decode cX9_best 49 = .ok (.invokestatic 173, 3) := by decide +kernel
theorem dX9_best_52 : decode cX9_best 52 = .ok (.isub, 1) := by decide +kernel
theorem dX9_best_53 : decode cX9_best 53 = .ok (.istore 5, 2) := by decide +kernel
theorem dX9_best_55 : decode cX9_best 55 = .ok (.iload 5, 2) := by decide +kernel
theorem dX9_best_57 : decode cX9_best 57 = .ok (.ifCond .gt 8, 3) := by decide +kernel
theorem dX9_best_60 : decode cX9_best 60 = .ok (.iload 4, 2) := by decide +kernel
theorem dX9_best_62 : decode cX9_best 62 = .ok (.ifCond .ne 7, 3) := by decide +kernel
theorem dX9_best_65 : decode cX9_best 65 = .ok (.iconst 1, 1) := by decide +kernel
theorem dX9_best_66 : decode cX9_best 66 = .ok (.goto 15, 3) := by decide +kernel
theorem dX9_best_69 : decode cX9_best 69 = .ok (.iload 5, 2) := by decide +kernel
theorem dX9_best_71 : decode cX9_best 71 = .ok (.ifCond .ne 9, 3) := by decide +kernel
theorem dX9_best_74 : decode cX9_best 74 = .ok (.iload_n 3, 1) := by decide +kernel
theorem dX9_best_75 : decode cX9_best 75 = .ok (.iconst 1, 1) := by decide +kernel
theorem dX9_best_76 : decode cX9_best 76 = .ok (.iadd, 1) := by decide +kernel
theorem dX9_best_77 : decode cX9_best 77 = .ok (.goto 4, 3) := by decide +kernel
theorem dX9_best_80 : decode cX9_best 80 = .ok (.iload_n 3, 1) := by decide +kernel
theorem dX9_best_81 : decode cX9_best 81 = .ok (.istore_n 3, 1) := by decide +kernel
theorem dX9_best_82 : decode cX9_best 82 = .ok (.iload 5, 2) := by decide +kernel
theorem dX9_best_84 : decode cX9_best 84 = .ok (.ifCond .le 8, 3) := by decide +kernel
theorem dX9_best_87 : decode cX9_best 87 = .ok (.iload 4, 2) := by decide +kernel
theorem dX9_best_89 : decode cX9_best 89 = .ok (.goto 4, 3) := by decide +kernel
theorem dX9_best_92 : decode cX9_best 92 = .ok (.iload_n 2, 1) := by decide +kernel
theorem dX9_best_93 : decode cX9_best 93 = .ok (.istore_n 2, 1) := by decide +kernel
theorem dX9_best_94 : decode cX9_best 94 = .ok (.iinc 4 1, 3) := by decide +kernel
theorem dX9_best_97 : decode cX9_best 97 = .ok (.goto (-71), 3) := by decide +kernel
theorem dX9_best_100 : decode cX9_best 100 = .ok (.iload_n 1, 1) := by decide +kernel
theorem dX9_best_101 : decode cX9_best 101 = .ok (.ifCond .ne 7, 3) := by decide +kernel
theorem dX9_best_104 : decode cX9_best 104 = .ok (.iload_n 2, 1) := by decide +kernel
theorem dX9_best_105 : decode cX9_best 105 = .ok (.goto 17, 3) := by decide +kernel
theorem dX9_best_108 : decode cX9_best 108 = .ok (.iload_n 1, 1) := by decide +kernel
theorem dX9_best_109 : decode cX9_best 109 = .ok (.iconst 1, 1) := by decide +kernel
theorem dX9_best_110 : decode cX9_best 110 = .ok (.if_icmp .ne 11, 3) := by decide +kernel
theorem dX9_best_113 : decode cX9_best 113 = .ok (.aload_n 0, 1) := by decide +kernel
theorem dX9_best_114 : decode cX9_best 114 = .ok (.iload_n 2, 1) := by decide +kernel
theorem dX9_best_115 : decode cX9_best 115 = .ok (.invokevirtual 168, 3) := by decide +kernel
theorem dX9_best_118 : decode cX9_best 118 = .ok (.goto 4, 3) := by decide +kernel
theorem dX9_best_121 : decode cX9_best 121 = .ok (.iload_n 3, 1) := by decide +kernel
theorem dX9_best_122 : decode cX9_best 122 = .ok (.ireturn, 1) := by decide +kernel
set_option maxRecDepth 20000 in
theorem ggX9_isFew_X9_many : GoodIn wsX9_isFew wsX9_many := goodIn_r _ [5, 6, 7, 8, 9, 4, 10, 11, 12, 13, 14, 15, 16, 17, 18, 19, 20, 21, 22, 23, 24, 25, 26, 27, 28, 29, 30, 31, 32, 33, 34, 35, 36, 37, 38, 39, 40, 41, 42, 43, 44, 45, 46, 47, 48, 49, 50, 51, 52, 53, 54] (by decide +kernel) (by decide +kernel)
set_option maxRecDepth 20000 in
theorem gX9_isFew_X9_many : GoodIn wsX9_isFew (wsV RX9 100 RX9 yX9_many wsX9_many) := goodIn_app (goodIn_of _ (by decide +kernel)) ggX9_isFew_X9_many
theorem dX9_isFew_0 : decode cX9_isFew 0 = .ok (.aload_n 0, 1) := by decide +kernel
theorem dX9_isFew_1 : decode cX9_isFew 1 = .ok (.invokevirtual 100, 3) := by decide +kernel
theorem dX9_isFew_4 : decode cX9_isFew 4 = .ok (.bipush 16, 2) := by decide +kernel
theorem dX9_isFew_6 : decode cX9_isFew 6 = .ok (.if_icmp .gt 7, 3) := by decide +kernel
theorem dX9_isFew_9 : decode cX9_isFew 9 = .ok (.iconst 1, 1) := by decide +kernel
theorem dX9_isFew_10 : decode cX9_isFew 10 = .ok (.goto 4, 3) := by decide +kernel
theorem dX9_isFew_13 : decode cX9_isFew 13 = .ok (.iconst 0, 1) := by decide +kernel
theorem dX9_isFew_14 : decode cX9_isFew 14 = .ok (.ireturn, 1) := by decide +kernel
set_option maxRecDepth 20000 in
theorem ggX9_laysBasis_X9_many : GoodIn wsX9_laysBasis wsX9_many := goodIn_r _ [7, 8, 9, 10, 11, 6, 12, 13, 14, 15, 16, 17, 2, 18, 19, 20, 21, 22, 23, 24, 25, 26, 27, 28, 33, 34, 35, 36, 37, 38, 39, 40, 41, 42, 43, 44, 45, 46, 47, 48, 49, 50, 51, 52, 53, 54, 55, 56, 57, 58, 59] (by decide +kernel) (by decide +kernel)
set_option maxRecDepth 20000 in
theorem gX9_laysBasis_X9_many : GoodIn wsX9_laysBasis (wsV RX9 100 RX9 yX9_many wsX9_many) := goodIn_app (goodIn_of _ (by decide +kernel)) ggX9_laysBasis_X9_many
set_option maxRecDepth 20000 in
theorem ggX9_laysBasis_X9_wordOf : GoodIn wsX9_laysBasis wsX9_wordOf := goodIn_r _ [32, 18, 19, 20, 6, 21, 22, 23, 24, 25, 13, 33, 34, 35, 36, 37, 38, 39, 40, 41, 42, 43, 44, 45, 46, 47, 48, 49, 50, 51, 52, 53, 54, 55, 56, 57, 58, 59] (by decide +kernel) (by decide +kernel)
set_option maxRecDepth 20000 in
theorem gX9_laysBasis_X9_wordOf : GoodIn wsX9_laysBasis (wsV RX9 78 RX9 yX9_wordOf wsX9_wordOf) := goodIn_app (goodIn_of _ (by decide +kernel)) ggX9_laysBasis_X9_wordOf
theorem dX9_laysBasis_0 : decode cX9_laysBasis 0 = .ok (.aload_n 0, 1) := by decide +kernel
theorem dX9_laysBasis_1 : decode cX9_laysBasis 1 = .ok (.invokevirtual 100, 3) := by decide +kernel
theorem dX9_laysBasis_4 : decode cX9_laysBasis 4 = .ok (.istore_n 1, 1) := by decide +kernel
theorem dX9_laysBasis_5 : decode cX9_laysBasis 5 = .ok (.iconst 0, 1) := by decide +kernel
theorem dX9_laysBasis_6 : decode cX9_laysBasis 6 = .ok (.istore_n 2, 1) := by decide +kernel
theorem dX9_laysBasis_7 : decode cX9_laysBasis 7 = .ok (.iload_n 2, 1) := by decide +kernel
theorem dX9_laysBasis_8 : decode cX9_laysBasis 8 = .ok (.iload_n 1, 1) := by decide +kernel
theorem dX9_laysBasis_9 : decode cX9_laysBasis 9 = .ok (.if_icmp .ge 25, 3) := by decide +kernel
theorem dX9_laysBasis_12 : decode cX9_laysBasis 12 = .ok (.aload_n 0, 1) := by decide +kernel
theorem dX9_laysBasis_13 : decode cX9_laysBasis 13 = .ok (.getfield 22, 3) := by decide +kernel
theorem dX9_laysBasis_16 : decode cX9_laysBasis 16 = .ok (.iload_n 2, 1) := by decide +kernel
theorem dX9_laysBasis_17 : decode cX9_laysBasis 17 = .ok (.aload_n 0, 1) := by decide +kernel
theorem dX9_laysBasis_18 : decode cX9_laysBasis 18 = .ok (.aload_n 0, 1) := by decide +kernel
theorem dX9_laysBasis_19 : decode cX9_laysBasis 19 = .ok (.getfield 19, 3) := by decide +kernel
theorem dX9_laysBasis_22 : decode cX9_laysBasis 22 = .ok (.iload_n 2, 1) := by decide +kernel
theorem dX9_laysBasis_23 : decode cX9_laysBasis 23 = .ok (.iaload, 1) := by decide +kernel
theorem dX9_laysBasis_24 : decode cX9_laysBasis 24 = .ok (.invokevirtual 78, 3) := by decide +kernel
theorem dX9_laysBasis_27 : decode cX9_laysBasis 27 = .ok (.iastore, 1) := by decide +kernel
theorem dX9_laysBasis_28 : decode cX9_laysBasis 28 = .ok (.iinc 2 1, 3) := by decide +kernel
theorem dX9_laysBasis_31 : decode cX9_laysBasis 31 = .ok (.goto (-24), 3) := by decide +kernel
theorem dX9_laysBasis_34 : decode cX9_laysBasis 34 = .ok (.return_, 1) := by decide +kernel
set_option maxRecDepth 20000 in
theorem ggX9_finds_X9_many : GoodIn wsX9_finds wsX9_many := goodIn_r _ [9, 10, 11, 12, 13, 8, 14, 15, 16, 17, 18, 19, 20, 21, 22, 23, 24, 25, 26, 27, 28, 29, 30, 31, 47, 48, 49, 50, 51, 52, 53, 54, 55, 56, 57, 58, 59, 60, 61, 62, 63, 64, 65, 66, 67, 68, 69, 70, 71, 72, 73] (by decide +kernel) (by decide +kernel)
set_option maxRecDepth 20000 in
theorem gX9_finds_X9_many : GoodIn wsX9_finds (wsV RX9 100 RX9 yX9_many wsX9_many) := goodIn_app (goodIn_of _ (by decide +kernel)) ggX9_finds_X9_many
set_option maxRecDepth 20000 in
theorem ggX9_finds_X9_laysBasis : GoodIn wsX9_finds wsX9_laysBasis := goodIn_r _ [35, 4, 20, 5, 6, 7, 8, 9, 10, 11, 12, 13, 14, 15, 16, 17, 18, 19, 21, 22, 23, 24, 25, 26, 27, 28, 29, 30, 31, 36, 37, 38, 39, 47, 48, 49, 50, 51, 52, 53, 54, 55, 56, 57, 58, 59, 60, 61, 62, 63, 64, 65, 66, 67, 68, 69, 70, 71, 72, 73] (by decide +kernel) (by decide +kernel)
set_option maxRecDepth 20000 in
theorem gX9_finds_X9_laysBasis : GoodIn wsX9_finds (wsV RX9 176 RX9 yX9_laysBasis wsX9_laysBasis) := goodIn_app (goodIn_of _ (by decide +kernel)) ggX9_finds_X9_laysBasis
set_option maxRecDepth 20000 in
theorem ggX9_finds_X9_theWord : GoodIn wsX9_finds wsX9_theWord := goodIn_r _ [43, 15, 47, 48, 49, 50, 51, 52, 53, 54, 55, 56, 57, 58, 59, 60, 61, 62, 63, 64, 65, 66, 67, 68, 69, 70, 71, 72, 73] (by decide +kernel) (by decide +kernel)
set_option maxRecDepth 20000 in
theorem gX9_finds_X9_theWord : GoodIn wsX9_finds (wsV RX9 116 RX9 yX9_theWord wsX9_theWord) := goodIn_app (goodIn_of _ (by decide +kernel)) ggX9_finds_X9_theWord
set_option maxRecDepth 20000 in
theorem ggX9_finds_X9_bits : GoodIn wsX9_finds wsX9_bits := goodIn_r _ [31] (by decide +kernel) (by decide +kernel)
set_option maxRecDepth 20000 in
theorem gX9_finds_X9_bits : GoodIn wsX9_finds (va_wsS RX9 63 yX9_bits wsX9_bits) := goodIn_app (goodIn_of _ (by decide +kernel)) ggX9_finds_X9_bits
set_option maxRecDepth 20000 in
theorem ggX9_finds_X9_has : GoodIn wsX9_finds wsX9_has := goodIn_r _ [46] (by decide +kernel) (by decide +kernel)
set_option maxRecDepth 20000 in
theorem gX9_finds_X9_has : GoodIn wsX9_finds (va_wsS RX9 74 yX9_has wsX9_has) := goodIn_app (goodIn_of _ (by decide +kernel)) ggX9_finds_X9_has
theorem dX9_finds_0 : decode cX9_finds 0 = .ok (.iconst 0, 1) := by decide +kernel
theorem dX9_finds_1 : decode cX9_finds 1 = .ok (.istore_n 1, 1) := by decide +kernel
theorem dX9_finds_2 : decode cX9_finds 2 = .ok (.aload_n 0, 1) := by decide +kernel
theorem dX9_finds_3 : decode cX9_finds 3 = .ok (.invokevirtual 100, 3) := by decide +kernel
theorem dX9_finds_6 : decode cX9_finds 6 = .ok (.istore_n 2, 1) := by decide +kernel
theorem dX9_finds_7 : decode cX9_finds 7 = .ok (.aload_n 0, 1) := by decide +kernel
theorem dX9_finds_8 : decode cX9_finds 8 = .ok (.invokevirtual 176, 3) := by decide +kernel
theorem dX9_finds_11 : decode cX9_finds 11 = .ok (.aload_n 0, 1) := by decide +kernel
theorem dX9_finds_12 : decode cX9_finds 12 = .ok (.iconst 0, 1) := by decide +kernel
theorem dX9_finds_13 : decode cX9_finds 13 = .ok (.putfield 179, 3) := by decide +kernel
theorem dX9_finds_16 : decode cX9_finds 16 = .ok (.aload_n 0, 1) := by decide +kernel
theorem dX9_finds_17 : decode cX9_finds 17 = .ok (.aload_n 0, 1) := by decide +kernel
theorem dX9_finds_18 : decode cX9_finds 18 = .ok (.invokevirtual 116, 3) := by decide +kernel
theorem dX9_finds_21 : decode cX9_finds 21 = .ok (.invokestatic 63, 3) := by decide +kernel
theorem dX9_finds_24 : decode cX9_finds 24 = .ok (.putfield 182, 3) := by decide +kernel
theorem dX9_finds_27 : decode cX9_finds 27 = .ok (.aload_n 0, 1) := by decide +kernel
theorem dX9_finds_28 : decode cX9_finds 28 = .ok (.iconst 1, 1) := by decide +kernel
theorem dX9_finds_29 : decode cX9_finds 29 = .ok (.putfield 185, 3) := by decide +kernel
theorem dX9_finds_32 : decode cX9_finds 32 = .ok (.iconst 1, 1) := by decide +kernel
theorem dX9_finds_33 : decode cX9_finds 33 = .ok (.istore_n 3, 1) := by decide +kernel
theorem dX9_finds_34 : decode cX9_finds 34 = .ok (.iload_n 3, 1) := by decide +kernel
theorem dX9_finds_35 : decode cX9_finds 35 = .ok (.iconst 1, 1) := by decide +kernel
theorem dX9_finds_36 : decode cX9_finds 36 = .ok (.iload_n 2, 1) := by decide +kernel
theorem dX9_finds_37 : decode cX9_finds 37 = .ok (.ishl, 1) := by decide +kernel
theorem dX9_finds_38 : decode cX9_finds 38 = .ok (.if_icmp .ge 144, 3) := by decide +kernel
theorem dX9_finds_41 : decode cX9_finds 41 = .ok (.iload_n 3, 1) := by decide +kernel
theorem dX9_finds_42 : decode cX9_finds 42 = .ok (.iload_n 3, 1) := by decide +kernel
theorem dX9_finds_43 : decode cX9_finds 43 = .ok (.iconst 1, 1) := by decide +kernel
theorem dX9_finds_44 : decode cX9_finds 44 = .ok (.isub, 1) := by decide +kernel
theorem dX9_finds_45 : decode cX9_finds 45 = .ok (.ixor, 1) := by decide +kernel
theorem dX9_finds_46 : decode cX9_finds 46 = .ok (.istore 4, 2) := by decide +kernel
theorem dX9_finds_48 : decode cX9_finds 48 = .ok (.iconst 0, 1) := by decide +kernel
theorem dX9_finds_49 : decode cX9_finds 49 = .ok (.istore 5, 2) := by decide +kernel
theorem dX9_finds_51 : decode cX9_finds 51 = .ok (.iload 5, 2) := by decide +kernel
theorem dX9_finds_53 : decode cX9_finds 53 = .ok (.iload_n 2, 1) := by decide +kernel
theorem dX9_finds_54 : decode cX9_finds 54 = .ok (.if_icmp .ge 29, 3) := by decide +kernel
theorem dX9_finds_57 : decode cX9_finds 57 = .ok (.iload 4, 2) := by decide +kernel
theorem dX9_finds_59 : decode cX9_finds 59 = .ok (.iload 5, 2) := by decide +kernel
theorem dX9_finds_61 : decode cX9_finds 61 = .ok (.invokestatic 74, 3) := by decide +kernel
theorem dX9_finds_64 : decode cX9_finds 64 = .ok (.ifCond .eq 19, 3) := by decide +kernel
theorem dX9_finds_67 : decode cX9_finds 67 = .ok (.iload_n 1, 1) := by decide +kernel
theorem dX9_finds_68 : decode cX9_finds 68 = .ok (.aload_n 0, 1) := by decide +kernel
theorem dX9_finds_69 : decode cX9_finds 69 = .ok (.getfield 22, 3) := by decide +kernel
theorem dX9_finds_72 : decode cX9_finds 72 = .ok (.iload 5, 2) := by decide +kernel
theorem dX9_finds_74 : decode cX9_finds 74 = .ok (.iaload, 1) := by decide +kernel
theorem dX9_finds_75 : decode cX9_finds 75 = .ok (.ixor, 1) := by decide +kernel
theorem dX9_finds_76 : decode cX9_finds 76 = .ok (.istore_n 1, 1) := by decide +kernel
theorem dX9_finds_77 : decode cX9_finds 77 = .ok (.iinc 5 1, 3) := by decide +kernel
theorem dX9_finds_80 : decode cX9_finds 80 = .ok (.goto (-29), 3) := by decide +kernel
theorem dX9_finds_83 : decode cX9_finds 83 = .ok (.iload_n 1, 1) := by decide +kernel
theorem dX9_finds_84 : decode cX9_finds 84 = .ok (.aload_n 0, 1) := by decide +kernel
theorem dX9_finds_85 : decode cX9_finds 85 = .ok (.invokevirtual 116, 3) := by decide +kernel
theorem dX9_finds_88 : decode cX9_finds 88 = .ok (.ixor, 1) := by decide +kernel
theorem dX9_finds_89 : decode cX9_finds 89 = .ok (.invokestatic 63, 3) := by decide +kernel
theorem dX9_finds_92 : decode cX9_finds 92 = .ok (.istore 5, 2) := by decide +kernel
theorem dX9_finds_94 : decode cX9_finds 94 = .ok (.aload_n 0, 1) := by decide +kernel
theorem dX9_finds_95 : decode cX9_finds 95 = .ok (.iload 5, 2) := by decide +kernel
theorem dX9_finds_97 : decode cX9_finds 97 = .ok (.aload_n 0, 1) := by decide +kernel
theorem dX9_finds_98 : decode cX9_finds 98 = .ok (.getfield 182, 3) := by decide +kernel
theorem dX9_finds_101 : decode cX9_finds 101 = .ok (.if_icmp .ge 7, 3) := by decide +kernel
theorem dX9_finds_104 : decode cX9_finds 104 = .ok (.iconst 1, 1) := by decide +kernel
theorem dX9_finds_105 : decode cX9_finds 105 = .ok (.goto 25, 3) := by decide +kernel
theorem dX9_finds_108 : decode cX9_finds 108 = .ok (.iload 5, 2) := by decide +kernel
theorem dX9_finds_110 : decode cX9_finds 110 = .ok (.aload_n 0, 1) := by decide +kernel
theorem dX9_finds_111 : decode cX9_finds 111 = .ok (.getfield 182, 3) := by decide +kernel
theorem dX9_finds_114 : decode cX9_finds 114 = .ok (.if_icmp .ne 12, 3) := by decide +kernel
theorem dX9_finds_117 : decode cX9_finds 117 = .ok (.aload_n 0, 1) := by decide +kernel
theorem dX9_finds_118 : decode cX9_finds 118 = .ok (.getfield 185, 3) := by decide +kernel
theorem dX9_finds_121 : decode cX9_finds 121 = .ok (.iconst 1, 1) := by decide +kernel
theorem dX9_finds_122 : decode cX9_finds 122 = .ok (.iadd, 1) := by decide +kernel
theorem dX9_finds_123 : decode cX9_finds 123 = .ok (.goto 7, 3) := by decide +kernel
theorem dX9_finds_126 : decode cX9_finds 126 = .ok (.aload_n 0, 1) := by decide +kernel
theorem dX9_finds_127 : decode cX9_finds 127 = .ok (.getfield 185, 3) := by decide +kernel
theorem dX9_finds_130 : decode cX9_finds 130 = .ok (.putfield 185, 3) := by decide +kernel
theorem dX9_finds_133 : decode cX9_finds 133 = .ok (.aload_n 0, 1) := by decide +kernel
theorem dX9_finds_134 : decode cX9_finds 134 = .ok (.iload 5, 2) := by decide +kernel
theorem dX9_finds_136 : decode cX9_finds 136 = .ok (.aload_n 0, 1) := by decide +kernel
theorem dX9_finds_137 : decode cX9_finds 137 = .ok (.getfield 182, 3) := by decide +kernel
theorem dX9_finds_140 : decode cX9_finds 140 = .ok (.if_icmp .ge 7, 3) := by decide +kernel
theorem dX9_finds_143 : decode cX9_finds 143 = .ok (.iload_n 1, 1) := by decide +kernel
theorem dX9_finds_144 : decode cX9_finds 144 = .ok (.goto 7, 3) := by decide +kernel
theorem dX9_finds_147 : decode cX9_finds 147 = .ok (.aload_n 0, 1) := by decide +kernel
theorem dX9_finds_148 : decode cX9_finds 148 = .ok (.getfield 179, 3) := by decide +kernel
theorem dX9_finds_151 : decode cX9_finds 151 = .ok (.putfield 179, 3) := by decide +kernel
theorem dX9_finds_154 : decode cX9_finds 154 = .ok (.aload_n 0, 1) := by decide +kernel
theorem dX9_finds_155 : decode cX9_finds 155 = .ok (.iload 5, 2) := by decide +kernel
theorem dX9_finds_157 : decode cX9_finds 157 = .ok (.aload_n 0, 1) := by decide +kernel
theorem dX9_finds_158 : decode cX9_finds 158 = .ok (.getfield 182, 3) := by decide +kernel
theorem dX9_finds_161 : decode cX9_finds 161 = .ok (.if_icmp .ge 8, 3) := by decide +kernel
theorem dX9_finds_164 : decode cX9_finds 164 = .ok (.iload 5, 2) := by decide +kernel
theorem dX9_finds_166 : decode cX9_finds 166 = .ok (.goto 7, 3) := by decide +kernel
theorem dX9_finds_169 : decode cX9_finds 169 = .ok (.aload_n 0, 1) := by decide +kernel
theorem dX9_finds_170 : decode cX9_finds 170 = .ok (.getfield 182, 3) := by decide +kernel
theorem dX9_finds_173 : decode cX9_finds 173 = .ok (.putfield 182, 3) := by decide +kernel
theorem dX9_finds_176 : decode cX9_finds 176 = .ok (.iinc 3 1, 3) := by decide +kernel
theorem dX9_finds_179 : decode cX9_finds 179 = .ok (.goto (-145), 3) := by decide +kernel
theorem dX9_finds_182 : decode cX9_finds 182 = .ok (.return_, 1) := by decide +kernel
set_option maxRecDepth 20000 in
theorem ggX9_nearest_X9_in : GoodIn wsX9_nearest wsX9_in := goodIn_r _ [6] (by decide +kernel) (by decide +kernel)
set_option maxRecDepth 20000 in
theorem gX9_nearest_X9_in : GoodIn wsX9_nearest (va_wsS RX9 83 yX9_in wsX9_in) := goodIn_app (goodIn_of _ (by decide +kernel)) ggX9_nearest_X9_in
set_option maxRecDepth 20000 in
theorem ggX9_nearest_X9_bad : GoodIn wsX9_nearest wsX9_bad := goodIn_r _ [10, 11, 67, 68, 69, 70, 71, 72, 73, 74, 75, 76, 77, 78, 79, 80, 81, 82, 83, 84, 85, 86, 87, 88, 89, 90, 91, 92, 93] (by decide +kernel) (by decide +kernel)
set_option maxRecDepth 20000 in
theorem gX9_nearest_X9_bad : GoodIn wsX9_nearest (wsV RX9 90 RX9 yX9_bad wsX9_bad) := goodIn_app (goodIn_of _ (by decide +kernel)) ggX9_nearest_X9_bad
set_option maxRecDepth 20000 in
theorem ggX9_nearest_X9_isFew : GoodIn wsX9_nearest wsX9_isFew := goodIn_r _ [15, 16, 17, 18, 5, 19, 20, 21, 22, 23, 24, 25, 26, 27, 28, 29, 30, 31, 32, 33, 34, 35, 36, 37, 38, 39, 40, 41, 67, 68, 69, 70, 71, 72, 73, 74, 75, 76, 77, 78, 79, 80, 81, 82, 83, 84, 85, 86, 87, 88, 89, 90, 91, 92, 93] (by decide +kernel) (by decide +kernel)
set_option maxRecDepth 20000 in
theorem gX9_nearest_X9_isFew : GoodIn wsX9_nearest (wsV RX9 188 RX9 yX9_isFew wsX9_isFew) := goodIn_app (goodIn_of _ (by decide +kernel)) ggX9_nearest_X9_isFew
set_option maxRecDepth 20000 in
theorem ggX9_nearest_X9_no : GoodIn wsX9_nearest wsX9_no := goodIn_r _ [45, 11, 67, 68, 69, 70, 71, 72, 73, 74, 75, 76, 77, 78, 79, 80, 81, 82, 83, 84, 85, 86, 87, 88, 89, 90, 91, 92, 93] (by decide +kernel) (by decide +kernel)
set_option maxRecDepth 20000 in
theorem gX9_nearest_X9_no : GoodIn wsX9_nearest (wsV RX9 192 RX9 yX9_no wsX9_no) := goodIn_app (goodIn_of _ (by decide +kernel)) ggX9_nearest_X9_no
set_option maxRecDepth 20000 in
theorem ggX9_nearest_X9_finds : GoodIn wsX9_nearest wsX9_finds := goodIn_r _ [49, 50, 1, 2, 51, 16, 17, 18, 5, 19, 20, 21, 22, 23, 24, 25, 26, 27, 28, 29, 30, 31, 32, 33, 34, 35, 36, 37, 38, 39, 40, 41, 52, 53, 54, 55, 56, 57, 58, 59, 60, 61, 62, 63, 64, 65, 66, 67, 68, 69, 70, 71, 72, 73, 74, 75, 76, 77, 78, 79, 80, 81, 82, 83, 84, 85, 86, 87, 88, 89, 90, 91, 92, 93] (by decide +kernel) (by decide +kernel)
set_option maxRecDepth 20000 in
theorem gX9_nearest_X9_finds : GoodIn wsX9_nearest (wsV RX9 195 RX9 yX9_finds wsX9_finds) := goodIn_app (goodIn_of _ (by decide +kernel)) ggX9_nearest_X9_finds
theorem dX9_nearest_0 : decode cX9_nearest 0 = .ok (.iload_n 1, 1) := by decide +kernel
theorem dX9_nearest_1 : decode cX9_nearest 1 = .ok (.i2l, 1) := by decide +kernel
theorem dX9_nearest_2 : decode cX9_nearest 2 = .ok (.lconst 0, 1) := by decide +kernel
theorem dX9_nearest_3 : decode cX9_nearest 3 = .ok (.lconst 1, 1) := by decide +kernel
theorem dX9_nearest_4 : decode cX9_nearest 4 = .ok (.invokestatic 83, 3) := by decide +kernel
theorem dX9_nearest_7 : decode cX9_nearest 7 = .ok (.ifCond .ne 10, 3) := by decide +kernel
theorem dX9_nearest_10 : decode cX9_nearest 10 = .ok (.aload_n 0, 1) := by decide +kernel
theorem dX9_nearest_11 : decode cX9_nearest 11 = .ok (.bipush (-2), 2) := by decide +kernel
theorem dX9_nearest_13 : decode cX9_nearest 13 = .ok (.invokevirtual 90, 3) := by decide +kernel
theorem dX9_nearest_16 : decode cX9_nearest 16 = .ok (.ireturn, 1) := by decide +kernel
theorem dX9_nearest_17 : decode cX9_nearest 17 = .ok (.aload_n 0, 1) := by decide +kernel
theorem dX9_nearest_18 : decode cX9_nearest 18 = .ok (.invokevirtual 188, 3) := by decide +kernel
theorem dX9_nearest_21 : decode cX9_nearest 21 = .ok (.ifCond .ne 10, 3) := by decide +kernel
theorem dX9_nearest_24 : decode cX9_nearest 24 = .ok (.aload_n 0, 1) := by decide +kernel
theorem dX9_nearest_25 : decode cX9_nearest 25 = .ok (.bipush (-3), 2) := by decide +kernel
theorem dX9_nearest_27 : decode cX9_nearest 27 = .ok (.invokevirtual 192, 3) := by decide +kernel
theorem dX9_nearest_30 : decode cX9_nearest 30 = .ok (.ireturn, 1) := by decide +kernel
theorem dX9_nearest_31 : decode cX9_nearest 31 = .ok (.aload_n 0, 1) := by decide +kernel
theorem dX9_nearest_32 : decode cX9_nearest 32 = .ok (.invokevirtual 195, 3) := by decide +kernel
theorem dX9_nearest_35 : decode cX9_nearest 35 = .ok (.iload_n 1, 1) := by decide +kernel
theorem dX9_nearest_36 : decode cX9_nearest 36 = .ok (.ifCond .ne 10, 3) := by decide +kernel
theorem dX9_nearest_39 : decode cX9_nearest 39 = .ok (.aload_n 0, 1) := by decide +kernel
theorem dX9_nearest_40 : decode cX9_nearest 40 = .ok (.getfield 182, 3) := by decide +kernel
theorem dX9_nearest_43 : decode cX9_nearest 43 = .ok (.goto 7, 3) := by decide +kernel
theorem dX9_nearest_46 : decode cX9_nearest 46 = .ok (.aload_n 0, 1) := by decide +kernel
theorem dX9_nearest_47 : decode cX9_nearest 47 = .ok (.getfield 185, 3) := by decide +kernel
theorem dX9_nearest_50 : decode cX9_nearest 50 = .ok (.ireturn, 1) := by decide +kernel
set_option maxRecDepth 20000 in
theorem ggX9_near_X9_isFew : GoodIn wsX9_near wsX9_isFew := goodIn_r _ [6, 7, 8, 9, 5, 10, 11, 12, 13, 14, 15, 16, 17, 18, 19, 20, 21, 22, 23, 24, 25, 26, 27, 28, 29, 30, 31, 32, 60, 61, 62, 63, 64, 65, 66, 67, 68, 69, 70, 71, 72, 73, 74, 75, 76, 77, 78, 79, 80, 81, 82, 83, 84, 85, 86] (by decide +kernel) (by decide +kernel)
set_option maxRecDepth 20000 in
theorem gX9_near_X9_isFew : GoodIn wsX9_near (wsV RX9 188 RX9 yX9_isFew wsX9_isFew) := goodIn_app (goodIn_of _ (by decide +kernel)) ggX9_near_X9_isFew
set_option maxRecDepth 20000 in
theorem ggX9_near_X9_no : GoodIn wsX9_near wsX9_no := goodIn_r _ [36, 37, 60, 61, 62, 63, 64, 65, 66, 67, 68, 69, 70, 71, 72, 73, 74, 75, 76, 77, 78, 79, 80, 81, 82, 83, 84, 85, 86] (by decide +kernel) (by decide +kernel)
set_option maxRecDepth 20000 in
theorem gX9_near_X9_no : GoodIn wsX9_near (wsV RX9 192 RX9 yX9_no wsX9_no) := goodIn_app (goodIn_of _ (by decide +kernel)) ggX9_near_X9_no
set_option maxRecDepth 20000 in
theorem ggX9_near_X9_finds : GoodIn wsX9_near wsX9_finds := goodIn_r _ [41, 1, 42, 43, 44, 7, 8, 9, 5, 10, 11, 12, 13, 14, 15, 16, 17, 18, 19, 20, 21, 22, 23, 24, 25, 26, 27, 28, 29, 30, 31, 32, 45, 46, 47, 48, 49, 50, 51, 52, 53, 54, 55, 56, 57, 58, 59, 60, 61, 62, 63, 64, 65, 66, 67, 68, 69, 70, 71, 72, 73, 74, 75, 76, 77, 78, 79, 80, 81, 82, 83, 84, 85, 86] (by decide +kernel) (by decide +kernel)
set_option maxRecDepth 20000 in
theorem gX9_near_X9_finds : GoodIn wsX9_near (wsV RX9 195 RX9 yX9_finds wsX9_finds) := goodIn_app (goodIn_of _ (by decide +kernel)) ggX9_near_X9_finds
theorem dX9_near_0 : decode cX9_near 0 = .ok (.aload_n 0, 1) := by decide +kernel
theorem dX9_near_1 : decode cX9_near 1 = .ok (.invokevirtual 188, 3) := by decide +kernel
theorem dX9_near_4 : decode cX9_near 4 = .ok (.ifCond .ne 9, 3) := by decide +kernel
theorem dX9_near_7 : decode cX9_near 7 = .ok (.aload_n 0, 1) := by decide +kernel
theorem dX9_near_8 : decode cX9_near 8 = .ok (.iconst 0, 1) := by decide +kernel
theorem dX9_near_9 : decode cX9_near 9 = .ok (.invokevirtual 192, 3) := by decide +kernel
theorem dX9_near_12 : decode cX9_near 12 = .ok (.ireturn, 1) := by decide +kernel
theorem dX9_near_13 : decode cX9_near 13 = .ok (.aload_n 0, 1) := by decide +kernel
theorem dX9_near_14 : decode cX9_near 14 = .ok (.invokevirtual 195, 3) := by decide +kernel
theorem dX9_near_17 : decode cX9_near 17 = .ok (.aload_n 0, 1) := by decide +kernel
theorem dX9_near_18 : decode cX9_near 18 = .ok (.getfield 179, 3) := by decide +kernel
theorem dX9_near_21 : decode cX9_near 21 = .ok (.ireturn, 1) := by decide +kernel
theorem dX9_softOf_0 : decode cX9_softOf 0 = .ok (.aload_n 0, 1) := by decide +kernel
theorem dX9_softOf_1 : decode cX9_softOf 1 = .ok (.getfield 7, 3) := by decide +kernel
theorem dX9_softOf_4 : decode cX9_softOf 4 = .ok (.iconst 3, 1) := by decide +kernel
theorem dX9_softOf_5 : decode cX9_softOf 5 = .ok (.iload_n 1, 1) := by decide +kernel
theorem dX9_softOf_6 : decode cX9_softOf 6 = .ok (.iadd, 1) := by decide +kernel
theorem dX9_softOf_7 : decode cX9_softOf 7 = .ok (.iaload, 1) := by decide +kernel
theorem dX9_softOf_8 : decode cX9_softOf 8 = .ok (.ireturn, 1) := by decide +kernel
set_option maxRecDepth 20000 in
theorem ggX9_softens_X9_softOf : GoodIn wsX9_softens wsX9_softOf := goodIn_r _ [6, 1, 7, 8, 9, 10, 11, 12, 13, 14, 15, 16, 17, 18, 19, 20, 21, 22, 23, 24, 25, 26, 27, 28, 29, 30, 31, 32, 33] (by decide +kernel) (by decide +kernel)
set_option maxRecDepth 20000 in
theorem gX9_softens_X9_softOf : GoodIn wsX9_softens (wsV RX9 198 RX9 yX9_softOf wsX9_softOf) := goodIn_app (goodIn_of _ (by decide +kernel)) ggX9_softens_X9_softOf
theorem dX9_softens_0 : decode cX9_softens 0 = .ok (.aload_n 0, 1) := by decide +kernel
theorem dX9_softens_1 : decode cX9_softens 1 = .ok (.iload_n 1, 1) := by decide +kernel
theorem dX9_softens_2 : decode cX9_softens 2 = .ok (.invokevirtual 198, 3) := by decide +kernel
theorem dX9_softens_5 : decode cX9_softens 5 = .ok (.istore_n 3, 1) := by decide +kernel
theorem dX9_softens_6 : decode cX9_softens 6 = .ok (.aload_n 0, 1) := by decide +kernel
theorem dX9_softens_7 : decode cX9_softens 7 = .ok (.getfield 7, 3) := by decide +kernel
theorem dX9_softens_10 : decode cX9_softens 10 = .ok (.iconst 3, 1) := by decide +kernel
theorem dX9_softens_11 : decode cX9_softens 11 = .ok (.iload_n 1, 1) := by decide +kernel
theorem dX9_softens_12 : decode cX9_softens 12 = .ok (.iadd, 1) := by decide +kernel
theorem dX9_softens_13 : decode cX9_softens 13 = .ok (.iload_n 2, 1) := by decide +kernel
theorem dX9_softens_14 : decode cX9_softens 14 = .ok (.iastore, 1) := by decide +kernel
theorem dX9_softens_15 : decode cX9_softens 15 = .ok (.iload_n 3, 1) := by decide +kernel
theorem dX9_softens_16 : decode cX9_softens 16 = .ok (.ireturn, 1) := by decide +kernel
set_option maxRecDepth 20000 in
theorem ggX9_soft_X9_isPlace : GoodIn wsX9_soft wsX9_isPlace := goodIn_r _ [7, 8, 9, 10, 6, 11, 12, 13, 14, 15, 16, 17, 18, 19, 39, 40, 41, 42, 43, 44, 45, 46, 47, 48, 49, 50, 51, 52, 53, 54, 55, 56, 57, 58, 59, 60, 61, 62, 63, 64, 65] (by decide +kernel) (by decide +kernel)
set_option maxRecDepth 20000 in
theorem gX9_soft_X9_isPlace : GoodIn wsX9_soft (wsV RX9 122 RX9 yX9_isPlace wsX9_isPlace) := goodIn_app (goodIn_of _ (by decide +kernel)) ggX9_soft_X9_isPlace
set_option maxRecDepth 20000 in
theorem ggX9_soft_X9_in : GoodIn wsX9_soft wsX9_in := goodIn_r _ [19] (by decide +kernel) (by decide +kernel)
set_option maxRecDepth 20000 in
theorem gX9_soft_X9_in : GoodIn wsX9_soft (va_wsS RX9 83 yX9_in wsX9_in) := goodIn_app (goodIn_of _ (by decide +kernel)) ggX9_soft_X9_in
set_option maxRecDepth 20000 in
theorem ggX9_soft_X9_bad : GoodIn wsX9_soft wsX9_bad := goodIn_r _ [23, 24, 39, 40, 41, 42, 43, 44, 45, 46, 47, 48, 49, 50, 51, 52, 53, 54, 55, 56, 57, 58, 59, 60, 61, 62, 63, 64, 65] (by decide +kernel) (by decide +kernel)
set_option maxRecDepth 20000 in
theorem gX9_soft_X9_bad : GoodIn wsX9_soft (wsV RX9 90 RX9 yX9_bad wsX9_bad) := goodIn_app (goodIn_of _ (by decide +kernel)) ggX9_soft_X9_bad
set_option maxRecDepth 20000 in
theorem ggX9_soft_X9_keep : GoodIn wsX9_soft wsX9_keep := goodIn_r _ [28, 29, 30, 16, 39, 40, 41, 42, 43, 44, 45, 46, 47, 48, 49, 50, 51, 52, 53, 54, 55, 56, 57, 58, 59, 60, 61, 62, 63, 64, 65] (by decide +kernel) (by decide +kernel)
set_option maxRecDepth 20000 in
theorem gX9_soft_X9_keep : GoodIn wsX9_soft (wsV RX9 93 RX9 yX9_keep wsX9_keep) := goodIn_app (goodIn_of _ (by decide +kernel)) ggX9_soft_X9_keep
set_option maxRecDepth 20000 in
theorem ggX9_soft_X9_softens : GoodIn wsX9_soft wsX9_softens := goodIn_r _ [34, 16, 35, 36, 37, 6, 38, 39, 40, 41, 42, 43, 44, 45, 46, 47, 48, 49, 50, 51, 52, 53, 54, 55, 56, 57, 58, 59, 60, 61, 62, 63, 64, 65] (by decide +kernel) (by decide +kernel)
set_option maxRecDepth 20000 in
theorem gX9_soft_X9_softens : GoodIn wsX9_soft (wsV RX9 205 RX9 yX9_softens wsX9_softens) := goodIn_app (goodIn_of _ (by decide +kernel)) ggX9_soft_X9_softens
theorem dX9_soft_0 : decode cX9_soft 0 = .ok (.aload_n 0, 1) := by decide +kernel
theorem dX9_soft_1 : decode cX9_soft 1 = .ok (.iload_n 1, 1) := by decide +kernel
theorem dX9_soft_2 : decode cX9_soft 2 = .ok (.invokevirtual 122, 3) := by decide +kernel
theorem dX9_soft_5 : decode cX9_soft 5 = .ok (.ifCond .eq 17, 3) := by decide +kernel
theorem dX9_soft_8 : decode cX9_soft 8 = .ok (.iload_n 2, 1) := by decide +kernel
theorem dX9_soft_9 : decode cX9_soft 9 = .ok (.i2l, 1) := by decide +kernel
theorem dX9_soft_10 : decode cX9_soft 10 = .ok (.ldc2_w 201, 3) := by decide +kernel
theorem dX9_soft_13 : decode cX9_soft 13 = .ok (.ldc2_w 203, 3) := by decide +kernel
theorem dX9_soft_16 : decode cX9_soft 16 = .ok (.invokestatic 83, 3) := by decide +kernel
theorem dX9_soft_19 : decode cX9_soft 19 = .ok (.ifCond .ne 11, 3) := by decide +kernel
theorem dX9_soft_22 : decode cX9_soft 22 = .ok (.aload_n 0, 1) := by decide +kernel
theorem dX9_soft_23 : decode cX9_soft 23 = .ok (.sipush (-1000), 3) := by decide +kernel
theorem dX9_soft_26 : decode cX9_soft 26 = .ok (.invokevirtual 90, 3) := by decide +kernel
theorem dX9_soft_29 : decode cX9_soft 29 = .ok (.ireturn, 1) := by decide +kernel
theorem dX9_soft_30 : decode cX9_soft 30 = .ok (.aload_n 0, 1) := by decide +kernel
theorem dX9_soft_31 : decode cX9_soft 31 = .ok (.invokevirtual 93, 3) := by decide +kernel
theorem dX9_soft_34 : decode cX9_soft 34 = .ok (.aload_n 0, 1) := by decide +kernel
theorem dX9_soft_35 : decode cX9_soft 35 = .ok (.iload_n 1, 1) := by decide +kernel
theorem dX9_soft_36 : decode cX9_soft 36 = .ok (.iload_n 2, 1) := by decide +kernel
theorem dX9_soft_37 : decode cX9_soft 37 = .ok (.invokevirtual 205, 3) := by decide +kernel
theorem dX9_soft_40 : decode cX9_soft 40 = .ok (.ireturn, 1) := by decide +kernel
set_option maxRecDepth 20000 in
theorem ggX9_harden_X9_in : GoodIn wsX9_harden wsX9_in := goodIn_r _ [6] (by decide +kernel) (by decide +kernel)
set_option maxRecDepth 20000 in
theorem gX9_harden_X9_in : GoodIn wsX9_harden (va_wsS RX9 83 yX9_in wsX9_in) := goodIn_app (goodIn_of _ (by decide +kernel)) ggX9_harden_X9_in
set_option maxRecDepth 20000 in
theorem ggX9_harden_X9_bad : GoodIn wsX9_harden wsX9_bad := goodIn_r _ [10, 11, 33, 34, 35, 36, 37, 38, 39, 40, 41, 42, 43, 44, 45, 46, 47, 48, 49, 50, 51, 52, 53, 54, 55, 56, 57, 58, 59] (by decide +kernel) (by decide +kernel)
set_option maxRecDepth 20000 in
theorem gX9_harden_X9_bad : GoodIn wsX9_harden (wsV RX9 90 RX9 yX9_bad wsX9_bad) := goodIn_app (goodIn_of _ (by decide +kernel)) ggX9_harden_X9_bad
set_option maxRecDepth 20000 in
theorem ggX9_harden_X9_keep : GoodIn wsX9_harden wsX9_keep := goodIn_r _ [15, 16, 17, 2, 33, 34, 35, 36, 37, 38, 39, 40, 41, 42, 43, 44, 45, 46, 47, 48, 49, 50, 51, 52, 53, 54, 55, 56, 57, 58, 59] (by decide +kernel) (by decide +kernel)
set_option maxRecDepth 20000 in
theorem gX9_harden_X9_keep : GoodIn wsX9_harden (wsV RX9 93 RX9 yX9_keep wsX9_keep) := goodIn_app (goodIn_of _ (by decide +kernel)) ggX9_harden_X9_keep
set_option maxRecDepth 20000 in
theorem ggX9_harden_X9_places : GoodIn wsX9_harden wsX9_places := goodIn_r _ [21, 22, 23, 24, 5, 25, 2, 33, 34, 35, 36, 37, 38, 39, 40, 41, 42, 43, 44, 45, 46, 47, 48, 49, 50, 51, 52, 53, 54, 55, 56, 57, 58, 59] (by decide +kernel) (by decide +kernel)
set_option maxRecDepth 20000 in
theorem gX9_harden_X9_places : GoodIn wsX9_harden (wsV RX9 60 RX9 yX9_places wsX9_places) := goodIn_app (goodIn_of _ (by decide +kernel)) ggX9_harden_X9_places
set_option maxRecDepth 20000 in
theorem ggX9_harden_X9_theWord : GoodIn wsX9_harden wsX9_theWord := goodIn_r _ [29, 2, 33, 34, 35, 36, 37, 38, 39, 40, 41, 42, 43, 44, 45, 46, 47, 48, 49, 50, 51, 52, 53, 54, 55, 56, 57, 58, 59] (by decide +kernel) (by decide +kernel)
set_option maxRecDepth 20000 in
theorem gX9_harden_X9_theWord : GoodIn wsX9_harden (wsV RX9 116 RX9 yX9_theWord wsX9_theWord) := goodIn_app (goodIn_of _ (by decide +kernel)) ggX9_harden_X9_theWord
set_option maxRecDepth 20000 in
theorem ggX9_harden_X9_has : GoodIn wsX9_harden wsX9_has := goodIn_r _ [32] (by decide +kernel) (by decide +kernel)
set_option maxRecDepth 20000 in
theorem gX9_harden_X9_has : GoodIn wsX9_harden (va_wsS RX9 74 yX9_has wsX9_has) := goodIn_app (goodIn_of _ (by decide +kernel)) ggX9_harden_X9_has
theorem dX9_harden_0 : decode cX9_harden 0 = .ok (.iload_n 1, 1) := by decide +kernel
theorem dX9_harden_1 : decode cX9_harden 1 = .ok (.i2l, 1) := by decide +kernel
theorem dX9_harden_2 : decode cX9_harden 2 = .ok (.lconst 1, 1) := by decide +kernel
theorem dX9_harden_3 : decode cX9_harden 3 = .ok (.ldc2_w 203, 3) := by decide +kernel
theorem dX9_harden_6 : decode cX9_harden 6 = .ok (.invokestatic 83, 3) := by decide +kernel
