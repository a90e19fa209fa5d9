theorem dX9_harden_9 : decode cX9_harden 9 = .ok (.ifCond .ne 10, 3) := by decide +kernel
theorem dX9_harden_12 : decode cX9_harden 12 = .ok (.aload_n 0, 1) := by decide +kernel
theorem dX9_harden_13 : decode cX9_harden 13 = .ok (.bipush (-2), 2) := by decide +kernel
theorem dX9_harden_15 : decode cX9_harden 15 = .ok (.invokevirtual 90, 3) := by decide +kernel
theorem dX9_harden_18 : decode cX9_harden 18 = .ok (.ireturn, 1) := by decide +kernel
theorem dX9_harden_19 : decode cX9_harden 19 = .ok (.aload_n 0, 1) := by decide +kernel
theorem dX9_harden_20 : decode cX9_harden 20 = .ok (.invokevirtual 93, 3) := by decide +kernel
theorem dX9_harden_23 : decode cX9_harden 23 = .ok (.iconst 0, 1) := by decide +kernel
theorem dX9_harden_24 : decode cX9_harden 24 = .ok (.istore_n 2, 1) := by decide +kernel
theorem dX9_harden_25 : decode cX9_harden 25 = .ok (.iload_n 2, 1) := by decide +kernel
theorem dX9_harden_26 : decode cX9_harden 26 = .ok (.aload_n 0, 1) := by decide +kernel
theorem dX9_harden_27 : decode cX9_harden 27 = .ok (.invokevirtual 60, 3) := by decide +kernel
theorem dX9_harden_30 : decode cX9_harden 30 = .ok (.if_icmp .ge 34, 3) := by decide +kernel
theorem dX9_harden_33 : decode cX9_harden 33 = .ok (.aload_n 0, 1) := by decide +kernel
theorem dX9_harden_34 : decode cX9_harden 34 = .ok (.getfield 7, 3) := by decide +kernel
theorem dX9_harden_37 : decode cX9_harden 37 = .ok (.iconst 3, 1) := by decide +kernel
theorem dX9_harden_38 : decode cX9_harden 38 = .ok (.iload_n 2, 1) := by decide +kernel
theorem dX9_harden_39 : decode cX9_harden 39 = .ok (.iadd, 1) := by decide +kernel
theorem dX9_harden_40 : decode cX9_harden 40 = .ok (.aload_n 0, 1) := by decide +kernel
theorem dX9_harden_41 : decode cX9_harden 41 = .ok (.invokevirtual 116, 3) := by decide +kernel
theorem dX9_harden_44 : decode cX9_harden 44 = .ok (.iload_n 2, 1) := by decide +kernel
theorem dX9_harden_45 : decode cX9_harden 45 = .ok (.invokestatic 74, 3) := by decide +kernel
theorem dX9_harden_48 : decode cX9_harden 48 = .ok (.ifCond .eq 8, 3) := by decide +kernel
theorem dX9_harden_51 : decode cX9_harden 51 = .ok (.iload_n 1, 1) := by decide +kernel
theorem dX9_harden_52 : decode cX9_harden 52 = .ok (.ineg, 1) := by decide +kernel
theorem dX9_harden_53 : decode cX9_harden 53 = .ok (.goto 4, 3) := by decide +kernel
theorem dX9_harden_56 : decode cX9_harden 56 = .ok (.iload_n 1, 1) := by decide +kernel
theorem dX9_harden_57 : decode cX9_harden 57 = .ok (.iastore, 1) := by decide +kernel
theorem dX9_harden_58 : decode cX9_harden 58 = .ok (.iinc 2 1, 3) := by decide +kernel
theorem dX9_harden_61 : decode cX9_harden 61 = .ok (.goto (-36), 3) := by decide +kernel
theorem dX9_harden_64 : decode cX9_harden 64 = .ok (.iload_n 1, 1) := by decide +kernel
theorem dX9_harden_65 : decode cX9_harden 65 = .ok (.ireturn, 1) := by decide +kernel
set_option maxRecDepth 20000 in
theorem ggX9_plain_X9_allOf : GoodIn wsX9_plain wsX9_allOf := goodIn_r _ [7] (by decide +kernel) (by decide +kernel)
set_option maxRecDepth 20000 in
theorem gX9_plain_X9_allOf : GoodIn wsX9_plain (va_wsS RX9 106 yX9_allOf wsX9_allOf) := goodIn_app (goodIn_of _ (by decide +kernel)) ggX9_plain_X9_allOf
theorem dX9_plain_0 : decode cX9_plain 0 = .ok (.iconst 0, 1) := by decide +kernel
theorem dX9_plain_1 : decode cX9_plain 1 = .ok (.istore_n 2, 1) := by decide +kernel
theorem dX9_plain_2 : decode cX9_plain 2 = .ok (.iconst 0, 1) := by decide +kernel
theorem dX9_plain_3 : decode cX9_plain 3 = .ok (.istore_n 3, 1) := by decide +kernel
theorem dX9_plain_4 : decode cX9_plain 4 = .ok (.iconst 0, 1) := by decide +kernel
theorem dX9_plain_5 : decode cX9_plain 5 = .ok (.istore 4, 2) := by decide +kernel
theorem dX9_plain_7 : decode cX9_plain 7 = .ok (.iload 4, 2) := by decide +kernel
theorem dX9_plain_9 : decode cX9_plain 9 = .ok (.iconst 1, 1) := by decide +kernel
theorem dX9_plain_10 : decode cX9_plain 10 = .ok (.aload_n 0, 1) := by decide +kernel
theorem dX9_plain_11 : decode cX9_plain 11 = .ok (.getfield 31, 3) := by decide +kernel
theorem dX9_plain_14 : decode cX9_plain 14 = .ok (.iload_n 1, 1) := by decide +kernel
theorem dX9_plain_15 : decode cX9_plain 15 = .ok (.iaload, 1) := by decide +kernel
theorem dX9_plain_16 : decode cX9_plain 16 = .ok (.ishl, 1) := by decide +kernel
theorem dX9_plain_17 : decode cX9_plain 17 = .ok (.if_icmp .ge 50, 3) := by decide +kernel
theorem dX9_plain_20 : decode cX9_plain 20 = .ok (.iload_n 3, 1) := by decide +kernel
theorem dX9_plain_21 : decode cX9_plain 21 = .ok (.aload_n 0, 1) := by decide +kernel
theorem dX9_plain_22 : decode cX9_plain 22 = .ok (.getfield 25, 3) := by decide +kernel
theorem dX9_plain_25 : decode cX9_plain 25 = .ok (.bipush 32, 2) := by decide +kernel
theorem dX9_plain_27 : decode cX9_plain 27 = .ok (.iload_n 1, 1) := by decide +kernel
theorem dX9_plain_28 : decode cX9_plain 28 = .ok (.imul, 1) := by decide +kernel
theorem dX9_plain_29 : decode cX9_plain 29 = .ok (.iload 4, 2) := by decide +kernel
theorem dX9_plain_31 : decode cX9_plain 31 = .ok (.iadd, 1) := by decide +kernel
theorem dX9_plain_32 : decode cX9_plain 32 = .ok (.iaload, 1) := by decide +kernel
theorem dX9_plain_33 : decode cX9_plain 33 = .ok (.iadd, 1) := by decide +kernel
theorem dX9_plain_34 : decode cX9_plain 34 = .ok (.istore_n 3, 1) := by decide +kernel
theorem dX9_plain_35 : decode cX9_plain 35 = .ok (.iload_n 2, 1) := by decide +kernel
theorem dX9_plain_36 : decode cX9_plain 36 = .ok (.aload_n 0, 1) := by decide +kernel
theorem dX9_plain_37 : decode cX9_plain 37 = .ok (.getfield 25, 3) := by decide +kernel
theorem dX9_plain_40 : decode cX9_plain 40 = .ok (.bipush 32, 2) := by decide +kernel
theorem dX9_plain_42 : decode cX9_plain 42 = .ok (.iload_n 1, 1) := by decide +kernel
theorem dX9_plain_43 : decode cX9_plain 43 = .ok (.imul, 1) := by decide +kernel
theorem dX9_plain_44 : decode cX9_plain 44 = .ok (.iload 4, 2) := by decide +kernel
theorem dX9_plain_46 : decode cX9_plain 46 = .ok (.iadd, 1) := by decide +kernel
theorem dX9_plain_47 : decode cX9_plain 47 = .ok (.iaload, 1) := by decide +kernel
theorem dX9_plain_48 : decode cX9_plain 48 = .ok (.ifCond .ge 10, 3) := by decide +kernel
theorem dX9_plain_51 : decode cX9_plain 51 = .ok (.iconst 1, 1) := by decide +kernel
theorem dX9_plain_52 : decode cX9_plain 52 = .ok (.iload 4, 2) := by decide +kernel
theorem dX9_plain_54 : decode cX9_plain 54 = .ok (.ishl, 1) := by decide +kernel
theorem dX9_plain_55 : decode cX9_plain 55 = .ok (.goto 4, 3) := by decide +kernel
theorem dX9_plain_58 : decode cX9_plain 58 = .ok (.iconst 0, 1) := by decide +kernel
theorem dX9_plain_59 : decode cX9_plain 59 = .ok (.ior, 1) := by decide +kernel
theorem dX9_plain_60 : decode cX9_plain 60 = .ok (.istore_n 2, 1) := by decide +kernel
theorem dX9_plain_61 : decode cX9_plain 61 = .ok (.iinc 4 1, 3) := by decide +kernel
theorem dX9_plain_64 : decode cX9_plain 64 = .ok (.goto (-57), 3) := by decide +kernel
theorem dX9_plain_67 : decode cX9_plain 67 = .ok (.aload_n 0, 1) := by decide +kernel
theorem dX9_plain_68 : decode cX9_plain 68 = .ok (.getfield 28, 3) := by decide +kernel
theorem dX9_plain_71 : decode cX9_plain 71 = .ok (.iload_n 1, 1) := by decide +kernel
theorem dX9_plain_72 : decode cX9_plain 72 = .ok (.iaload, 1) := by decide +kernel
theorem dX9_plain_73 : decode cX9_plain 73 = .ok (.ifCond .le 7, 3) := by decide +kernel
theorem dX9_plain_76 : decode cX9_plain 76 = .ok (.iload_n 2, 1) := by decide +kernel
theorem dX9_plain_77 : decode cX9_plain 77 = .ok (.goto 22, 3) := by decide +kernel
theorem dX9_plain_80 : decode cX9_plain 80 = .ok (.iload_n 3, 1) := by decide +kernel
theorem dX9_plain_81 : decode cX9_plain 81 = .ok (.ifCond .ge 17, 3) := by decide +kernel
theorem dX9_plain_84 : decode cX9_plain 84 = .ok (.iconst 1, 1) := by decide +kernel
theorem dX9_plain_85 : decode cX9_plain 85 = .ok (.aload_n 0, 1) := by decide +kernel
theorem dX9_plain_86 : decode cX9_plain 86 = .ok (.getfield 31, 3) := by decide +kernel
theorem dX9_plain_89 : decode cX9_plain 89 = .ok (.iload_n 1, 1) := by decide +kernel
theorem dX9_plain_90 : decode cX9_plain 90 = .ok (.iaload, 1) := by decide +kernel
theorem dX9_plain_91 : decode cX9_plain 91 = .ok (.ishl, 1) := by decide +kernel
theorem dX9_plain_92 : decode cX9_plain 92 = .ok (.invokestatic 106, 3) := by decide +kernel
theorem dX9_plain_95 : decode cX9_plain 95 = .ok (.goto 4, 3) := by decide +kernel
theorem dX9_plain_98 : decode cX9_plain 98 = .ok (.iconst 0, 1) := by decide +kernel
theorem dX9_plain_99 : decode cX9_plain 99 = .ok (.ireturn, 1) := by decide +kernel
set_option maxRecDepth 20000 in
theorem ggX9_lesser_X9_far : GoodIn wsX9_lesser wsX9_far := goodIn_r _ [4] (by decide +kernel) (by decide +kernel)
set_option maxRecDepth 20000 in
theorem gX9_lesser_X9_far : GoodIn wsX9_lesser (va_wsS RX9 173 yX9_far wsX9_far) := goodIn_app (goodIn_of _ (by decide +kernel)) ggX9_lesser_X9_far
theorem dX9_lesser_0 : decode cX9_lesser 0 = .ok (.iload_n 0, 1) := by decide +kernel
theorem dX9_lesser_1 : decode cX9_lesser 1 = .ok (.invokestatic 173, 3) := by decide +kernel
theorem dX9_lesser_4 : decode cX9_lesser 4 = .ok (.iload_n 1, 1) := by decide +kernel
theorem dX9_lesser_5 : decode cX9_lesser 5 = .ok (.invokestatic 173, 3) := by decide +kernel
theorem dX9_lesser_8 : decode cX9_lesser 8 = .ok (.if_icmp .ge 10, 3) := by decide +kernel
theorem dX9_lesser_11 : decode cX9_lesser 11 = .ok (.iload_n 0, 1) := by decide +kernel
theorem dX9_lesser_12 : decode cX9_lesser 12 = .ok (.invokestatic 173, 3) := by decide +kernel
theorem dX9_lesser_15 : decode cX9_lesser 15 = .ok (.goto 7, 3) := by decide +kernel
theorem dX9_lesser_18 : decode cX9_lesser 18 = .ok (.iload_n 1, 1) := by decide +kernel
theorem dX9_lesser_19 : decode cX9_lesser 19 = .ok (.invokestatic 173, 3) := by decide +kernel
theorem dX9_lesser_22 : decode cX9_lesser 22 = .ok (.istore_n 2, 1) := by decide +kernel
theorem dX9_lesser_23 : decode cX9_lesser 23 = .ok (.iload_n 0, 1) := by decide +kernel
theorem dX9_lesser_24 : decode cX9_lesser 24 = .ok (.ifCond .ge 7, 3) := by decide +kernel
theorem dX9_lesser_27 : decode cX9_lesser 27 = .ok (.iconst 1, 1) := by decide +kernel
theorem dX9_lesser_28 : decode cX9_lesser 28 = .ok (.goto 4, 3) := by decide +kernel
theorem dX9_lesser_31 : decode cX9_lesser 31 = .ok (.iconst 0, 1) := by decide +kernel
theorem dX9_lesser_32 : decode cX9_lesser 32 = .ok (.iload_n 1, 1) := by decide +kernel
theorem dX9_lesser_33 : decode cX9_lesser 33 = .ok (.ifCond .ge 7, 3) := by decide +kernel
theorem dX9_lesser_36 : decode cX9_lesser 36 = .ok (.iconst 1, 1) := by decide +kernel
theorem dX9_lesser_37 : decode cX9_lesser 37 = .ok (.goto 4, 3) := by decide +kernel
theorem dX9_lesser_40 : decode cX9_lesser 40 = .ok (.iconst 0, 1) := by decide +kernel
theorem dX9_lesser_41 : decode cX9_lesser 41 = .ok (.if_icmp .ne 7, 3) := by decide +kernel
theorem dX9_lesser_44 : decode cX9_lesser 44 = .ok (.iload_n 2, 1) := by decide +kernel
theorem dX9_lesser_45 : decode cX9_lesser 45 = .ok (.goto 5, 3) := by decide +kernel
theorem dX9_lesser_48 : decode cX9_lesser 48 = .ok (.iload_n 2, 1) := by decide +kernel
theorem dX9_lesser_49 : decode cX9_lesser 49 = .ok (.ineg, 1) := by decide +kernel
theorem dX9_lesser_50 : decode cX9_lesser 50 = .ok (.ireturn, 1) := by decide +kernel
theorem dX9_begins_0 : decode cX9_begins 0 = .ok (.aload_n 0, 1) := by decide +kernel
theorem dX9_begins_1 : decode cX9_begins 1 = .ok (.getfield 28, 3) := by decide +kernel
theorem dX9_begins_4 : decode cX9_begins 4 = .ok (.iload_n 1, 1) := by decide +kernel
theorem dX9_begins_5 : decode cX9_begins 5 = .ok (.iload_n 2, 1) := by decide +kernel
theorem dX9_begins_6 : decode cX9_begins 6 = .ok (.iastore, 1) := by decide +kernel
theorem dX9_begins_7 : decode cX9_begins 7 = .ok (.aload_n 0, 1) := by decide +kernel
theorem dX9_begins_8 : decode cX9_begins 8 = .ok (.getfield 31, 3) := by decide +kernel
theorem dX9_begins_11 : decode cX9_begins 11 = .ok (.iload_n 1, 1) := by decide +kernel
theorem dX9_begins_12 : decode cX9_begins 12 = .ok (.iload_n 3, 1) := by decide +kernel
theorem dX9_begins_13 : decode cX9_begins 13 = .ok (.iastore, 1) := by decide +kernel
theorem dX9_begins_14 : decode cX9_begins 14 = .ok (.aload_n 0, 1) := by decide +kernel
theorem dX9_begins_15 : decode cX9_begins 15 = .ok (.getfield 34, 3) := by decide +kernel
theorem dX9_begins_18 : decode cX9_begins 18 = .ok (.iload_n 1, 1) := by decide +kernel
theorem dX9_begins_19 : decode cX9_begins 19 = .ok (.iconst 0, 1) := by decide +kernel
theorem dX9_begins_20 : decode cX9_begins 20 = .ok (.iastore, 1) := by decide +kernel
theorem dX9_begins_21 : decode cX9_begins 21 = .ok (.return_, 1) := by decide +kernel
set_option maxRecDepth 20000 in
theorem ggX9_halvesOf_X9_order : GoodIn wsX9_halvesOf wsX9_order := goodIn_r _ [10, 11, 44, 45, 46, 47, 48, 49, 50, 51, 52, 53, 54, 55, 56, 57, 58, 59, 60, 61, 62, 63, 64, 65, 66, 67, 68, 69, 70] (by decide +kernel) (by decide +kernel)
set_option maxRecDepth 20000 in
theorem gX9_halvesOf_X9_order : GoodIn wsX9_halvesOf (wsV RX9 67 RX9 yX9_order wsX9_order) := goodIn_app (goodIn_of _ (by decide +kernel)) ggX9_halvesOf_X9_order
set_option maxRecDepth 20000 in
theorem ggX9_halvesOf_X9_length : GoodIn wsX9_halvesOf wsX9_length := goodIn_r _ [15, 11, 44, 45, 46, 47, 48, 49, 50, 51, 52, 53, 54, 55, 56, 57, 58, 59, 60, 61, 62, 63, 64, 65, 66, 67, 68, 69, 70] (by decide +kernel) (by decide +kernel)
set_option maxRecDepth 20000 in
theorem gX9_halvesOf_X9_length : GoodIn wsX9_halvesOf (wsV RX9 49 RX9 yX9_length wsX9_length) := goodIn_app (goodIn_of _ (by decide +kernel)) ggX9_halvesOf_X9_length
set_option maxRecDepth 20000 in
theorem ggX9_halvesOf_X9_begins : GoodIn wsX9_halvesOf wsX9_begins := goodIn_r _ [19, 3, 2, 4, 44, 45, 46, 47, 48, 49, 50, 51, 52, 53, 54, 55, 56, 57, 58, 59, 60, 61, 62, 63, 64, 65, 66, 67, 68, 69, 70] (by decide +kernel) (by decide +kernel)
set_option maxRecDepth 20000 in
theorem gX9_halvesOf_X9_begins : GoodIn wsX9_halvesOf (wsV RX9 208 RX9 yX9_begins wsX9_begins) := goodIn_app (goodIn_of _ (by decide +kernel)) ggX9_halvesOf_X9_begins
set_option maxRecDepth 20000 in
theorem ggX9_halvesOf_X9_places : GoodIn wsX9_halvesOf wsX9_places := goodIn_r _ [23, 12, 13, 14, 9, 15, 11, 44, 45, 46, 47, 48, 49, 50, 51, 52, 53, 54, 55, 56, 57, 58, 59, 60, 61, 62, 63, 64, 65, 66, 67, 68, 69, 70] (by decide +kernel) (by decide +kernel)
set_option maxRecDepth 20000 in
theorem gX9_halvesOf_X9_places : GoodIn wsX9_halvesOf (wsV RX9 60 RX9 yX9_places wsX9_places) := goodIn_app (goodIn_of _ (by decide +kernel)) ggX9_halvesOf_X9_places
set_option maxRecDepth 20000 in
theorem ggX9_halvesOf_X9_softOf : GoodIn wsX9_halvesOf wsX9_softOf := goodIn_r _ [27, 11, 44, 45, 46, 47, 48, 49, 50, 51, 52, 53, 54, 55, 56, 57, 58, 59, 60, 61, 62, 63, 64, 65, 66, 67, 68, 69, 70] (by decide +kernel) (by decide +kernel)
set_option maxRecDepth 20000 in
theorem gX9_halvesOf_X9_softOf : GoodIn wsX9_halvesOf (wsV RX9 198 RX9 yX9_softOf wsX9_softOf) := goodIn_app (goodIn_of _ (by decide +kernel)) ggX9_halvesOf_X9_softOf
set_option maxRecDepth 20000 in
theorem ggX9_halvesOf_X9_plain : GoodIn wsX9_halvesOf wsX9_plain := goodIn_r _ [31, 2, 1, 3, 32, 33, 9, 34, 44, 45, 46, 47, 48, 49, 50, 51, 52, 53, 54, 55, 56, 57, 58, 59, 60, 61, 62, 63, 64, 65, 66, 67, 68, 69, 70] (by decide +kernel) (by decide +kernel)
set_option maxRecDepth 20000 in
theorem gX9_halvesOf_X9_plain : GoodIn wsX9_halvesOf (wsV RX9 212 RX9 yX9_plain wsX9_plain) := goodIn_app (goodIn_of _ (by decide +kernel)) ggX9_halvesOf_X9_plain
set_option maxRecDepth 20000 in
theorem ggX9_halvesOf_X9_lesser : GoodIn wsX9_halvesOf wsX9_lesser := goodIn_r _ [37, 38, 39, 9, 40] (by decide +kernel) (by decide +kernel)
set_option maxRecDepth 20000 in
theorem gX9_halvesOf_X9_lesser : GoodIn wsX9_halvesOf (va_wsS RX9 215 yX9_lesser wsX9_lesser) := goodIn_app (goodIn_of _ (by decide +kernel)) ggX9_halvesOf_X9_lesser
set_option maxRecDepth 20000 in
theorem ggX9_halvesOf_X9_has : GoodIn wsX9_halvesOf wsX9_has := goodIn_r _ [43] (by decide +kernel) (by decide +kernel)
set_option maxRecDepth 20000 in
theorem gX9_halvesOf_X9_has : GoodIn wsX9_halvesOf (va_wsS RX9 74 yX9_has wsX9_has) := goodIn_app (goodIn_of _ (by decide +kernel)) ggX9_halvesOf_X9_has
theorem dX9_halvesOf_0 : decode cX9_halvesOf 0 = .ok (.iconst 0, 1) := by decide +kernel
theorem dX9_halvesOf_1 : decode cX9_halvesOf 1 = .ok (.istore_n 1, 1) := by decide +kernel
theorem dX9_halvesOf_2 : decode cX9_halvesOf 2 = .ok (.iconst 0, 1) := by decide +kernel
theorem dX9_halvesOf_3 : decode cX9_halvesOf 3 = .ok (.istore_n 2, 1) := by decide +kernel
theorem dX9_halvesOf_4 : decode cX9_halvesOf 4 = .ok (.aload_n 0, 1) := by decide +kernel
theorem dX9_halvesOf_5 : decode cX9_halvesOf 5 = .ok (.iconst 0, 1) := by decide +kernel
theorem dX9_halvesOf_6 : decode cX9_halvesOf 6 = .ok (.aload_n 0, 1) := by decide +kernel
theorem dX9_halvesOf_7 : decode cX9_halvesOf 7 = .ok (.invokevirtual 67, 3) := by decide +kernel
theorem dX9_halvesOf_10 : decode cX9_halvesOf 10 = .ok (.aload_n 0, 1) := by decide +kernel
theorem dX9_halvesOf_11 : decode cX9_halvesOf 11 = .ok (.invokevirtual 49, 3) := by decide +kernel
theorem dX9_halvesOf_14 : decode cX9_halvesOf 14 = .ok (.invokevirtual 208, 3) := by decide +kernel
theorem dX9_halvesOf_17 : decode cX9_halvesOf 17 = .ok (.iconst 0, 1) := by decide +kernel
theorem dX9_halvesOf_18 : decode cX9_halvesOf 18 = .ok (.istore_n 3, 1) := by decide +kernel
theorem dX9_halvesOf_19 : decode cX9_halvesOf 19 = .ok (.iload_n 3, 1) := by decide +kernel
theorem dX9_halvesOf_20 : decode cX9_halvesOf 20 = .ok (.aload_n 0, 1) := by decide +kernel
theorem dX9_halvesOf_21 : decode cX9_halvesOf 21 = .ok (.invokevirtual 60, 3) := by decide +kernel
theorem dX9_halvesOf_24 : decode cX9_halvesOf 24 = .ok (.if_icmp .ge 20, 3) := by decide +kernel
theorem dX9_halvesOf_27 : decode cX9_halvesOf 27 = .ok (.aload_n 0, 1) := by decide +kernel
theorem dX9_halvesOf_28 : decode cX9_halvesOf 28 = .ok (.getfield 25, 3) := by decide +kernel
theorem dX9_halvesOf_31 : decode cX9_halvesOf 31 = .ok (.iload_n 3, 1) := by decide +kernel
theorem dX9_halvesOf_32 : decode cX9_halvesOf 32 = .ok (.aload_n 0, 1) := by decide +kernel
theorem dX9_halvesOf_33 : decode cX9_halvesOf 33 = .ok (.iload_n 3, 1) := by decide +kernel
theorem dX9_halvesOf_34 : decode cX9_halvesOf 34 = .ok (.invokevirtual 198, 3) := by decide +kernel
theorem dX9_halvesOf_37 : decode cX9_halvesOf 37 = .ok (.iastore, 1) := by decide +kernel
theorem dX9_halvesOf_38 : decode cX9_halvesOf 38 = .ok (.iinc 3 1, 3) := by decide +kernel
theorem dX9_halvesOf_41 : decode cX9_halvesOf 41 = .ok (.goto (-22), 3) := by decide +kernel
theorem dX9_halvesOf_44 : decode cX9_halvesOf 44 = .ok (.iload_n 2, 1) := by decide +kernel
theorem dX9_halvesOf_45 : decode cX9_halvesOf 45 = .ok (.ifCond .lt 294, 3) := by decide +kernel
theorem dX9_halvesOf_48 : decode cX9_halvesOf 48 = .ok (.iconst 1, 1) := by decide +kernel
theorem dX9_halvesOf_49 : decode cX9_halvesOf 49 = .ok (.aload_n 0, 1) := by decide +kernel
theorem dX9_halvesOf_50 : decode cX9_halvesOf 50 = .ok (.getfield 31, 3) := by decide +kernel
theorem dX9_halvesOf_53 : decode cX9_halvesOf 53 = .ok (.iload_n 2, 1) := by decide +kernel
theorem dX9_halvesOf_54 : decode cX9_halvesOf 54 = .ok (.iaload, 1) := by decide +kernel
theorem dX9_halvesOf_55 : decode cX9_halvesOf 55 = .ok (.ishl, 1) := by decide +kernel
theorem dX9_halvesOf_56 : decode cX9_halvesOf 56 = .ok (.iconst 1, 1) := by decide +kernel
theorem dX9_halvesOf_57 : decode cX9_halvesOf 57 = .ok (.ishr, 1) := by decide +kernel
theorem dX9_halvesOf_58 : decode cX9_halvesOf 58 = .ok (.istore_n 3, 1) := by decide +kernel
theorem dX9_halvesOf_59 : decode cX9_halvesOf 59 = .ok (.bipush 32, 2) := by decide +kernel
theorem dX9_halvesOf_61 : decode cX9_halvesOf 61 = .ok (.iload_n 2, 1) := by decide +kernel
theorem dX9_halvesOf_62 : decode cX9_halvesOf 62 = .ok (.imul, 1) := by decide +kernel
theorem dX9_halvesOf_63 : decode cX9_halvesOf 63 = .ok (.istore 4, 2) := by decide +kernel
theorem dX9_halvesOf_65 : decode cX9_halvesOf 65 = .ok (.aload_n 0, 1) := by decide +kernel
theorem dX9_halvesOf_66 : decode cX9_halvesOf 66 = .ok (.getfield 28, 3) := by decide +kernel
theorem dX9_halvesOf_69 : decode cX9_halvesOf 69 = .ok (.iload_n 2, 1) := by decide +kernel
theorem dX9_halvesOf_70 : decode cX9_halvesOf 70 = .ok (.iaload, 1) := by decide +kernel
theorem dX9_halvesOf_71 : decode cX9_halvesOf 71 = .ok (.ifCond .eq 18, 3) := by decide +kernel
theorem dX9_halvesOf_74 : decode cX9_halvesOf 74 = .ok (.aload_n 0, 1) := by decide +kernel
theorem dX9_halvesOf_75 : decode cX9_halvesOf 75 = .ok (.getfield 28, 3) := by decide +kernel
theorem dX9_halvesOf_78 : decode cX9_halvesOf 78 = .ok (.iload_n 2, 1) := by decide +kernel
theorem dX9_halvesOf_79 : decode cX9_halvesOf 79 = .ok (.iaload, 1) := by decide +kernel
theorem dX9_halvesOf_80 : decode cX9_halvesOf 80 = .ok (.aload_n 0, 1) := by decide +kernel
theorem dX9_halvesOf_81 : decode cX9_halvesOf 81 = .ok (.getfield 31, 3) := by decide +kernel
theorem dX9_halvesOf_84 : decode cX9_halvesOf 84 = .ok (.iload_n 2, 1) := by decide +kernel
theorem dX9_halvesOf_85 : decode cX9_halvesOf 85 = .ok (.iaload, 1) := by decide +kernel
theorem dX9_halvesOf_86 : decode cX9_halvesOf 86 = .ok (.if_icmp .ne 15, 3) := by decide +kernel
theorem dX9_halvesOf_89 : decode cX9_halvesOf 89 = .ok (.aload_n 0, 1) := by decide +kernel
theorem dX9_halvesOf_90 : decode cX9_halvesOf 90 = .ok (.iload_n 2, 1) := by decide +kernel
theorem dX9_halvesOf_91 : decode cX9_halvesOf 91 = .ok (.invokevirtual 212, 3) := by decide +kernel
theorem dX9_halvesOf_94 : decode cX9_halvesOf 94 = .ok (.istore_n 1, 1) := by decide +kernel
theorem dX9_halvesOf_95 : decode cX9_halvesOf 95 = .ok (.iinc 2 (-1), 3) := by decide +kernel
theorem dX9_halvesOf_98 : decode cX9_halvesOf 98 = .ok (.goto 238, 3) := by decide +kernel
theorem dX9_halvesOf_101 : decode cX9_halvesOf 101 = .ok (.aload_n 0, 1) := by decide +kernel
theorem dX9_halvesOf_102 : decode cX9_halvesOf 102 = .ok (.getfield 34, 3) := by decide +kernel
theorem dX9_halvesOf_105 : decode cX9_halvesOf 105 = .ok (.iload_n 2, 1) := by decide +kernel
theorem dX9_halvesOf_106 : decode cX9_halvesOf 106 = .ok (.iaload, 1) := by decide +kernel
theorem dX9_halvesOf_107 : decode cX9_halvesOf 107 = .ok (.ifCond .ne 92, 3) := by decide +kernel
theorem dX9_halvesOf_110 : decode cX9_halvesOf 110 = .ok (.aload_n 0, 1) := by decide +kernel
theorem dX9_halvesOf_111 : decode cX9_halvesOf 111 = .ok (.iload_n 2, 1) := by decide +kernel
theorem dX9_halvesOf_112 : decode cX9_halvesOf 112 = .ok (.iconst 1, 1) := by decide +kernel
theorem dX9_halvesOf_113 : decode cX9_halvesOf 113 = .ok (.iadd, 1) := by decide +kernel
theorem dX9_halvesOf_114 : decode cX9_halvesOf 114 = .ok (.aload_n 0, 1) := by decide +kernel
theorem dX9_halvesOf_115 : decode cX9_halvesOf 115 = .ok (.getfield 28, 3) := by decide +kernel
theorem dX9_halvesOf_118 : decode cX9_halvesOf 118 = .ok (.iload_n 2, 1) := by decide +kernel
theorem dX9_halvesOf_119 : decode cX9_halvesOf 119 = .ok (.iaload, 1) := by decide +kernel
theorem dX9_halvesOf_120 : decode cX9_halvesOf 120 = .ok (.iconst 1, 1) := by decide +kernel
theorem dX9_halvesOf_121 : decode cX9_halvesOf 121 = .ok (.isub, 1) := by decide +kernel
theorem dX9_halvesOf_122 : decode cX9_halvesOf 122 = .ok (.aload_n 0, 1) := by decide +kernel
theorem dX9_halvesOf_123 : decode cX9_halvesOf 123 = .ok (.getfield 31, 3) := by decide +kernel
theorem dX9_halvesOf_126 : decode cX9_halvesOf 126 = .ok (.iload_n 2, 1) := by decide +kernel
theorem dX9_halvesOf_127 : decode cX9_halvesOf 127 = .ok (.iaload, 1) := by decide +kernel
theorem dX9_halvesOf_128 : decode cX9_halvesOf 128 = .ok (.iconst 1, 1) := by decide +kernel
theorem dX9_halvesOf_129 : decode cX9_halvesOf 129 = .ok (.isub, 1) := by decide +kernel
theorem dX9_halvesOf_130 : decode cX9_halvesOf 130 = .ok (.invokevirtual 208, 3) := by decide +kernel
theorem dX9_halvesOf_133 : decode cX9_halvesOf 133 = .ok (.iconst 0, 1) := by decide +kernel
theorem dX9_halvesOf_134 : decode cX9_halvesOf 134 = .ok (.istore 5, 2) := by decide +kernel
theorem dX9_halvesOf_136 : decode cX9_halvesOf 136 = .ok (.iload 5, 2) := by decide +kernel
theorem dX9_halvesOf_138 : decode cX9_halvesOf 138 = .ok (.iload_n 3, 1) := by decide +kernel
theorem dX9_halvesOf_139 : decode cX9_halvesOf 139 = .ok (.if_icmp .ge 47, 3) := by decide +kernel
theorem dX9_halvesOf_142 : decode cX9_halvesOf 142 = .ok (.aload_n 0, 1) := by decide +kernel
theorem dX9_halvesOf_143 : decode cX9_halvesOf 143 = .ok (.getfield 25, 3) := by decide +kernel
theorem dX9_halvesOf_146 : decode cX9_halvesOf 146 = .ok (.iload 4, 2) := by decide +kernel
theorem dX9_halvesOf_148 : decode cX9_halvesOf 148 = .ok (.bipush 32, 2) := by decide +kernel
theorem dX9_halvesOf_150 : decode cX9_halvesOf 150 = .ok (.iadd, 1) := by decide +kernel
theorem dX9_halvesOf_151 : decode cX9_halvesOf 151 = .ok (.iload 5, 2) := by decide +kernel
theorem dX9_halvesOf_153 : decode cX9_halvesOf 153 = .ok (.iadd, 1) := by decide +kernel
theorem dX9_halvesOf_154 : decode cX9_halvesOf 154 = .ok (.aload_n 0, 1) := by decide +kernel
theorem dX9_halvesOf_155 : decode cX9_halvesOf 155 = .ok (.getfield 25, 3) := by decide +kernel
theorem dX9_halvesOf_158 : decode cX9_halvesOf 158 = .ok (.iload 4, 2) := by decide +kernel
theorem dX9_halvesOf_160 : decode cX9_halvesOf 160 = .ok (.iload 5, 2) := by decide +kernel
theorem dX9_halvesOf_162 : decode cX9_halvesOf 162 = .ok (.iadd, 1) := by decide +kernel
theorem dX9_halvesOf_163 : decode cX9_halvesOf 163 = .ok (.iaload, 1) := by decide +kernel
theorem dX9_halvesOf_164 : decode cX9_halvesOf 164 = .ok (.aload_n 0, 1) := by decide +kernel
theorem dX9_halvesOf_165 : decode cX9_halvesOf 165 = .ok (.getfield 25, 3) := by decide +kernel
theorem dX9_halvesOf_168 : decode cX9_halvesOf 168 = .ok (.iload 4, 2) := by decide +kernel
theorem dX9_halvesOf_170 : decode cX9_halvesOf 170 = .ok (.iload_n 3, 1) := by decide +kernel
theorem dX9_halvesOf_171 : decode cX9_halvesOf 171 = .ok (.iadd, 1) := by decide +kernel
theorem dX9_halvesOf_172 : decode cX9_halvesOf 172 = .ok (.iload 5, 2) := by decide +kernel
theorem dX9_halvesOf_174 : decode cX9_halvesOf 174 = .ok (.iadd, 1) := by decide +kernel
theorem dX9_halvesOf_175 : decode cX9_halvesOf 175 = .ok (.iaload, 1) := by decide +kernel
theorem dX9_halvesOf_176 : decode cX9_halvesOf 176 = .ok (.invokestatic 215, 3) := by decide +kernel
theorem dX9_halvesOf_179 : decode cX9_halvesOf 179 = .ok (.iastore, 1) := by decide +kernel
theorem dX9_halvesOf_180 : decode cX9_halvesOf 180 = .ok (.iinc 5 1, 3) := by decide +kernel
theorem dX9_halvesOf_183 : decode cX9_halvesOf 183 = .ok (.goto (-47), 3) := by decide +kernel
theorem dX9_halvesOf_186 : decode cX9_halvesOf 186 = .ok (.aload_n 0, 1) := by decide +kernel
theorem dX9_halvesOf_187 : decode cX9_halvesOf 187 = .ok (.getfield 34, 3) := by decide +kernel
theorem dX9_halvesOf_190 : decode cX9_halvesOf 190 = .ok (.iload_n 2, 1) := by decide +kernel
theorem dX9_halvesOf_191 : decode cX9_halvesOf 191 = .ok (.iconst 1, 1) := by decide +kernel
theorem dX9_halvesOf_192 : decode cX9_halvesOf 192 = .ok (.iastore, 1) := by decide +kernel
theorem dX9_halvesOf_193 : decode cX9_halvesOf 193 = .ok (.iinc 2 1, 3) := by decide +kernel
theorem dX9_halvesOf_196 : decode cX9_halvesOf 196 = .ok (.goto 140, 3) := by decide +kernel
theorem dX9_halvesOf_199 : decode cX9_halvesOf 199 = .ok (.aload_n 0, 1) := by decide +kernel
theorem dX9_halvesOf_200 : decode cX9_halvesOf 200 = .ok (.getfield 34, 3) := by decide +kernel
theorem dX9_halvesOf_203 : decode cX9_halvesOf 203 = .ok (.iload_n 2, 1) := by decide +kernel
theorem dX9_halvesOf_204 : decode cX9_halvesOf 204 = .ok (.iaload, 1) := by decide +kernel
theorem dX9_halvesOf_205 : decode cX9_halvesOf 205 = .ok (.iconst 1, 1) := by decide +kernel
theorem dX9_halvesOf_206 : decode cX9_halvesOf 206 = .ok (.if_icmp .ne 114, 3) := by decide +kernel
theorem dX9_halvesOf_209 : decode cX9_halvesOf 209 = .ok (.aload_n 0, 1) := by decide +kernel
theorem dX9_halvesOf_210 : decode cX9_halvesOf 210 = .ok (.getfield 37, 3) := by decide +kernel
theorem dX9_halvesOf_213 : decode cX9_halvesOf 213 = .ok (.iload_n 2, 1) := by decide +kernel
theorem dX9_halvesOf_214 : decode cX9_halvesOf 214 = .ok (.iload_n 1, 1) := by decide +kernel
theorem dX9_halvesOf_215 : decode cX9_halvesOf 215 = .ok (.iastore, 1) := by decide +kernel
theorem dX9_halvesOf_216 : decode cX9_halvesOf 216 = .ok (.aload_n 0, 1) := by decide +kernel
theorem dX9_halvesOf_217 : decode cX9_halvesOf 217 = .ok (.iload_n 2, 1) := by decide +kernel
theorem dX9_halvesOf_218 : decode cX9_halvesOf 218 = .ok (.iconst 1, 1) := by decide +kernel
theorem dX9_halvesOf_219 : decode cX9_halvesOf 219 = .ok (.iadd, 1) := by decide +kernel
theorem dX9_halvesOf_220 : decode cX9_halvesOf 220 = .ok (.aload_n 0, 1) := by decide +kernel
theorem dX9_halvesOf_221 : decode cX9_halvesOf 221 = .ok (.getfield 28, 3) := by decide +kernel
theorem dX9_halvesOf_224 : decode cX9_halvesOf 224 = .ok (.iload_n 2, 1) := by decide +kernel
theorem dX9_halvesOf_225 : decode cX9_halvesOf 225 = .ok (.iaload, 1) := by decide +kernel
theorem dX9_halvesOf_226 : decode cX9_halvesOf 226 = .ok (.aload_n 0, 1) := by decide +kernel
theorem dX9_halvesOf_227 : decode cX9_halvesOf 227 = .ok (.getfield 31, 3) := by decide +kernel
theorem dX9_halvesOf_230 : decode cX9_halvesOf 230 = .ok (.iload_n 2, 1) := by decide +kernel
theorem dX9_halvesOf_231 : decode cX9_halvesOf 231 = .ok (.iaload, 1) := by decide +kernel
theorem dX9_halvesOf_232 : decode cX9_halvesOf 232 = .ok (.iconst 1, 1) := by decide +kernel
theorem dX9_halvesOf_233 : decode cX9_halvesOf 233 = .ok (.isub, 1) := by decide +kernel
theorem dX9_halvesOf_234 : decode cX9_halvesOf 234 = .ok (.invokevirtual 208, 3) := by decide +kernel
theorem dX9_halvesOf_237 : decode cX9_halvesOf 237 = .ok (.iconst 0, 1) := by decide +kernel
theorem dX9_halvesOf_238 : decode cX9_halvesOf 238 = .ok (.istore 5, 2) := by decide +kernel
theorem dX9_halvesOf_240 : decode cX9_halvesOf 240 = .ok (.iload 5, 2) := by decide +kernel
theorem dX9_halvesOf_242 : decode cX9_halvesOf 242 = .ok (.iload_n 3, 1) := by decide +kernel
theorem dX9_halvesOf_243 : decode cX9_halvesOf 243 = .ok (.if_icmp .ge 64, 3) := by decide +kernel
theorem dX9_halvesOf_246 : decode cX9_halvesOf 246 = .ok (.aload_n 0, 1) := by decide +kernel
theorem dX9_halvesOf_247 : decode cX9_halvesOf 247 = .ok (.getfield 25, 3) := by decide +kernel
theorem dX9_halvesOf_250 : decode cX9_halvesOf 250 = .ok (.iload 4, 2) := by decide +kernel
theorem dX9_halvesOf_252 : decode cX9_halvesOf 252 = .ok (.iload_n 3, 1) := by decide +kernel
theorem dX9_halvesOf_253 : decode cX9_halvesOf 253 = .ok (.iadd, 1) := by decide +kernel
theorem dX9_halvesOf_254 : decode cX9_halvesOf 254 = .ok (.iload 5, 2) := by decide +kernel
theorem dX9_halvesOf_256 : decode cX9_halvesOf 256 = .ok (.iadd, 1) := by decide +kernel
theorem dX9_halvesOf_257 : decode cX9_halvesOf 257 = .ok (.iaload, 1) := by decide +kernel
theorem dX9_halvesOf_258 : decode cX9_halvesOf 258 = .ok (.istore 6, 2) := by decide +kernel
theorem dX9_halvesOf_260 : decode cX9_halvesOf 260 = .ok (.aload_n 0, 1) := by decide +kernel
theorem dX9_halvesOf_261 : decode cX9_halvesOf 261 = .ok (.getfield 25, 3) := by decide +kernel
theorem dX9_halvesOf_264 : decode cX9_halvesOf 264 = .ok (.iload 4, 2) := by decide +kernel
theorem dX9_halvesOf_266 : decode cX9_halvesOf 266 = .ok (.bipush 32, 2) := by decide +kernel
theorem dX9_halvesOf_268 : decode cX9_halvesOf 268 = .ok (.iadd, 1) := by decide +kernel
theorem dX9_halvesOf_269 : decode cX9_halvesOf 269 = .ok (.iload 5, 2) := by decide +kernel
theorem dX9_halvesOf_271 : decode cX9_halvesOf 271 = .ok (.iadd, 1) := by decide +kernel
theorem dX9_halvesOf_272 : decode cX9_halvesOf 272 = .ok (.aload_n 0, 1) := by decide +kernel
theorem dX9_halvesOf_273 : decode cX9_halvesOf 273 = .ok (.getfield 25, 3) := by decide +kernel
theorem dX9_halvesOf_276 : decode cX9_halvesOf 276 = .ok (.iload 4, 2) := by decide +kernel
theorem dX9_halvesOf_278 : decode cX9_halvesOf 278 = .ok (.iload 5, 2) := by decide +kernel
theorem dX9_halvesOf_280 : decode cX9_halvesOf 280 = .ok (.iadd, 1) := by decide +kernel
theorem dX9_halvesOf_281 : decode cX9_halvesOf 281 = .ok (.iaload, 1) := by decide +kernel
theorem dX9_halvesOf_282 : decode cX9_halvesOf 282 = .ok (.iload_n 1, 1) := by decide +kernel
theorem dX9_halvesOf_283 : decode cX9_halvesOf 283 = .ok (.iload 5, 2) := by decide +kernel
theorem dX9_halvesOf_285 : decode cX9_halvesOf 285 = .ok (.invokestatic 74, 3) := by decide +kernel
theorem dX9_halvesOf_288 : decode cX9_halvesOf 288 = .ok (.ifCond .eq 9, 3) := by decide +kernel
theorem dX9_halvesOf_291 : decode cX9_halvesOf 291 = .ok (.iload 6, 2) := by decide +kernel
theorem dX9_halvesOf_293 : decode cX9_halvesOf 293 = .ok (.ineg, 1) := by decide +kernel
theorem dX9_halvesOf_294 : decode cX9_halvesOf 294 = .ok (.goto 5, 3) := by decide +kernel
theorem dX9_halvesOf_297 : decode cX9_halvesOf 297 = .ok (.iload 6, 2) := by decide +kernel
theorem dX9_halvesOf_299 : decode cX9_halvesOf 299 = .ok (.iadd, 1) := by decide +kernel
theorem dX9_halvesOf_300 : decode cX9_halvesOf 300 = .ok (.iastore, 1) := by decide +kernel
theorem dX9_halvesOf_301 : decode cX9_halvesOf 301 = .ok (.iinc 5 1, 3) := by decide +kernel
theorem dX9_halvesOf_304 : decode cX9_halvesOf 304 = .ok (.goto (-64), 3) := by decide +kernel
theorem dX9_halvesOf_307 : decode cX9_halvesOf 307 = .ok (.aload_n 0, 1) := by decide +kernel
theorem dX9_halvesOf_308 : decode cX9_halvesOf 308 = .ok (.getfield 34, 3) := by decide +kernel
theorem dX9_halvesOf_311 : decode cX9_halvesOf 311 = .ok (.iload_n 2, 1) := by decide +kernel
theorem dX9_halvesOf_312 : decode cX9_halvesOf 312 = .ok (.iconst 2, 1) := by decide +kernel
theorem dX9_halvesOf_313 : decode cX9_halvesOf 313 = .ok (.iastore, 1) := by decide +kernel
theorem dX9_halvesOf_314 : decode cX9_halvesOf 314 = .ok (.iinc 2 1, 3) := by decide +kernel
theorem dX9_halvesOf_317 : decode cX9_halvesOf 317 = .ok (.goto 19, 3) := by decide +kernel
theorem dX9_halvesOf_320 : decode cX9_halvesOf 320 = .ok (.iload_n 1, 1) := by decide +kernel
theorem dX9_halvesOf_321 : decode cX9_halvesOf 321 = .ok (.iload_n 1, 1) := by decide +kernel
theorem dX9_halvesOf_322 : decode cX9_halvesOf 322 = .ok (.aload_n 0, 1) := by decide +kernel
theorem dX9_halvesOf_323 : decode cX9_halvesOf 323 = .ok (.getfield 37, 3) := by decide +kernel
theorem dX9_halvesOf_326 : decode cX9_halvesOf 326 = .ok (.iload_n 2, 1) := by decide +kernel
theorem dX9_halvesOf_327 : decode cX9_halvesOf 327 = .ok (.iaload, 1) := by decide +kernel
theorem dX9_halvesOf_328 : decode cX9_halvesOf 328 = .ok (.ixor, 1) := by decide +kernel
theorem dX9_halvesOf_329 : decode cX9_halvesOf 329 = .ok (.iload_n 3, 1) := by decide +kernel
theorem dX9_halvesOf_330 : decode cX9_halvesOf 330 = .ok (.ishl, 1) := by decide +kernel
theorem dX9_halvesOf_331 : decode cX9_halvesOf 331 = .ok (.ior, 1) := by decide +kernel
theorem dX9_halvesOf_332 : decode cX9_halvesOf 332 = .ok (.istore_n 1, 1) := by decide +kernel
theorem dX9_halvesOf_333 : decode cX9_halvesOf 333 = .ok (.iinc 2 (-1), 3) := by decide +kernel
theorem dX9_halvesOf_336 : decode cX9_halvesOf 336 = .ok (.goto (-292), 3) := by decide +kernel
theorem dX9_halvesOf_339 : decode cX9_halvesOf 339 = .ok (.iload_n 1, 1) := by decide +kernel
theorem dX9_halvesOf_340 : decode cX9_halvesOf 340 = .ok (.ireturn, 1) := by decide +kernel
set_option maxRecDepth 20000 in
theorem ggX9_halves_X9_halvesOf : GoodIn wsX9_halves wsX9_halvesOf := goodIn_r _ [5, 6, 7, 8, 9, 10, 11, 12, 13, 4, 14, 15, 16, 17, 18, 19, 20, 21, 22, 23, 24, 25, 26, 27, 28, 29, 30, 31, 32, 33, 34, 35, 36, 37, 38, 39, 40, 41, 42, 43, 44, 45, 46, 47, 48, 49, 50, 51, 52, 53, 54, 55, 56, 57, 58, 59, 60, 61, 62, 63, 64, 65, 66, 67, 68, 69, 70, 71, 72, 73, 74] (by decide +kernel) (by decide +kernel)
set_option maxRecDepth 20000 in
theorem gX9_halves_X9_halvesOf : GoodIn wsX9_halves (wsV RX9 218 RX9 yX9_halvesOf wsX9_halvesOf) := goodIn_app (goodIn_of _ (by decide +kernel)) ggX9_halves_X9_halvesOf
theorem dX9_halves_0 : decode cX9_halves 0 = .ok (.aload_n 0, 1) := by decide +kernel
theorem dX9_halves_1 : decode cX9_halves 1 = .ok (.invokevirtual 218, 3) := by decide +kernel
theorem dX9_halves_4 : decode cX9_halves 4 = .ok (.ireturn, 1) := by decide +kernel
set_option maxRecDepth 20000 in
theorem ggX9_meritOf_X9_places : GoodIn wsX9_meritOf wsX9_places := goodIn_r _ [5, 6, 7, 8, 4, 9, 10, 18, 19, 20, 21, 22, 23, 24, 25, 26, 27, 28, 29, 30, 31, 32, 33, 34, 35, 36, 37, 38, 39, 40, 41, 42, 43, 44] (by decide +kernel) (by decide +kernel)
set_option maxRecDepth 20000 in
theorem gX9_meritOf_X9_places : GoodIn wsX9_meritOf (wsV RX9 60 RX9 yX9_places wsX9_places) := goodIn_app (goodIn_of _ (by decide +kernel)) ggX9_meritOf_X9_places
set_option maxRecDepth 20000 in
theorem ggX9_meritOf_X9_has : GoodIn wsX9_meritOf wsX9_has := goodIn_r _ [13] (by decide +kernel) (by decide +kernel)
set_option maxRecDepth 20000 in
theorem gX9_meritOf_X9_has : GoodIn wsX9_meritOf (va_wsS RX9 74 yX9_has wsX9_has) := goodIn_app (goodIn_of _ (by decide +kernel)) ggX9_meritOf_X9_has
set_option maxRecDepth 20000 in
theorem ggX9_meritOf_X9_softOf : GoodIn wsX9_meritOf wsX9_softOf := goodIn_r _ [17, 10, 18, 19, 20, 21, 22, 23, 24, 25, 26, 27, 28, 29, 30, 31, 32, 33, 34, 35, 36, 37, 38, 39, 40, 41, 42, 43, 44] (by decide +kernel) (by decide +kernel)
set_option maxRecDepth 20000 in
theorem gX9_meritOf_X9_softOf : GoodIn wsX9_meritOf (wsV RX9 198 RX9 yX9_softOf wsX9_softOf) := goodIn_app (goodIn_of _ (by decide +kernel)) ggX9_meritOf_X9_softOf
theorem dX9_meritOf_0 : decode cX9_meritOf 0 = .ok (.iconst 0, 1) := by decide +kernel
theorem dX9_meritOf_1 : decode cX9_meritOf 1 = .ok (.istore_n 2, 1) := by decide +kernel
theorem dX9_meritOf_2 : decode cX9_meritOf 2 = .ok (.iconst 0, 1) := by decide +kernel
theorem dX9_meritOf_3 : decode cX9_meritOf 3 = .ok (.istore_n 3, 1) := by decide +kernel
theorem dX9_meritOf_4 : decode cX9_meritOf 4 = .ok (.iload_n 3, 1) := by decide +kernel
theorem dX9_meritOf_5 : decode cX9_meritOf 5 = .ok (.aload_n 0, 1) := by decide +kernel
theorem dX9_meritOf_6 : decode cX9_meritOf 6 = .ok (.invokevirtual 60, 3) := by decide +kernel
theorem dX9_meritOf_9 : decode cX9_meritOf 9 = .ok (.if_icmp .ge 34, 3) := by decide +kernel
theorem dX9_meritOf_12 : decode cX9_meritOf 12 = .ok (.iload_n 2, 1) := by decide +kernel
theorem dX9_meritOf_13 : decode cX9_meritOf 13 = .ok (.iload_n 1, 1) := by decide +kernel
theorem dX9_meritOf_14 : decode cX9_meritOf 14 = .ok (.iload_n 3, 1) := by decide +kernel
theorem dX9_meritOf_15 : decode cX9_meritOf 15 = .ok (.invokestatic 74, 3) := by decide +kernel
theorem dX9_meritOf_18 : decode cX9_meritOf 18 = .ok (.ifCond .eq 12, 3) := by decide +kernel
theorem dX9_meritOf_21 : decode cX9_meritOf 21 = .ok (.aload_n 0, 1) := by decide +kernel
theorem dX9_meritOf_22 : decode cX9_meritOf 22 = .ok (.iload_n 3, 1) := by decide +kernel
theorem dX9_meritOf_23 : decode cX9_meritOf 23 = .ok (.invokevirtual 198, 3) := by decide +kernel
theorem dX9_meritOf_26 : decode cX9_meritOf 26 = .ok (.ineg, 1) := by decide +kernel
theorem dX9_meritOf_27 : decode cX9_meritOf 27 = .ok (.goto 8, 3) := by decide +kernel
theorem dX9_meritOf_30 : decode cX9_meritOf 30 = .ok (.aload_n 0, 1) := by decide +kernel
theorem dX9_meritOf_31 : decode cX9_meritOf 31 = .ok (.iload_n 3, 1) := by decide +kernel
theorem dX9_meritOf_32 : decode cX9_meritOf 32 = .ok (.invokevirtual 198, 3) := by decide +kernel
theorem dX9_meritOf_35 : decode cX9_meritOf 35 = .ok (.iadd, 1) := by decide +kernel
theorem dX9_meritOf_36 : decode cX9_meritOf 36 = .ok (.istore_n 2, 1) := by decide +kernel
theorem dX9_meritOf_37 : decode cX9_meritOf 37 = .ok (.iinc 3 1, 3) := by decide +kernel
theorem dX9_meritOf_40 : decode cX9_meritOf 40 = .ok (.goto (-36), 3) := by decide +kernel
theorem dX9_meritOf_43 : decode cX9_meritOf 43 = .ok (.iload_n 2, 1) := by decide +kernel
theorem dX9_meritOf_44 : decode cX9_meritOf 44 = .ok (.ireturn, 1) := by decide +kernel
set_option maxRecDepth 20000 in
theorem ggX9_greatest_X9_many : GoodIn wsX9_greatest wsX9_many := goodIn_r _ [6, 7, 8, 9, 10, 5, 11, 12, 13, 14, 15, 16, 17, 18, 19, 20, 21, 22, 23, 24, 25, 26, 27, 28, 48, 49, 50, 51, 52, 53, 54, 55, 56, 57, 58, 59, 60, 61, 62, 63, 64, 65, 66, 67, 68, 69, 70, 71, 72, 73, 74] (by decide +kernel) (by decide +kernel)
set_option maxRecDepth 20000 in
theorem gX9_greatest_X9_many : GoodIn wsX9_greatest (wsV RX9 100 RX9 yX9_many wsX9_many) := goodIn_app (goodIn_of _ (by decide +kernel)) ggX9_greatest_X9_many
set_option maxRecDepth 20000 in
theorem ggX9_greatest_X9_laysBasis : GoodIn wsX9_greatest wsX9_laysBasis := goodIn_r _ [32, 1, 17, 2, 3, 4, 5, 6, 7, 8, 9, 10, 11, 12, 13, 14, 15, 16, 18, 19, 20, 21, 22, 23, 24, 25, 26, 27, 28, 33, 34, 35, 36, 48, 49, 50, 51, 52, 53, 54, 55, 56, 57, 58, 59, 60, 61, 62, 63, 64, 65, 66, 67, 68, 69, 70, 71, 72, 73, 74] (by decide +kernel) (by decide +kernel)
set_option maxRecDepth 20000 in
theorem gX9_greatest_X9_laysBasis : GoodIn wsX9_greatest (wsV RX9 176 RX9 yX9_laysBasis wsX9_laysBasis) := goodIn_app (goodIn_of _ (by decide +kernel)) ggX9_greatest_X9_laysBasis
set_option maxRecDepth 20000 in
theorem ggX9_greatest_X9_meritOf : GoodIn wsX9_greatest wsX9_meritOf := goodIn_r _ [40, 18, 19, 20, 5, 21, 22, 23, 24, 25, 12, 41, 42, 43, 44, 45, 46, 47, 48, 49, 50, 51, 52, 53, 54, 55, 56, 57, 58, 59, 60, 61, 62, 63, 64, 65, 66, 67, 68, 69, 70, 71, 72, 73, 74] (by decide +kernel) (by decide +kernel)
set_option maxRecDepth 20000 in
theorem gX9_greatest_X9_meritOf : GoodIn wsX9_greatest (wsV RX9 221 RX9 yX9_meritOf wsX9_meritOf) := goodIn_app (goodIn_of _ (by decide +kernel)) ggX9_greatest_X9_meritOf
set_option maxRecDepth 20000 in
theorem ggX9_greatest_X9_has : GoodIn wsX9_greatest wsX9_has := goodIn_r _ [43] (by decide +kernel) (by decide +kernel)
set_option maxRecDepth 20000 in
theorem gX9_greatest_X9_has : GoodIn wsX9_greatest (va_wsS RX9 74 yX9_has wsX9_has) := goodIn_app (goodIn_of _ (by decide +kernel)) ggX9_greatest_X9_has
theorem dX9_greatest_0 : decode cX9_greatest 0 = .ok (.iconst 0, 1) := by decide +kernel
theorem dX9_greatest_1 : decode cX9_greatest 1 = .ok (.istore_n 1, 1) := by decide +kernel
theorem dX9_greatest_2 : decode cX9_greatest 2 = .ok (.aload_n 0, 1) := by decide +kernel
theorem dX9_greatest_3 : decode cX9_greatest 3 = .ok (.invokevirtual 100, 3) := by decide +kernel
theorem dX9_greatest_6 : decode cX9_greatest 6 = .ok (.istore_n 2, 1) := by decide +kernel
theorem dX9_greatest_7 : decode cX9_greatest 7 = .ok (.aload_n 0, 1) := by decide +kernel
theorem dX9_greatest_8 : decode cX9_greatest 8 = .ok (.invokevirtual 176, 3) := by decide +kernel
theorem dX9_greatest_11 : decode cX9_greatest 11 = .ok (.aload_n 0, 1) := by decide +kernel
theorem dX9_greatest_12 : decode cX9_greatest 12 = .ok (.iconst 0, 1) := by decide +kernel
theorem dX9_greatest_13 : decode cX9_greatest 13 = .ok (.invokevirtual 221, 3) := by decide +kernel
theorem dX9_greatest_16 : decode cX9_greatest 16 = .ok (.istore_n 3, 1) := by decide +kernel
theorem dX9_greatest_17 : decode cX9_greatest 17 = .ok (.iconst 1, 1) := by decide +kernel
theorem dX9_greatest_18 : decode cX9_greatest 18 = .ok (.istore 4, 2) := by decide +kernel
theorem dX9_greatest_20 : decode cX9_greatest 20 = .ok (.iload 4, 2) := by decide +kernel
theorem dX9_greatest_22 : decode cX9_greatest 22 = .ok (.iconst 1, 1) := by decide +kernel
theorem dX9_greatest_23 : decode cX9_greatest 23 = .ok (.iload_n 2, 1) := by decide +kernel
theorem dX9_greatest_24 : decode cX9_greatest 24 = .ok (.ishl, 1) := by decide +kernel
theorem dX9_greatest_25 : decode cX9_greatest 25 = .ok (.if_icmp .ge 72, 3) := by decide +kernel
theorem dX9_greatest_28 : decode cX9_greatest 28 = .ok (.iload 4, 2) := by decide +kernel
theorem dX9_greatest_30 : decode cX9_greatest 30 = .ok (.iload 4, 2) := by decide +kernel
theorem dX9_greatest_32 : decode cX9_greatest 32 = .ok (.iconst 1, 1) := by decide +kernel
theorem dX9_greatest_33 : decode cX9_greatest 33 = .ok (.isub, 1) := by decide +kernel
theorem dX9_greatest_34 : decode cX9_greatest 34 = .ok (.ixor, 1) := by decide +kernel
theorem dX9_greatest_35 : decode cX9_greatest 35 = .ok (.istore 5, 2) := by decide +kernel
theorem dX9_greatest_37 : decode cX9_greatest 37 = .ok (.iconst 0, 1) := by decide +kernel
theorem dX9_greatest_38 : decode cX9_greatest 38 = .ok (.istore 6, 2) := by decide +kernel
theorem dX9_greatest_40 : decode cX9_greatest 40 = .ok (.iload 6, 2) := by decide +kernel
theorem dX9_greatest_42 : decode cX9_greatest 42 = .ok (.iload_n 2, 1) := by decide +kernel
theorem dX9_greatest_43 : decode cX9_greatest 43 = .ok (.if_icmp .ge 29, 3) := by decide +kernel
theorem dX9_greatest_46 : decode cX9_greatest 46 = .ok (.iload 5, 2) := by decide +kernel
theorem dX9_greatest_48 : decode cX9_greatest 48 = .ok (.iload 6, 2) := by decide +kernel
theorem dX9_greatest_50 : decode cX9_greatest 50 = .ok (.invokestatic 74, 3) := by decide +kernel
theorem dX9_greatest_53 : decode cX9_greatest 53 = .ok (.ifCond .eq 19, 3) := by decide +kernel
theorem dX9_greatest_56 : decode cX9_greatest 56 = .ok (.iload_n 1, 1) := by decide +kernel
theorem dX9_greatest_57 : decode cX9_greatest 57 = .ok (.aload_n 0, 1) := by decide +kernel
theorem dX9_greatest_58 : decode cX9_greatest 58 = .ok (.getfield 22, 3) := by decide +kernel
theorem dX9_greatest_61 : decode cX9_greatest 61 = .ok (.iload 6, 2) := by decide +kernel
theorem dX9_greatest_63 : decode cX9_greatest 63 = .ok (.iaload, 1) := by decide +kernel
theorem dX9_greatest_64 : decode cX9_greatest 64 = .ok (.ixor, 1) := by decide +kernel
theorem dX9_greatest_65 : decode cX9_greatest 65 = .ok (.istore_n 1, 1) := by decide +kernel
theorem dX9_greatest_66 : decode cX9_greatest 66 = .ok (.iinc 6 1, 3) := by decide +kernel
theorem dX9_greatest_69 : decode cX9_greatest 69 = .ok (.goto (-29), 3) := by decide +kernel
theorem dX9_greatest_72 : decode cX9_greatest 72 = .ok (.aload_n 0, 1) := by decide +kernel
theorem dX9_greatest_73 : decode cX9_greatest 73 = .ok (.iload_n 1, 1) := by decide +kernel
theorem dX9_greatest_74 : decode cX9_greatest 74 = .ok (.invokevirtual 221, 3) := by decide +kernel
theorem dX9_greatest_77 : decode cX9_greatest 77 = .ok (.iload_n 3, 1) := by decide +kernel
theorem dX9_greatest_78 : decode cX9_greatest 78 = .ok (.if_icmp .le 11, 3) := by decide +kernel
theorem dX9_greatest_81 : decode cX9_greatest 81 = .ok (.aload_n 0, 1) := by decide +kernel
theorem dX9_greatest_82 : decode cX9_greatest 82 = .ok (.iload_n 1, 1) := by decide +kernel
theorem dX9_greatest_83 : decode cX9_greatest 83 = .ok (.invokevirtual 221, 3) := by decide +kernel
theorem dX9_greatest_86 : decode cX9_greatest 86 = .ok (.goto 4, 3) := by decide +kernel
theorem dX9_greatest_89 : decode cX9_greatest 89 = .ok (.iload_n 3, 1) := by decide +kernel
theorem dX9_greatest_90 : decode cX9_greatest 90 = .ok (.istore_n 3, 1) := by decide +kernel
theorem dX9_greatest_91 : decode cX9_greatest 91 = .ok (.iinc 4 1, 3) := by decide +kernel
theorem dX9_greatest_94 : decode cX9_greatest 94 = .ok (.goto (-74), 3) := by decide +kernel
theorem dX9_greatest_97 : decode cX9_greatest 97 = .ok (.iload_n 3, 1) := by decide +kernel
theorem dX9_greatest_98 : decode cX9_greatest 98 = .ok (.ireturn, 1) := by decide +kernel
set_option maxRecDepth 20000 in
theorem ggX9_merit_X9_in : GoodIn wsX9_merit wsX9_in := goodIn_r _ [5] (by decide +kernel) (by decide +kernel)
set_option maxRecDepth 20000 in
theorem gX9_merit_X9_in : GoodIn wsX9_merit (va_wsS RX9 83 yX9_in wsX9_in) := goodIn_app (goodIn_of _ (by decide +kernel)) ggX9_merit_X9_in
set_option maxRecDepth 20000 in
theorem ggX9_merit_X9_bad : GoodIn wsX9_merit wsX9_bad := goodIn_r _ [9, 10, 99, 100, 101, 102, 103, 104, 105, 106, 107, 108, 109, 110, 111, 112, 113, 114, 115, 116, 117, 118, 119, 120, 121, 122, 123, 124, 125] (by decide +kernel) (by decide +kernel)
set_option maxRecDepth 20000 in
theorem gX9_merit_X9_bad : GoodIn wsX9_merit (wsV RX9 90 RX9 yX9_bad wsX9_bad) := goodIn_app (goodIn_of _ (by decide +kernel)) ggX9_merit_X9_bad
set_option maxRecDepth 20000 in
theorem ggX9_merit_X9_isFew : GoodIn wsX9_merit wsX9_isFew := goodIn_r _ [14, 15, 16, 17, 4, 18, 19, 20, 21, 22, 23, 24, 25, 26, 27, 28, 29, 30, 31, 32, 33, 34, 35, 36, 37, 38, 39, 40, 99, 100, 101, 102, 103, 104, 105, 106, 107, 108, 109, 110, 111, 112, 113, 114, 115, 116, 117, 118, 119, 120, 121, 122, 123, 124, 125] (by decide +kernel) (by decide +kernel)
set_option maxRecDepth 20000 in
theorem gX9_merit_X9_isFew : GoodIn wsX9_merit (wsV RX9 188 RX9 yX9_isFew wsX9_isFew) := goodIn_app (goodIn_of _ (by decide +kernel)) ggX9_merit_X9_isFew
set_option maxRecDepth 20000 in
theorem ggX9_merit_X9_no : GoodIn wsX9_merit wsX9_no := goodIn_r _ [44, 10, 99, 100, 101, 102, 103, 104, 105, 106, 107, 108, 109, 110, 111, 112, 113, 114, 115, 116, 117, 118, 119, 120, 121, 122, 123, 124, 125] (by decide +kernel) (by decide +kernel)
set_option maxRecDepth 20000 in
theorem gX9_merit_X9_no : GoodIn wsX9_merit (wsV RX9 192 RX9 yX9_no wsX9_no) := goodIn_app (goodIn_of _ (by decide +kernel)) ggX9_merit_X9_no
set_option maxRecDepth 20000 in
theorem ggX9_merit_X9_theWord : GoodIn wsX9_merit wsX9_theWord := goodIn_r _ [48, 24, 99, 100, 101, 102, 103, 104, 105, 106, 107, 108, 109, 110, 111, 112, 113, 114, 115, 116, 117, 118, 119, 120, 121, 122, 123, 124, 125] (by decide +kernel) (by decide +kernel)
set_option maxRecDepth 20000 in
theorem gX9_merit_X9_theWord : GoodIn wsX9_merit (wsV RX9 116 RX9 yX9_theWord wsX9_theWord) := goodIn_app (goodIn_of _ (by decide +kernel)) ggX9_merit_X9_theWord
set_option maxRecDepth 20000 in
theorem ggX9_merit_X9_meritOf : GoodIn wsX9_merit wsX9_meritOf := goodIn_r _ [52, 30, 31, 32, 4, 33, 34, 35, 36, 37, 24, 53, 54, 55, 56, 57, 58, 59, 99, 100, 101, 102, 103, 104, 105, 106, 107, 108, 109, 110, 111, 112, 113, 114, 115, 116, 117, 118, 119, 120, 121, 122, 123, 124, 125] (by decide +kernel) (by decide +kernel)
set_option maxRecDepth 20000 in
theorem gX9_merit_X9_meritOf : GoodIn wsX9_merit (wsV RX9 221 RX9 yX9_meritOf wsX9_meritOf) := goodIn_app (goodIn_of _ (by decide +kernel)) ggX9_merit_X9_meritOf
set_option maxRecDepth 20000 in
theorem ggX9_merit_X9_halvesOf : GoodIn wsX9_merit wsX9_halvesOf := goodIn_r _ [63, 64, 65, 66, 67, 68, 20, 21, 22, 4, 23, 24, 34, 35, 36, 37, 69, 70, 71, 72, 30, 31, 32, 33, 56, 57, 58, 59, 73, 74, 75, 76, 77, 78, 79, 80, 81, 82, 83, 84, 85, 53, 54, 55, 99, 100, 101, 102, 103, 104, 105, 106, 107, 108, 109, 110, 111, 112, 113, 114, 115, 116, 117, 118, 119, 120, 121, 122, 123, 124, 125] (by decide +kernel) (by decide +kernel)
set_option maxRecDepth 20000 in
theorem gX9_merit_X9_halvesOf : GoodIn wsX9_merit (wsV RX9 218 RX9 yX9_halvesOf wsX9_halvesOf) := goodIn_app (goodIn_of _ (by decide +kernel)) ggX9_merit_X9_halvesOf
set_option maxRecDepth 20000 in
theorem ggX9_merit_X9_greatest : GoodIn wsX9_merit wsX9_greatest := goodIn_r _ [89, 90, 15, 16, 17, 4, 18, 19, 20, 21, 22, 23, 24, 25, 26, 27, 28, 29, 30, 31, 32, 33, 34, 35, 36, 37, 38, 39, 40, 91, 92, 93, 94, 95, 96, 97, 98, 49, 50, 51, 52, 53, 54, 55, 56, 57, 58, 59, 99, 100, 101, 102, 103, 104, 105, 106, 107, 108, 109, 110, 111, 112, 113, 114, 115, 116, 117, 118, 119, 120, 121, 122, 123, 124, 125] (by decide +kernel) (by decide +kernel)
set_option maxRecDepth 20000 in
theorem gX9_merit_X9_greatest : GoodIn wsX9_merit (wsV RX9 224 RX9 yX9_greatest wsX9_greatest) := goodIn_app (goodIn_of _ (by decide +kernel)) ggX9_merit_X9_greatest
theorem dX9_merit_0 : decode cX9_merit 0 = .ok (.iload_n 1, 1) := by decide +kernel
theorem dX9_merit_1 : decode cX9_merit 1 = .ok (.i2l, 1) := by decide +kernel
theorem dX9_merit_2 : decode cX9_merit 2 = .ok (.lconst 0, 1) := by decide +kernel
theorem dX9_merit_3 : decode cX9_merit 3 = .ok (.ldc2_w 171, 3) := by decide +kernel
theorem dX9_merit_6 : decode cX9_merit 6 = .ok (.invokestatic 83, 3) := by decide +kernel
theorem dX9_merit_9 : decode cX9_merit 9 = .ok (.ifCond .ne 10, 3) := by decide +kernel
theorem dX9_merit_12 : decode cX9_merit 12 = .ok (.aload_n 0, 1) := by decide +kernel
theorem dX9_merit_13 : decode cX9_merit 13 = .ok (.bipush (-2), 2) := by decide +kernel
theorem dX9_merit_15 : decode cX9_merit 15 = .ok (.invokevirtual 90, 3) := by decide +kernel
theorem dX9_merit_18 : decode cX9_merit 18 = .ok (.ireturn, 1) := by decide +kernel
theorem dX9_merit_19 : decode cX9_merit 19 = .ok (.iload_n 1, 1) := by decide +kernel
theorem dX9_merit_20 : decode cX9_merit 20 = .ok (.iconst 2, 1) := by decide +kernel
theorem dX9_merit_21 : decode cX9_merit 21 = .ok (.if_icmp .ne 17, 3) := by decide +kernel
theorem dX9_merit_24 : decode cX9_merit 24 = .ok (.aload_n 0, 1) := by decide +kernel
theorem dX9_merit_25 : decode cX9_merit 25 = .ok (.invokevirtual 188, 3) := by decide +kernel
theorem dX9_merit_28 : decode cX9_merit 28 = .ok (.ifCond .ne 10, 3) := by decide +kernel
theorem dX9_merit_31 : decode cX9_merit 31 = .ok (.aload_n 0, 1) := by decide +kernel
theorem dX9_merit_32 : decode cX9_merit 32 = .ok (.bipush (-3), 2) := by decide +kernel
theorem dX9_merit_34 : decode cX9_merit 34 = .ok (.invokevirtual 192, 3) := by decide +kernel
theorem dX9_merit_37 : decode cX9_merit 37 = .ok (.ireturn, 1) := by decide +kernel
theorem dX9_merit_38 : decode cX9_merit 38 = .ok (.iload_n 1, 1) := by decide +kernel
theorem dX9_merit_39 : decode cX9_merit 39 = .ok (.ifCond .ne 14, 3) := by decide +kernel
theorem dX9_merit_42 : decode cX9_merit 42 = .ok (.aload_n 0, 1) := by decide +kernel
theorem dX9_merit_43 : decode cX9_merit 43 = .ok (.aload_n 0, 1) := by decide +kernel
theorem dX9_merit_44 : decode cX9_merit 44 = .ok (.invokevirtual 116, 3) := by decide +kernel
theorem dX9_merit_47 : decode cX9_merit 47 = .ok (.invokevirtual 221, 3) := by decide +kernel
theorem dX9_merit_50 : decode cX9_merit 50 = .ok (.goto 23, 3) := by decide +kernel
theorem dX9_merit_53 : decode cX9_merit 53 = .ok (.iload_n 1, 1) := by decide +kernel
theorem dX9_merit_54 : decode cX9_merit 54 = .ok (.iconst 1, 1) := by decide +kernel
theorem dX9_merit_55 : decode cX9_merit 55 = .ok (.if_icmp .ne 14, 3) := by decide +kernel
theorem dX9_merit_58 : decode cX9_merit 58 = .ok (.aload_n 0, 1) := by decide +kernel
theorem dX9_merit_59 : decode cX9_merit 59 = .ok (.aload_n 0, 1) := by decide +kernel
theorem dX9_merit_60 : decode cX9_merit 60 = .ok (.invokevirtual 218, 3) := by decide +kernel
theorem dX9_merit_63 : decode cX9_merit 63 = .ok (.invokevirtual 221, 3) := by decide +kernel
theorem dX9_merit_66 : decode cX9_merit 66 = .ok (.goto 7, 3) := by decide +kernel
theorem dX9_merit_69 : decode cX9_merit 69 = .ok (.aload_n 0, 1) := by decide +kernel
theorem dX9_merit_70 : decode cX9_merit 70 = .ok (.invokevirtual 224, 3) := by decide +kernel
theorem dX9_merit_73 : decode cX9_merit 73 = .ok (.ireturn, 1) := by decide +kernel
set_option maxRecDepth 20000 in
theorem ggX9_weights_X9_in : GoodIn wsX9_weights wsX9_in := goodIn_r _ [6] (by decide +kernel) (by decide +kernel)
set_option maxRecDepth 20000 in
theorem gX9_weights_X9_in : GoodIn wsX9_weights (va_wsS RX9 83 yX9_in wsX9_in) := goodIn_app (goodIn_of _ (by decide +kernel)) ggX9_weights_X9_in
set_option maxRecDepth 20000 in
theorem ggX9_weights_X9_bad : GoodIn wsX9_weights wsX9_bad := goodIn_r _ [10, 11, 57, 58, 59, 60, 61, 62, 63, 64, 65, 66, 67, 68, 69, 70, 71, 72, 73, 74, 75, 76, 77, 78, 79, 80, 81, 82, 83] (by decide +kernel) (by decide +kernel)
set_option maxRecDepth 20000 in
theorem gX9_weights_X9_bad : GoodIn wsX9_weights (wsV RX9 90 RX9 yX9_bad wsX9_bad) := goodIn_app (goodIn_of _ (by decide +kernel)) ggX9_weights_X9_bad
set_option maxRecDepth 20000 in
theorem ggX9_weights_X9_isFew : GoodIn wsX9_weights wsX9_isFew := goodIn_r _ [15, 16, 17, 18, 5, 19, 20, 21, 22, 23, 24, 25, 26, 27, 28, 29, 30, 31, 32, 33, 34, 35, 36, 37, 38, 39, 40, 41, 57, 58, 59, 60, 61, 62, 63, 64, 65, 66, 67, 68, 69, 70, 71, 72, 73, 74, 75, 76, 77, 78, 79, 80, 81, 82, 83] (by decide +kernel) (by decide +kernel)
set_option maxRecDepth 20000 in
theorem gX9_weights_X9_isFew : GoodIn wsX9_weights (wsV RX9 188 RX9 yX9_isFew wsX9_isFew) := goodIn_app (goodIn_of _ (by decide +kernel)) ggX9_weights_X9_isFew
set_option maxRecDepth 20000 in
theorem ggX9_weights_X9_no : GoodIn wsX9_weights wsX9_no := goodIn_r _ [45, 11, 57, 58, 59, 60, 61, 62, 63, 64, 65, 66, 67, 68, 69, 70, 71, 72, 73, 74, 75, 76, 77, 78, 79, 80, 81, 82, 83] (by decide +kernel) (by decide +kernel)
set_option maxRecDepth 20000 in
theorem gX9_weights_X9_no : GoodIn wsX9_weights (wsV RX9 192 RX9 yX9_no wsX9_no) := goodIn_app (goodIn_of _ (by decide +kernel)) ggX9_weights_X9_no
set_option maxRecDepth 20000 in
theorem ggX9_weights_X9_many : GoodIn wsX9_weights wsX9_many := goodIn_r _ [19, 20, 21, 22, 23, 5, 24, 25, 26, 27, 28, 29, 30, 31, 32, 33, 34, 35, 36, 37, 38, 39, 40, 41, 57, 58, 59, 60, 61, 62, 63, 64, 65, 66, 67, 68, 69, 70, 71, 72, 73, 74, 75, 76, 77, 78, 79, 80, 81, 82, 83] (by decide +kernel) (by decide +kernel)
set_option maxRecDepth 20000 in
theorem gX9_weights_X9_many : GoodIn wsX9_weights (wsV RX9 100 RX9 yX9_many wsX9_many) := goodIn_app (goodIn_of _ (by decide +kernel)) ggX9_weights_X9_many
set_option maxRecDepth 20000 in
theorem ggX9_weights_X9_laysBasis : GoodIn wsX9_weights wsX9_laysBasis := goodIn_r _ [49, 2, 30, 16, 17, 18, 5, 19, 20, 21, 22, 23, 24, 25, 26, 27, 28, 29, 31, 32, 33, 34, 35, 36, 37, 38, 39, 40, 41, 50, 51, 52, 53, 57, 58, 59, 60, 61, 62, 63, 64, 65, 66, 67, 68, 69, 70, 71, 72, 73, 74, 75, 76, 77, 78, 79, 80, 81, 82, 83] (by decide +kernel) (by decide +kernel)
set_option maxRecDepth 20000 in
theorem gX9_weights_X9_laysBasis : GoodIn wsX9_weights (wsV RX9 176 RX9 yX9_laysBasis wsX9_laysBasis) := goodIn_app (goodIn_of _ (by decide +kernel)) ggX9_weights_X9_laysBasis
set_option maxRecDepth 20000 in
theorem ggX9_weights_X9_has : GoodIn wsX9_weights wsX9_has := goodIn_r _ [56] (by decide +kernel) (by decide +kernel)
set_option maxRecDepth 20000 in
theorem gX9_weights_X9_has : GoodIn wsX9_weights (va_wsS RX9 74 yX9_has wsX9_has) := goodIn_app (goodIn_of _ (by decide +kernel)) ggX9_weights_X9_has
set_option maxRecDepth 20000 in
theorem ggX9_weights_X9_bits : GoodIn wsX9_weights wsX9_bits := goodIn_r _ [41] (by decide +kernel) (by decide +kernel)
set_option maxRecDepth 20000 in
theorem gX9_weights_X9_bits : GoodIn wsX9_weights (va_wsS RX9 63 yX9_bits wsX9_bits) := goodIn_app (goodIn_of _ (by decide +kernel)) ggX9_weights_X9_bits
theorem dX9_weights_0 : decode cX9_weights 0 = .ok (.iload_n 1, 1) := by decide +kernel
theorem dX9_weights_1 : decode cX9_weights 1 = .ok (.i2l, 1) := by decide +kernel
theorem dX9_weights_2 : decode cX9_weights 2 = .ok (.lconst 0, 1) := by decide +kernel
theorem dX9_weights_3 : decode cX9_weights 3 = .ok (.ldc2_w 227, 3) := by decide +kernel
theorem dX9_weights_6 : decode cX9_weights 6 = .ok (.invokestatic 83, 3) := by decide +kernel
theorem dX9_weights_9 : decode cX9_weights 9 = .ok (.ifCond .ne 10, 3) := by decide +kernel
theorem dX9_weights_12 : decode cX9_weights 12 = .ok (.aload_n 0, 1) := by decide +kernel
theorem dX9_weights_13 : decode cX9_weights 13 = .ok (.bipush (-2), 2) := by decide +kernel
theorem dX9_weights_15 : decode cX9_weights 15 = .ok (.invokevirtual 90, 3) := by decide +kernel
theorem dX9_weights_18 : decode cX9_weights 18 = .ok (.ireturn, 1) := by decide +kernel
theorem dX9_weights_19 : decode cX9_weights 19 = .ok (.aload_n 0, 1) := by decide +kernel
theorem dX9_weights_20 : decode cX9_weights 20 = .ok (.invokevirtual 188, 3) := by decide +kernel
theorem dX9_weights_23 : decode cX9_weights 23 = .ok (.ifCond .ne 10, 3) := by decide +kernel
theorem dX9_weights_26 : decode cX9_weights 26 = .ok (.aload_n 0, 1) := by decide +kernel
theorem dX9_weights_27 : decode cX9_weights 27 = .ok (.bipush (-3), 2) := by decide +kernel
theorem dX9_weights_29 : decode cX9_weights 29 = .ok (.invokevirtual 192, 3) := by decide +kernel
theorem dX9_weights_32 : decode cX9_weights 32 = .ok (.ireturn, 1) := by decide +kernel
theorem dX9_weights_33 : decode cX9_weights 33 = .ok (.iconst 0, 1) := by decide +kernel
theorem dX9_weights_34 : decode cX9_weights 34 = .ok (.istore_n 2, 1) := by decide +kernel
theorem dX9_weights_35 : decode cX9_weights 35 = .ok (.aload_n 0, 1) := by decide +kernel
theorem dX9_weights_36 : decode cX9_weights 36 = .ok (.invokevirtual 100, 3) := by decide +kernel
theorem dX9_weights_39 : decode cX9_weights 39 = .ok (.istore_n 3, 1) := by decide +kernel
theorem dX9_weights_40 : decode cX9_weights 40 = .ok (.iload_n 1, 1) := by decide +kernel
theorem dX9_weights_41 : decode cX9_weights 41 = .ok (.ifCond .ne 7, 3) := by decide +kernel
theorem dX9_weights_44 : decode cX9_weights 44 = .ok (.iconst 1, 1) := by decide +kernel
theorem dX9_weights_45 : decode cX9_weights 45 = .ok (.goto 4, 3) := by decide +kernel
theorem dX9_weights_48 : decode cX9_weights 48 = .ok (.iconst 0, 1) := by decide +kernel
theorem dX9_weights_49 : decode cX9_weights 49 = .ok (.istore 4, 2) := by decide +kernel
theorem dX9_weights_51 : decode cX9_weights 51 = .ok (.aload_n 0, 1) := by decide +kernel
theorem dX9_weights_52 : decode cX9_weights 52 = .ok (.invokevirtual 176, 3) := by decide +kernel
theorem dX9_weights_55 : decode cX9_weights 55 = .ok (.iconst 1, 1) := by decide +kernel
theorem dX9_weights_56 : decode cX9_weights 56 = .ok (.istore 5, 2) := by decide +kernel
theorem dX9_weights_58 : decode cX9_weights 58 = .ok (.iload 5, 2) := by decide +kernel
theorem dX9_weights_60 : decode cX9_weights 60 = .ok (.iconst 1, 1) := by decide +kernel
theorem dX9_weights_61 : decode cX9_weights 61 = .ok (.iload_n 3, 1) := by decide +kernel
theorem dX9_weights_62 : decode cX9_weights 62 = .ok (.ishl, 1) := by decide +kernel
theorem dX9_weights_63 : decode cX9_weights 63 = .ok (.if_icmp .ge 71, 3) := by decide +kernel
theorem dX9_weights_66 : decode cX9_weights 66 = .ok (.iload 5, 2) := by decide +kernel
theorem dX9_weights_68 : decode cX9_weights 68 = .ok (.iload 5, 2) := by decide +kernel
theorem dX9_weights_70 : decode cX9_weights 70 = .ok (.iconst 1, 1) := by decide +kernel
theorem dX9_weights_71 : decode cX9_weights 71 = .ok (.isub, 1) := by decide +kernel
theorem dX9_weights_72 : decode cX9_weights 72 = .ok (.ixor, 1) := by decide +kernel
theorem dX9_weights_73 : decode cX9_weights 73 = .ok (.istore 6, 2) := by decide +kernel
theorem dX9_weights_75 : decode cX9_weights 75 = .ok (.iconst 0, 1) := by decide +kernel
theorem dX9_weights_76 : decode cX9_weights 76 = .ok (.istore 7, 2) := by decide +kernel
theorem dX9_weights_78 : decode cX9_weights 78 = .ok (.iload 7, 2) := by decide +kernel
theorem dX9_weights_80 : decode cX9_weights 80 = .ok (.iload_n 3, 1) := by decide +kernel
theorem dX9_weights_81 : decode cX9_weights 81 = .ok (.if_icmp .ge 29, 3) := by decide +kernel
theorem dX9_weights_84 : decode cX9_weights 84 = .ok (.iload 6, 2) := by decide +kernel
theorem dX9_weights_86 : decode cX9_weights 86 = .ok (.iload 7, 2) := by decide +kernel
theorem dX9_weights_88 : decode cX9_weights 88 = .ok (.invokestatic 74, 3) := by decide +kernel
theorem dX9_weights_91 : decode cX9_weights 91 = .ok (.ifCond .eq 19, 3) := by decide +kernel
theorem dX9_weights_94 : decode cX9_weights 94 = .ok (.iload_n 2, 1) := by decide +kernel
theorem dX9_weights_95 : decode cX9_weights 95 = .ok (.aload_n 0, 1) := by decide +kernel
theorem dX9_weights_96 : decode cX9_weights 96 = .ok (.getfield 22, 3) := by decide +kernel
theorem dX9_weights_99 : decode cX9_weights 99 = .ok (.iload 7, 2) := by decide +kernel
theorem dX9_weights_101 : decode cX9_weights 101 = .ok (.iaload, 1) := by decide +kernel
theorem dX9_weights_102 : decode cX9_weights 102 = .ok (.ixor, 1) := by decide +kernel
theorem dX9_weights_103 : decode cX9_weights 103 = .ok (.istore_n 2, 1) := by decide +kernel
theorem dX9_weights_104 : decode cX9_weights 104 = .ok (.iinc 7 1, 3) := by decide +kernel
theorem dX9_weights_107 : decode cX9_weights 107 = .ok (.goto (-29), 3) := by decide +kernel
theorem dX9_weights_110 : decode cX9_weights 110 = .ok (.iload 4, 2) := by decide +kernel
theorem dX9_weights_112 : decode cX9_weights 112 = .ok (.iload_n 2, 1) := by decide +kernel
theorem dX9_weights_113 : decode cX9_weights 113 = .ok (.invokestatic 63, 3) := by decide +kernel
theorem dX9_weights_116 : decode cX9_weights 116 = .ok (.iload_n 1, 1) := by decide +kernel
theorem dX9_weights_117 : decode cX9_weights 117 = .ok (.if_icmp .ne 7, 3) := by decide +kernel
theorem dX9_weights_120 : decode cX9_weights 120 = .ok (.iconst 1, 1) := by decide +kernel
theorem dX9_weights_121 : decode cX9_weights 121 = .ok (.goto 4, 3) := by decide +kernel
theorem dX9_weights_124 : decode cX9_weights 124 = .ok (.iconst 0, 1) := by decide +kernel
theorem dX9_weights_125 : decode cX9_weights 125 = .ok (.iadd, 1) := by decide +kernel
theorem dX9_weights_126 : decode cX9_weights 126 = .ok (.istore 4, 2) := by decide +kernel
theorem dX9_weights_128 : decode cX9_weights 128 = .ok (.iinc 5 1, 3) := by decide +kernel
theorem dX9_weights_131 : decode cX9_weights 131 = .ok (.goto (-73), 3) := by decide +kernel
theorem dX9_weights_134 : decode cX9_weights 134 = .ok (.iload 4, 2) := by decide +kernel
theorem dX9_weights_136 : decode cX9_weights 136 = .ok (.ireturn, 1) := by decide +kernel
set_option maxRecDepth 20000 in
theorem ggX9_perpendicular_X9_many : GoodIn wsX9_perpendicular wsX9_many := goodIn_r _ [6, 7, 8, 9, 10, 5, 11, 12, 13, 14, 15, 16, 1, 17, 18, 19, 20, 21, 22, 23, 24, 25, 26, 27, 36, 37, 38, 39, 40, 41, 42, 43, 44, 45, 46, 47, 48, 49, 50, 51, 52, 53, 54, 55, 56, 57, 58, 59, 60, 61, 62] (by decide +kernel) (by decide +kernel)
set_option maxRecDepth 20000 in
theorem gX9_perpendicular_X9_many : GoodIn wsX9_perpendicular (wsV RX9 100 RX9 yX9_many wsX9_many) := goodIn_app (goodIn_of _ (by decide +kernel)) ggX9_perpendicular_X9_many
set_option maxRecDepth 20000 in
theorem ggX9_perpendicular_X9_theWord : GoodIn wsX9_perpendicular wsX9_theWord := goodIn_r _ [31, 12, 36, 37, 38, 39, 40, 41, 42, 43, 44, 45, 46, 47, 48, 49, 50, 51, 52, 53, 54, 55, 56, 57, 58, 59, 60, 61, 62] (by decide +kernel) (by decide +kernel)
set_option maxRecDepth 20000 in
theorem gX9_perpendicular_X9_theWord : GoodIn wsX9_perpendicular (wsV RX9 116 RX9 yX9_theWord wsX9_theWord) := goodIn_app (goodIn_of _ (by decide +kernel)) ggX9_perpendicular_X9_theWord
set_option maxRecDepth 20000 in
theorem ggX9_perpendicular_X9_wordOf : GoodIn wsX9_perpendicular wsX9_wordOf := goodIn_r _ [35, 17, 18, 19, 5, 20, 21, 22, 23, 24, 12, 36, 37, 38, 39, 40, 41, 42, 43, 44, 45, 46, 47, 48, 49, 50, 51, 52, 53, 54, 55, 56, 57, 58, 59, 60, 61, 62] (by decide +kernel) (by decide +kernel)
set_option maxRecDepth 20000 in
theorem gX9_perpendicular_X9_wordOf : GoodIn wsX9_perpendicular (wsV RX9 78 RX9 yX9_wordOf wsX9_wordOf) := goodIn_app (goodIn_of _ (by decide +kernel)) ggX9_perpendicular_X9_wordOf
set_option maxRecDepth 20000 in
theorem ggX9_perpendicular_X9_bits : GoodIn wsX9_perpendicular wsX9_bits := goodIn_r _ [27] (by decide +kernel) (by decide +kernel)
set_option maxRecDepth 20000 in
theorem gX9_perpendicular_X9_bits : GoodIn wsX9_perpendicular (va_wsS RX9 63 yX9_bits wsX9_bits) := goodIn_app (goodIn_of _ (by decide +kernel)) ggX9_perpendicular_X9_bits
theorem dX9_perpendicular_0 : decode cX9_perpendicular 0 = .ok (.aload_n 0, 1) := by decide +kernel
theorem dX9_perpendicular_1 : decode cX9_perpendicular 1 = .ok (.invokevirtual 100, 3) := by decide +kernel
theorem dX9_perpendicular_4 : decode cX9_perpendicular 4 = .ok (.istore_n 1, 1) := by decide +kernel
theorem dX9_perpendicular_5 : decode cX9_perpendicular 5 = .ok (.iconst 1, 1) := by decide +kernel
theorem dX9_perpendicular_6 : decode cX9_perpendicular 6 = .ok (.istore_n 2, 1) := by decide +kernel
theorem dX9_perpendicular_7 : decode cX9_perpendicular 7 = .ok (.iconst 0, 1) := by decide +kernel
theorem dX9_perpendicular_8 : decode cX9_perpendicular 8 = .ok (.istore_n 3, 1) := by decide +kernel
theorem dX9_perpendicular_9 : decode cX9_perpendicular 9 = .ok (.iload_n 3, 1) := by decide +kernel
theorem dX9_perpendicular_10 : decode cX9_perpendicular 10 = .ok (.iload_n 1, 1) := by decide +kernel
theorem dX9_perpendicular_11 : decode cX9_perpendicular 11 = .ok (.if_icmp .ge 39, 3) := by decide +kernel
theorem dX9_perpendicular_14 : decode cX9_perpendicular 14 = .ok (.aload_n 0, 1) := by decide +kernel
theorem dX9_perpendicular_15 : decode cX9_perpendicular 15 = .ok (.invokevirtual 116, 3) := by decide +kernel
theorem dX9_perpendicular_18 : decode cX9_perpendicular 18 = .ok (.aload_n 0, 1) := by decide +kernel
theorem dX9_perpendicular_19 : decode cX9_perpendicular 19 = .ok (.aload_n 0, 1) := by decide +kernel
theorem dX9_perpendicular_20 : decode cX9_perpendicular 20 = .ok (.getfield 19, 3) := by decide +kernel
theorem dX9_perpendicular_23 : decode cX9_perpendicular 23 = .ok (.iload_n 3, 1) := by decide +kernel
theorem dX9_perpendicular_24 : decode cX9_perpendicular 24 = .ok (.iaload, 1) := by decide +kernel
theorem dX9_perpendicular_25 : decode cX9_perpendicular 25 = .ok (.invokevirtual 78, 3) := by decide +kernel
theorem dX9_perpendicular_28 : decode cX9_perpendicular 28 = .ok (.iand, 1) := by decide +kernel
theorem dX9_perpendicular_29 : decode cX9_perpendicular 29 = .ok (.invokestatic 63, 3) := by decide +kernel
theorem dX9_perpendicular_32 : decode cX9_perpendicular 32 = .ok (.iconst 1, 1) := by decide +kernel
theorem dX9_perpendicular_33 : decode cX9_perpendicular 33 = .ok (.iand, 1) := by decide +kernel
theorem dX9_perpendicular_34 : decode cX9_perpendicular 34 = .ok (.iconst 1, 1) := by decide +kernel
theorem dX9_perpendicular_35 : decode cX9_perpendicular 35 = .ok (.if_icmp .ne 7, 3) := by decide +kernel
theorem dX9_perpendicular_38 : decode cX9_perpendicular 38 = .ok (.iconst 0, 1) := by decide +kernel
theorem dX9_perpendicular_39 : decode cX9_perpendicular 39 = .ok (.goto 4, 3) := by decide +kernel
theorem dX9_perpendicular_42 : decode cX9_perpendicular 42 = .ok (.iload_n 2, 1) := by decide +kernel
theorem dX9_perpendicular_43 : decode cX9_perpendicular 43 = .ok (.istore_n 2, 1) := by decide +kernel
theorem dX9_perpendicular_44 : decode cX9_perpendicular 44 = .ok (.iinc 3 1, 3) := by decide +kernel
theorem dX9_perpendicular_47 : decode cX9_perpendicular 47 = .ok (.goto (-38), 3) := by decide +kernel
theorem dX9_perpendicular_50 : decode cX9_perpendicular 50 = .ok (.iload_n 2, 1) := by decide +kernel
theorem dX9_perpendicular_51 : decode cX9_perpendicular 51 = .ok (.ireturn, 1) := by decide +kernel
set_option maxRecDepth 20000 in
theorem ggX9_around_X9_places : GoodIn wsX9_around wsX9_places := goodIn_r _ [5, 6, 7, 8, 4, 9, 10, 15, 16, 17, 18, 19, 20, 21, 22, 23, 24, 25, 26, 27, 28, 29, 30, 31, 32, 33, 34, 35, 36, 37, 38, 39, 40, 41] (by decide +kernel) (by decide +kernel)
set_option maxRecDepth 20000 in
theorem gX9_around_X9_places : GoodIn wsX9_around (wsV RX9 60 RX9 yX9_places wsX9_places) := goodIn_app (goodIn_of _ (by decide +kernel)) ggX9_around_X9_places
set_option maxRecDepth 20000 in
theorem ggX9_around_X9_theWord : GoodIn wsX9_around wsX9_theWord := goodIn_r _ [14, 10, 15, 16, 17, 18, 19, 20, 21, 22, 23, 24, 25, 26, 27, 28, 29, 30, 31, 32, 33, 34, 35, 36, 37, 38, 39, 40, 41] (by decide +kernel) (by decide +kernel)
set_option maxRecDepth 20000 in
theorem gX9_around_X9_theWord : GoodIn wsX9_around (wsV RX9 116 RX9 yX9_theWord wsX9_theWord) := goodIn_app (goodIn_of _ (by decide +kernel)) ggX9_around_X9_theWord
theorem dX9_around_0 : decode cX9_around 0 = .ok (.iconst 0, 1) := by decide +kernel
theorem dX9_around_1 : decode cX9_around 1 = .ok (.istore_n 3, 1) := by decide +kernel
theorem dX9_around_2 : decode cX9_around 2 = .ok (.iconst 0, 1) := by decide +kernel
theorem dX9_around_3 : decode cX9_around 3 = .ok (.istore 4, 2) := by decide +kernel
theorem dX9_around_5 : decode cX9_around 5 = .ok (.iload 4, 2) := by decide +kernel
theorem dX9_around_7 : decode cX9_around 7 = .ok (.aload_n 0, 1) := by decide +kernel
theorem dX9_around_8 : decode cX9_around 8 = .ok (.invokevirtual 60, 3) := by decide +kernel
theorem dX9_around_11 : decode cX9_around 11 = .ok (.if_icmp .ge 45, 3) := by decide +kernel
theorem dX9_around_14 : decode cX9_around 14 = .ok (.iload 4, 2) := by decide +kernel
theorem dX9_around_16 : decode cX9_around 16 = .ok (.iload_n 1, 1) := by decide +kernel
theorem dX9_around_17 : decode cX9_around 17 = .ok (.ixor, 1) := by decide +kernel
theorem dX9_around_18 : decode cX9_around 18 = .ok (.istore 5, 2) := by decide +kernel
theorem dX9_around_20 : decode cX9_around 20 = .ok (.iload_n 3, 1) := by decide +kernel
theorem dX9_around_21 : decode cX9_around 21 = .ok (.iload 5, 2) := by decide +kernel
theorem dX9_around_23 : decode cX9_around 23 = .ok (.ifCond .eq 24, 3) := by decide +kernel
theorem dX9_around_26 : decode cX9_around 26 = .ok (.iload 5, 2) := by decide +kernel
theorem dX9_around_28 : decode cX9_around 28 = .ok (.iload_n 2, 1) := by decide +kernel
theorem dX9_around_29 : decode cX9_around 29 = .ok (.iconst (-1), 1) := by decide +kernel
theorem dX9_around_30 : decode cX9_around 30 = .ok (.ixor, 1) := by decide +kernel
theorem dX9_around_31 : decode cX9_around 31 = .ok (.iand, 1) := by decide +kernel
theorem dX9_around_32 : decode cX9_around 32 = .ok (.ifCond .ne 15, 3) := by decide +kernel
theorem dX9_around_35 : decode cX9_around 35 = .ok (.aload_n 0, 1) := by decide +kernel
theorem dX9_around_36 : decode cX9_around 36 = .ok (.invokevirtual 116, 3) := by decide +kernel
theorem dX9_around_39 : decode cX9_around 39 = .ok (.iload 4, 2) := by decide +kernel
theorem dX9_around_41 : decode cX9_around 41 = .ok (.ishr, 1) := by decide +kernel
theorem dX9_around_42 : decode cX9_around 42 = .ok (.iconst 1, 1) := by decide +kernel
theorem dX9_around_43 : decode cX9_around 43 = .ok (.iand, 1) := by decide +kernel
theorem dX9_around_44 : decode cX9_around 44 = .ok (.goto 4, 3) := by decide +kernel
theorem dX9_around_47 : decode cX9_around 47 = .ok (.iconst 0, 1) := by decide +kernel
theorem dX9_around_48 : decode cX9_around 48 = .ok (.ixor, 1) := by decide +kernel
theorem dX9_around_49 : decode cX9_around 49 = .ok (.istore_n 3, 1) := by decide +kernel
theorem dX9_around_50 : decode cX9_around 50 = .ok (.iinc 4 1, 3) := by decide +kernel
theorem dX9_around_53 : decode cX9_around 53 = .ok (.goto (-48), 3) := by decide +kernel
theorem dX9_around_56 : decode cX9_around 56 = .ok (.iload_n 3, 1) := by decide +kernel
theorem dX9_around_57 : decode cX9_around 57 = .ok (.ireturn, 1) := by decide +kernel
set_option maxRecDepth 20000 in
theorem ggX9_asked_X9_isPlace : GoodIn wsX9_asked wsX9_isPlace := goodIn_r _ [5, 6, 7, 8, 4, 9, 10, 11, 12, 13, 14, 15, 16, 17, 42, 43, 44, 45, 46, 47, 48, 49, 50, 51, 52, 53, 54, 55, 56, 57, 58, 59, 60, 61, 62, 63, 64, 65, 66, 67, 68] (by decide +kernel) (by decide +kernel)
set_option maxRecDepth 20000 in
theorem gX9_asked_X9_isPlace : GoodIn wsX9_asked (wsV RX9 122 RX9 yX9_isPlace wsX9_isPlace) := goodIn_app (goodIn_of _ (by decide +kernel)) ggX9_asked_X9_isPlace
set_option maxRecDepth 20000 in
theorem ggX9_asked_X9_bad : GoodIn wsX9_asked wsX9_bad := goodIn_r _ [21, 22, 42, 43, 44, 45, 46, 47, 48, 49, 50, 51, 52, 53, 54, 55, 56, 57, 58, 59, 60, 61, 62, 63, 64, 65, 66, 67, 68] (by decide +kernel) (by decide +kernel)
set_option maxRecDepth 20000 in
theorem gX9_asked_X9_bad : GoodIn wsX9_asked (wsV RX9 90 RX9 yX9_bad wsX9_bad) := goodIn_app (goodIn_of _ (by decide +kernel)) ggX9_asked_X9_bad
set_option maxRecDepth 20000 in
theorem ggX9_asked_X9_order : GoodIn wsX9_asked wsX9_order := goodIn_r _ [26, 14, 42, 43, 44, 45, 46, 47, 48, 49, 50, 51, 52, 53, 54, 55, 56, 57, 58, 59, 60, 61, 62, 63, 64, 65, 66, 67, 68] (by decide +kernel) (by decide +kernel)
set_option maxRecDepth 20000 in
theorem gX9_asked_X9_order : GoodIn wsX9_asked (wsV RX9 67 RX9 yX9_order wsX9_order) := goodIn_app (goodIn_of _ (by decide +kernel)) ggX9_asked_X9_order
set_option maxRecDepth 20000 in
theorem ggX9_asked_X9_length : GoodIn wsX9_asked wsX9_length := goodIn_r _ [13, 14, 42, 43, 44, 45, 46, 47, 48, 49, 50, 51, 52, 53, 54, 55, 56, 57, 58, 59, 60, 61, 62, 63, 64, 65, 66, 67, 68] (by decide +kernel) (by decide +kernel)
set_option maxRecDepth 20000 in
theorem gX9_asked_X9_length : GoodIn wsX9_asked (wsV RX9 49 RX9 yX9_length wsX9_length) := goodIn_app (goodIn_of _ (by decide +kernel)) ggX9_asked_X9_length
set_option maxRecDepth 20000 in
theorem ggX9_asked_X9_no : GoodIn wsX9_asked wsX9_no := goodIn_r _ [30, 22, 42, 43, 44, 45, 46, 47, 48, 49, 50, 51, 52, 53, 54, 55, 56, 57, 58, 59, 60, 61, 62, 63, 64, 65, 66, 67, 68] (by decide +kernel) (by decide +kernel)
set_option maxRecDepth 20000 in
theorem gX9_asked_X9_no : GoodIn wsX9_asked (wsV RX9 192 RX9 yX9_no wsX9_no) := goodIn_app (goodIn_of _ (by decide +kernel)) ggX9_asked_X9_no
set_option maxRecDepth 20000 in
theorem ggX9_asked_X9_places : GoodIn wsX9_asked wsX9_places := goodIn_r _ [9, 10, 11, 12, 4, 13, 14, 42, 43, 44, 45, 46, 47, 48, 49, 50, 51, 52, 53, 54, 55, 56, 57, 58, 59, 60, 61, 62, 63, 64, 65, 66, 67, 68] (by decide +kernel) (by decide +kernel)
set_option maxRecDepth 20000 in
theorem gX9_asked_X9_places : GoodIn wsX9_asked (wsV RX9 60 RX9 yX9_places wsX9_places) := goodIn_app (goodIn_of _ (by decide +kernel)) ggX9_asked_X9_places
set_option maxRecDepth 20000 in
theorem ggX9_asked_X9_bits : GoodIn wsX9_asked wsX9_bits := goodIn_r _ [33] (by decide +kernel) (by decide +kernel)
set_option maxRecDepth 20000 in
theorem gX9_asked_X9_bits : GoodIn wsX9_asked (va_wsS RX9 63 yX9_bits wsX9_bits) := goodIn_app (goodIn_of _ (by decide +kernel)) ggX9_asked_X9_bits
set_option maxRecDepth 20000 in
theorem ggX9_asked_X9_around : GoodIn wsX9_asked wsX9_around := goodIn_r _ [37, 6, 7, 8, 4, 9, 10, 11, 12, 13, 14, 38, 39, 40, 41, 42, 43, 44, 45, 46, 47, 48, 49, 50, 51, 52, 53, 54, 55, 56, 57, 58, 59, 60, 61, 62, 63, 64, 65, 66, 67, 68] (by decide +kernel) (by decide +kernel)
set_option maxRecDepth 20000 in
theorem gX9_asked_X9_around : GoodIn wsX9_asked (wsV RX9 229 RX9 yX9_around wsX9_around) := goodIn_app (goodIn_of _ (by decide +kernel)) ggX9_asked_X9_around
theorem dX9_asked_0 : decode cX9_asked 0 = .ok (.aload_n 0, 1) := by decide +kernel
theorem dX9_asked_1 : decode cX9_asked 1 = .ok (.iload_n 1, 1) := by decide +kernel
theorem dX9_asked_2 : decode cX9_asked 2 = .ok (.invokevirtual 122, 3) := by decide +kernel
theorem dX9_asked_5 : decode cX9_asked 5 = .ok (.ifCond .ne 10, 3) := by decide +kernel
theorem dX9_asked_8 : decode cX9_asked 8 = .ok (.aload_n 0, 1) := by decide +kernel
theorem dX9_asked_9 : decode cX9_asked 9 = .ok (.bipush (-2), 2) := by decide +kernel
theorem dX9_asked_11 : decode cX9_asked 11 = .ok (.invokevirtual 90, 3) := by decide +kernel
theorem dX9_asked_14 : decode cX9_asked 14 = .ok (.ireturn, 1) := by decide +kernel
theorem dX9_asked_15 : decode cX9_asked 15 = .ok (.aload_n 0, 1) := by decide +kernel
theorem dX9_asked_16 : decode cX9_asked 16 = .ok (.invokevirtual 67, 3) := by decide +kernel
theorem dX9_asked_19 : decode cX9_asked 19 = .ok (.aload_n 0, 1) := by decide +kernel
theorem dX9_asked_20 : decode cX9_asked 20 = .ok (.invokevirtual 49, 3) := by decide +kernel
theorem dX9_asked_23 : decode cX9_asked 23 = .ok (.if_icmp .ne 10, 3) := by decide +kernel
theorem dX9_asked_26 : decode cX9_asked 26 = .ok (.aload_n 0, 1) := by decide +kernel
theorem dX9_asked_27 : decode cX9_asked 27 = .ok (.bipush (-3), 2) := by decide +kernel
theorem dX9_asked_29 : decode cX9_asked 29 = .ok (.invokevirtual 192, 3) := by decide +kernel
theorem dX9_asked_32 : decode cX9_asked 32 = .ok (.ireturn, 1) := by decide +kernel
theorem dX9_asked_33 : decode cX9_asked 33 = .ok (.iconst 0, 1) := by decide +kernel
theorem dX9_asked_34 : decode cX9_asked 34 = .ok (.istore_n 2, 1) := by decide +kernel
theorem dX9_asked_35 : decode cX9_asked 35 = .ok (.iconst 0, 1) := by decide +kernel
theorem dX9_asked_36 : decode cX9_asked 36 = .ok (.istore_n 3, 1) := by decide +kernel
theorem dX9_asked_37 : decode cX9_asked 37 = .ok (.iload_n 3, 1) := by decide +kernel
theorem dX9_asked_38 : decode cX9_asked 38 = .ok (.aload_n 0, 1) := by decide +kernel
theorem dX9_asked_39 : decode cX9_asked 39 = .ok (.invokevirtual 60, 3) := by decide +kernel
theorem dX9_asked_42 : decode cX9_asked 42 = .ok (.if_icmp .ge 40, 3) := by decide +kernel
theorem dX9_asked_45 : decode cX9_asked 45 = .ok (.iload_n 3, 1) := by decide +kernel
theorem dX9_asked_46 : decode cX9_asked 46 = .ok (.invokestatic 63, 3) := by decide +kernel
theorem dX9_asked_49 : decode cX9_asked 49 = .ok (.aload_n 0, 1) := by decide +kernel
theorem dX9_asked_50 : decode cX9_asked 50 = .ok (.invokevirtual 67, 3) := by decide +kernel
theorem dX9_asked_53 : decode cX9_asked 53 = .ok (.iconst 1, 1) := by decide +kernel
theorem dX9_asked_54 : decode cX9_asked 54 = .ok (.iadd, 1) := by decide +kernel
theorem dX9_asked_55 : decode cX9_asked 55 = .ok (.if_icmp .ne 21, 3) := by decide +kernel
theorem dX9_asked_58 : decode cX9_asked 58 = .ok (.iload_n 2, 1) := by decide +kernel
theorem dX9_asked_59 : decode cX9_asked 59 = .ok (.aload_n 0, 1) := by decide +kernel
theorem dX9_asked_60 : decode cX9_asked 60 = .ok (.iload_n 1, 1) := by decide +kernel
theorem dX9_asked_61 : decode cX9_asked 61 = .ok (.iload_n 3, 1) := by decide +kernel
theorem dX9_asked_62 : decode cX9_asked 62 = .ok (.invokevirtual 229, 3) := by decide +kernel
theorem dX9_asked_65 : decode cX9_asked 65 = .ok (.iconst 1, 1) := by decide +kernel
theorem dX9_asked_66 : decode cX9_asked 66 = .ok (.if_icmp .ne 7, 3) := by decide +kernel
theorem dX9_asked_69 : decode cX9_asked 69 = .ok (.iconst 1, 1) := by decide +kernel
theorem dX9_asked_70 : decode cX9_asked 70 = .ok (.goto 4, 3) := by decide +kernel
theorem dX9_asked_73 : decode cX9_asked 73 = .ok (.iconst (-1), 1) := by decide +kernel
theorem dX9_asked_74 : decode cX9_asked 74 = .ok (.iadd, 1) := by decide +kernel
theorem dX9_asked_75 : decode cX9_asked 75 = .ok (.istore_n 2, 1) := by decide +kernel
theorem dX9_asked_76 : decode cX9_asked 76 = .ok (.iinc 3 1, 3) := by decide +kernel
theorem dX9_asked_79 : decode cX9_asked 79 = .ok (.goto (-42), 3) := by decide +kernel
theorem dX9_asked_82 : decode cX9_asked 82 = .ok (.iload_n 2, 1) := by decide +kernel
theorem dX9_asked_83 : decode cX9_asked 83 = .ok (.ifCond .le 7, 3) := by decide +kernel
theorem dX9_asked_86 : decode cX9_asked 86 = .ok (.iconst 1, 1) := by decide +kernel
theorem dX9_asked_87 : decode cX9_asked 87 = .ok (.goto 4, 3) := by decide +kernel
