theorem dX0_init_0 : decode cX0_init 0 = .ok (.aload_n 0, 1) := by decide +kernel
theorem dX0_init_1 : decode cX0_init 1 = .ok (.invokespecial 3, 3) := by decide +kernel
theorem dX0_init_4 : decode cX0_init 4 = .ok (.return_, 1) := by decide +kernel
set_option maxRecDepth 20000 in
theorem ggX0_hold_X0_wordVoted : GoodIn wsX0_hold wsX0_wordVoted := goodIn_r _ [11, 12, 13, 1, 14, 15, 16, 17, 18, 19, 20, 21, 22, 23, 10, 24, 25, 3, 26, 27, 28, 29, 5, 4, 30, 31, 32, 33, 34, 35, 36, 37, 38, 39, 40, 41, 47, 48, 49, 50, 51, 42, 43, 44, 45, 46] (by decide +kernel) (by decide +kernel)
set_option maxRecDepth 20000 in
theorem gX0_hold_X0_wordVoted : GoodIn wsX0_hold (wsV RX0 32 RX0 yX0_wordVoted wsX0_wordVoted) := goodIn_app (goodIn_of _ (by decide +kernel)) ggX0_hold_X0_wordVoted
theorem dX0_hold_0 : decode cX0_hold 0 = .ok (.aload_n 0, 1) := by decide +kernel
theorem dX0_hold_1 : decode cX0_hold 1 = .ok (.iconst 0, 1) := by decide +kernel
theorem dX0_hold_2 : decode cX0_hold 2 = .ok (.putfield 9, 3) := by decide +kernel
theorem dX0_hold_5 : decode cX0_hold 5 = .ok (.aload_n 0, 1) := by decide +kernel
theorem dX0_hold_6 : decode cX0_hold 6 = .ok (.iconst 0, 1) := by decide +kernel
theorem dX0_hold_7 : decode cX0_hold 7 = .ok (.putfield 15, 3) := by decide +kernel
theorem dX0_hold_10 : decode cX0_hold 10 = .ok (.aload_n 0, 1) := by decide +kernel
theorem dX0_hold_11 : decode cX0_hold 11 = .ok (.iconst 0, 1) := by decide +kernel
theorem dX0_hold_12 : decode cX0_hold 12 = .ok (.putfield 18, 3) := by decide +kernel
theorem dX0_hold_15 : decode cX0_hold 15 = .ok (.aload_n 0, 1) := by decide +kernel
theorem dX0_hold_16 : decode cX0_hold 16 = .ok (.iconst (-1), 1) := by decide +kernel
theorem dX0_hold_17 : decode cX0_hold 17 = .ok (.putfield 21, 3) := by decide +kernel
theorem dX0_hold_20 : decode cX0_hold 20 = .ok (.aload_n 0, 1) := by decide +kernel
theorem dX0_hold_21 : decode cX0_hold 21 = .ok (.bipush 33, 2) := by decide +kernel
theorem dX0_hold_23 : decode cX0_hold 23 = .ok (.putfield 24, 3) := by decide +kernel
theorem dX0_hold_26 : decode cX0_hold 26 = .ok (.aload_n 1, 1) := by decide +kernel
theorem dX0_hold_27 : decode cX0_hold 27 = .ok (.getfield 27, 3) := by decide +kernel
theorem dX0_hold_30 : decode cX0_hold 30 = .ok (.istore_n 3, 1) := by decide +kernel
theorem dX0_hold_31 : decode cX0_hold 31 = .ok (.iload_n 3, 1) := by decide +kernel
theorem dX0_hold_32 : decode cX0_hold 32 = .ok (.ifCond .lt 30, 3) := by decide +kernel
theorem dX0_hold_35 : decode cX0_hold 35 = .ok (.aload_n 0, 1) := by decide +kernel
theorem dX0_hold_36 : decode cX0_hold 36 = .ok (.dup, 1) := by decide +kernel
theorem dX0_hold_37 : decode cX0_hold 37 = .ok (.getfield 15, 3) := by decide +kernel
theorem dX0_hold_40 : decode cX0_hold 40 = .ok (.aload_n 0, 1) := by decide +kernel
theorem dX0_hold_41 : decode cX0_hold 41 = .ok (.aload_n 1, 1) := by decide +kernel
theorem dX0_hold_42 : decode cX0_hold 42 = .ok (.iload_n 2, 1) := by decide +kernel
theorem dX0_hold_43 : decode cX0_hold 43 = .ok (.aload_n 0, 1) := by decide +kernel
theorem dX0_hold_44 : decode cX0_hold 44 = .ok (.getfield 15, 3) := by decide +kernel
theorem dX0_hold_47 : decode cX0_hold 47 = .ok (.ixor, 1) := by decide +kernel
theorem dX0_hold_48 : decode cX0_hold 48 = .ok (.iload_n 3, 1) := by decide +kernel
theorem dX0_hold_49 : decode cX0_hold 49 = .ok (.invokevirtual 32, 3) := by decide +kernel
theorem dX0_hold_52 : decode cX0_hold 52 = .ok (.ixor, 1) := by decide +kernel
theorem dX0_hold_53 : decode cX0_hold 53 = .ok (.putfield 15, 3) := by decide +kernel
theorem dX0_hold_56 : decode cX0_hold 56 = .ok (.iinc 3 (-1), 3) := by decide +kernel
theorem dX0_hold_59 : decode cX0_hold 59 = .ok (.goto (-28), 3) := by decide +kernel
theorem dX0_hold_62 : decode cX0_hold 62 = .ok (.return_, 1) := by decide +kernel
set_option maxRecDepth 20000 in
theorem ggX0_wordVoted_J6_bitCount_0f7a4 : GoodIn wsX0_wordVoted wsJ6_bitCount_0f7a4 := goodIn_r _ [7, 8, 9, 10] (by decide +kernel) (by decide +kernel)
set_option maxRecDepth 20000 in
theorem gX0_wordVoted_J6_bitCount_0f7a4 : GoodIn wsX0_wordVoted (va_wsS RX0 43 yJ6_bitCount_0f7a4 wsJ6_bitCount_0f7a4) := goodIn_app (goodIn_of _ (by decide +kernel)) ggX0_wordVoted_J6_bitCount_0f7a4
set_option maxRecDepth 20000 in
theorem ggX0_wordVoted_X0_isCarried : GoodIn wsX0_wordVoted wsX0_isCarried := goodIn_r _ [15, 16, 17, 18, 19, 20, 21, 22, 23, 24, 25, 26, 27, 28, 29, 5, 6, 7, 8, 9, 10, 36, 37, 38, 39, 40, 41, 42, 43, 44, 45] (by decide +kernel) (by decide +kernel)
set_option maxRecDepth 20000 in
theorem gX0_wordVoted_X0_isCarried : GoodIn wsX0_wordVoted (wsV RX0 49 RX0 yX0_isCarried wsX0_isCarried) := goodIn_app (goodIn_of _ (by decide +kernel)) ggX0_wordVoted_X0_isCarried
set_option maxRecDepth 20000 in
theorem ggX0_wordVoted_X1_summed : GoodIn wsX0_wordVoted wsX1_summed := goodIn_r _ [34, 35, 36, 37, 38, 39, 40] (by decide +kernel) (by decide +kernel)
set_option maxRecDepth 20000 in
theorem gX0_wordVoted_X1_summed : GoodIn wsX0_wordVoted (wsV RX0 53 RX1 yX1_summed wsX1_summed) := goodIn_app (goodIn_of _ (by decide +kernel)) ggX0_wordVoted_X1_summed
theorem dX0_wordVoted_0 : decode cX0_wordVoted 0 = .ok (.iconst 0, 1) := by decide +kernel
theorem dX0_wordVoted_1 : decode cX0_wordVoted 1 = .ok (.istore 4, 2) := by decide +kernel
theorem dX0_wordVoted_3 : decode cX0_wordVoted 3 = .ok (.iconst 0, 1) := by decide +kernel
theorem dX0_wordVoted_4 : decode cX0_wordVoted 4 = .ok (.istore 5, 2) := by decide +kernel
theorem dX0_wordVoted_6 : decode cX0_wordVoted 6 = .ok (.iload 5, 2) := by decide +kernel
theorem dX0_wordVoted_8 : decode cX0_wordVoted 8 = .ok (.aload_n 1, 1) := by decide +kernel
theorem dX0_wordVoted_9 : decode cX0_wordVoted 9 = .ok (.getfield 36, 3) := by decide +kernel
theorem dX0_wordVoted_12 : decode cX0_wordVoted 12 = .ok (.if_icmp .ge 60, 3) := by decide +kernel
theorem dX0_wordVoted_15 : decode cX0_wordVoted 15 = .ok (.aload_n 1, 1) := by decide +kernel
theorem dX0_wordVoted_16 : decode cX0_wordVoted 16 = .ok (.getfield 39, 3) := by decide +kernel
theorem dX0_wordVoted_19 : decode cX0_wordVoted 19 = .ok (.iload 5, 2) := by decide +kernel
theorem dX0_wordVoted_21 : decode cX0_wordVoted 21 = .ok (.iaload, 1) := by decide +kernel
theorem dX0_wordVoted_22 : decode cX0_wordVoted 22 = .ok (.istore 6, 2) := by decide +kernel
theorem dX0_wordVoted_24 : decode cX0_wordVoted 24 = .ok (.iload 6, 2) := by decide +kernel
theorem dX0_wordVoted_26 : decode cX0_wordVoted 26 = .ok (.invokestatic 43, 3) := by decide +kernel
theorem dX0_wordVoted_29 : decode cX0_wordVoted 29 = .ok (.iload_n 3, 1) := by decide +kernel
theorem dX0_wordVoted_30 : decode cX0_wordVoted 30 = .ok (.if_icmp .ne 36, 3) := by decide +kernel
theorem dX0_wordVoted_33 : decode cX0_wordVoted 33 = .ok (.aload_n 0, 1) := by decide +kernel
theorem dX0_wordVoted_34 : decode cX0_wordVoted 34 = .ok (.aload_n 1, 1) := by decide +kernel
theorem dX0_wordVoted_35 : decode cX0_wordVoted 35 = .ok (.iload_n 2, 1) := by decide +kernel
theorem dX0_wordVoted_36 : decode cX0_wordVoted 36 = .ok (.iload 6, 2) := by decide +kernel
theorem dX0_wordVoted_38 : decode cX0_wordVoted 38 = .ok (.invokevirtual 49, 3) := by decide +kernel
theorem dX0_wordVoted_41 : decode cX0_wordVoted 41 = .ok (.ifCond .eq 25, 3) := by decide +kernel
theorem dX0_wordVoted_44 : decode cX0_wordVoted 44 = .ok (.aload_n 0, 1) := by decide +kernel
theorem dX0_wordVoted_45 : decode cX0_wordVoted 45 = .ok (.dup, 1) := by decide +kernel
theorem dX0_wordVoted_46 : decode cX0_wordVoted 46 = .ok (.getfield 9, 3) := by decide +kernel
theorem dX0_wordVoted_49 : decode cX0_wordVoted 49 = .ok (.iconst 1, 1) := by decide +kernel
theorem dX0_wordVoted_50 : decode cX0_wordVoted 50 = .ok (.iload 5, 2) := by decide +kernel
theorem dX0_wordVoted_52 : decode cX0_wordVoted 52 = .ok (.ishl, 1) := by decide +kernel
theorem dX0_wordVoted_53 : decode cX0_wordVoted 53 = .ok (.ior, 1) := by decide +kernel
theorem dX0_wordVoted_54 : decode cX0_wordVoted 54 = .ok (.putfield 9, 3) := by decide +kernel
theorem dX0_wordVoted_57 : decode cX0_wordVoted 57 = .ok (.iload 4, 2) := by decide +kernel
theorem dX0_wordVoted_59 : decode cX0_wordVoted 59 = .ok (.iconst 1, 1) := by decide +kernel
theorem dX0_wordVoted_60 : decode cX0_wordVoted 60 = .ok (.iload 6, 2) := by decide +kernel
theorem dX0_wordVoted_62 : decode cX0_wordVoted 62 = .ok (.ishl, 1) := by decide +kernel
theorem dX0_wordVoted_63 : decode cX0_wordVoted 63 = .ok (.ior, 1) := by decide +kernel
theorem dX0_wordVoted_64 : decode cX0_wordVoted 64 = .ok (.istore 4, 2) := by decide +kernel
theorem dX0_wordVoted_66 : decode cX0_wordVoted 66 = .ok (.iinc 5 1, 3) := by decide +kernel
theorem dX0_wordVoted_69 : decode cX0_wordVoted 69 = .ok (.goto (-63), 3) := by decide +kernel
theorem dX0_wordVoted_72 : decode cX0_wordVoted 72 = .ok (.aload_n 1, 1) := by decide +kernel
theorem dX0_wordVoted_73 : decode cX0_wordVoted 73 = .ok (.iload 4, 2) := by decide +kernel
theorem dX0_wordVoted_75 : decode cX0_wordVoted 75 = .ok (.invokevirtual 53, 3) := by decide +kernel
theorem dX0_wordVoted_78 : decode cX0_wordVoted 78 = .ok (.ireturn, 1) := by decide +kernel
set_option maxRecDepth 20000 in
theorem ggX0_isCarried_X8_partsOf : GoodIn wsX0_isCarried wsX8_partsOf := goodIn_r _ [11] (by decide +kernel) (by decide +kernel)
set_option maxRecDepth 20000 in
theorem gX0_isCarried_X8_partsOf_n56 : GoodIn wsX0_isCarried (wsX8_partsOf) := ggX0_isCarried_X8_partsOf
set_option maxRecDepth 20000 in
theorem ggX0_isCarried_X8_isOdd : GoodIn wsX0_isCarried wsX8_isOdd := goodIn_r _ [13, 14, 15, 16, 17, 18, 19, 20] (by decide +kernel) (by decide +kernel)
set_option maxRecDepth 20000 in
theorem gX0_isCarried_X8_isOdd_n62 : GoodIn wsX0_isCarried (wsX8_isOdd) := ggX0_isCarried_X8_isOdd
theorem dX0_isCarried_0 : decode cX0_isCarried 0 = .ok (.iload_n 3, 1) := by decide +kernel
theorem dX0_isCarried_1 : decode cX0_isCarried 1 = .ok (.invokestatic 56, 3) := by decide +kernel
theorem dX0_isCarried_4 : decode cX0_isCarried 4 = .ok (.istore 4, 2) := by decide +kernel
theorem dX0_isCarried_6 : decode cX0_isCarried 6 = .ok (.iconst 0, 1) := by decide +kernel
theorem dX0_isCarried_7 : decode cX0_isCarried 7 = .ok (.istore 5, 2) := by decide +kernel
theorem dX0_isCarried_9 : decode cX0_isCarried 9 = .ok (.iconst 0, 1) := by decide +kernel
theorem dX0_isCarried_10 : decode cX0_isCarried 10 = .ok (.istore 6, 2) := by decide +kernel
theorem dX0_isCarried_12 : decode cX0_isCarried 12 = .ok (.iload 6, 2) := by decide +kernel
theorem dX0_isCarried_14 : decode cX0_isCarried 14 = .ok (.aload_n 1, 1) := by decide +kernel
theorem dX0_isCarried_15 : decode cX0_isCarried 15 = .ok (.getfield 59, 3) := by decide +kernel
theorem dX0_isCarried_18 : decode cX0_isCarried 18 = .ok (.if_icmp .ge 39, 3) := by decide +kernel
theorem dX0_isCarried_21 : decode cX0_isCarried 21 = .ok (.iload 6, 2) := by decide +kernel
theorem dX0_isCarried_23 : decode cX0_isCarried 23 = .ok (.iload_n 3, 1) := by decide +kernel
theorem dX0_isCarried_24 : decode cX0_isCarried 24 = .ok (.iand, 1) := by decide +kernel
theorem dX0_isCarried_25 : decode cX0_isCarried 25 = .ok (.ifCond .ne 26, 3) := by decide +kernel
theorem dX0_isCarried_28 : decode cX0_isCarried 28 = .ok (.iload 5, 2) := by decide +kernel
theorem dX0_isCarried_30 : decode cX0_isCarried 30 = .ok (.iload_n 2, 1) := by decide +kernel
theorem dX0_isCarried_31 : decode cX0_isCarried 31 = .ok (.iload 4, 2) := by decide +kernel
theorem dX0_isCarried_33 : decode cX0_isCarried 33 = .ok (.iload 6, 2) := by decide +kernel
theorem dX0_isCarried_35 : decode cX0_isCarried 35 = .ok (.ishl, 1) := by decide +kernel
theorem dX0_isCarried_36 : decode cX0_isCarried 36 = .ok (.iand, 1) := by decide +kernel
theorem dX0_isCarried_37 : decode cX0_isCarried 37 = .ok (.invokestatic 62, 3) := by decide +kernel
theorem dX0_isCarried_40 : decode cX0_isCarried 40 = .ok (.ifCond .eq 7, 3) := by decide +kernel
theorem dX0_isCarried_43 : decode cX0_isCarried 43 = .ok (.iconst 1, 1) := by decide +kernel
theorem dX0_isCarried_44 : decode cX0_isCarried 44 = .ok (.goto 4, 3) := by decide +kernel
theorem dX0_isCarried_47 : decode cX0_isCarried 47 = .ok (.iconst (-1), 1) := by decide +kernel
theorem dX0_isCarried_48 : decode cX0_isCarried 48 = .ok (.iadd, 1) := by decide +kernel
theorem dX0_isCarried_49 : decode cX0_isCarried 49 = .ok (.istore 5, 2) := by decide +kernel
theorem dX0_isCarried_51 : decode cX0_isCarried 51 = .ok (.iinc 6 1, 3) := by decide +kernel
theorem dX0_isCarried_54 : decode cX0_isCarried 54 = .ok (.goto (-42), 3) := by decide +kernel
theorem dX0_isCarried_57 : decode cX0_isCarried 57 = .ok (.iload 5, 2) := by decide +kernel
theorem dX0_isCarried_59 : decode cX0_isCarried 59 = .ok (.ifCond .ne 13, 3) := by decide +kernel
theorem dX0_isCarried_62 : decode cX0_isCarried 62 = .ok (.aload_n 0, 1) := by decide +kernel
theorem dX0_isCarried_63 : decode cX0_isCarried 63 = .ok (.dup, 1) := by decide +kernel
theorem dX0_isCarried_64 : decode cX0_isCarried 64 = .ok (.getfield 18, 3) := by decide +kernel
theorem dX0_isCarried_67 : decode cX0_isCarried 67 = .ok (.iconst 1, 1) := by decide +kernel
theorem dX0_isCarried_68 : decode cX0_isCarried 68 = .ok (.iadd, 1) := by decide +kernel
theorem dX0_isCarried_69 : decode cX0_isCarried 69 = .ok (.putfield 18, 3) := by decide +kernel
theorem dX0_isCarried_72 : decode cX0_isCarried 72 = .ok (.iload 5, 2) := by decide +kernel
theorem dX0_isCarried_74 : decode cX0_isCarried 74 = .ok (.invokestatic 66, 3) := by decide +kernel
theorem dX0_isCarried_77 : decode cX0_isCarried 77 = .ok (.aload_n 0, 1) := by decide +kernel
theorem dX0_isCarried_78 : decode cX0_isCarried 78 = .ok (.getfield 24, 3) := by decide +kernel
theorem dX0_isCarried_81 : decode cX0_isCarried 81 = .ok (.if_icmp .ge 17, 3) := by decide +kernel
theorem dX0_isCarried_84 : decode cX0_isCarried 84 = .ok (.aload_n 0, 1) := by decide +kernel
theorem dX0_isCarried_85 : decode cX0_isCarried 85 = .ok (.iload 5, 2) := by decide +kernel
theorem dX0_isCarried_87 : decode cX0_isCarried 87 = .ok (.invokestatic 66, 3) := by decide +kernel
theorem dX0_isCarried_90 : decode cX0_isCarried 90 = .ok (.putfield 24, 3) := by decide +kernel
theorem dX0_isCarried_93 : decode cX0_isCarried 93 = .ok (.aload_n 0, 1) := by decide +kernel
theorem dX0_isCarried_94 : decode cX0_isCarried 94 = .ok (.iload_n 3, 1) := by decide +kernel
theorem dX0_isCarried_95 : decode cX0_isCarried 95 = .ok (.putfield 21, 3) := by decide +kernel
theorem dX0_isCarried_98 : decode cX0_isCarried 98 = .ok (.iload 5, 2) := by decide +kernel
theorem dX0_isCarried_100 : decode cX0_isCarried 100 = .ok (.ifCond .le 7, 3) := by decide +kernel
theorem dX0_isCarried_103 : decode cX0_isCarried 103 = .ok (.iconst 1, 1) := by decide +kernel
theorem dX0_isCarried_104 : decode cX0_isCarried 104 = .ok (.goto 4, 3) := by decide +kernel
theorem dX0_isCarried_107 : decode cX0_isCarried 107 = .ok (.iconst 0, 1) := by decide +kernel
theorem dX0_isCarried_108 : decode cX0_isCarried 108 = .ok (.ireturn, 1) := by decide +kernel
theorem dX1_init_0 : decode cX1_init 0 = .ok (.aload_n 0, 1) := by decide +kernel
theorem dX1_init_1 : decode cX1_init 1 = .ok (.invokespecial 3, 3) := by decide +kernel
theorem dX1_init_4 : decode cX1_init 4 = .ok (.aload_n 0, 1) := by decide +kernel
theorem dX1_init_5 : decode cX1_init 5 = .ok (.bipush 32, 2) := by decide +kernel
theorem dX1_init_7 : decode cX1_init 7 = .ok (.newarray .int, 2) := by decide +kernel
theorem dX1_init_9 : decode cX1_init 9 = .ok (.putfield 9, 3) := by decide +kernel
theorem dX1_init_12 : decode cX1_init 12 = .ok (.return_, 1) := by decide +kernel
set_option maxRecDepth 20000 in
theorem ggX1_become_J6_bitCount_0f7a4 : GoodIn wsX1_become wsJ6_bitCount_0f7a4 := goodIn_r _ [9, 10, 11, 12] (by decide +kernel) (by decide +kernel)
set_option maxRecDepth 20000 in
theorem gX1_become_J6_bitCount_0f7a4 : GoodIn wsX1_become (va_wsS RX1 31 yJ6_bitCount_0f7a4 wsJ6_bitCount_0f7a4) := goodIn_app (goodIn_of _ (by decide +kernel)) ggX1_become_J6_bitCount_0f7a4
theorem dX1_become_0 : decode cX1_become 0 = .ok (.aload_n 0, 1) := by decide +kernel
theorem dX1_become_1 : decode cX1_become 1 = .ok (.iload_n 1, 1) := by decide +kernel
theorem dX1_become_2 : decode cX1_become 2 = .ok (.putfield 15, 3) := by decide +kernel
theorem dX1_become_5 : decode cX1_become 5 = .ok (.aload_n 0, 1) := by decide +kernel
theorem dX1_become_6 : decode cX1_become 6 = .ok (.iload_n 2, 1) := by decide +kernel
theorem dX1_become_7 : decode cX1_become 7 = .ok (.putfield 19, 3) := by decide +kernel
theorem dX1_become_10 : decode cX1_become 10 = .ok (.aload_n 0, 1) := by decide +kernel
theorem dX1_become_11 : decode cX1_become 11 = .ok (.iconst 1, 1) := by decide +kernel
theorem dX1_become_12 : decode cX1_become 12 = .ok (.iload_n 2, 1) := by decide +kernel
theorem dX1_become_13 : decode cX1_become 13 = .ok (.ishl, 1) := by decide +kernel
theorem dX1_become_14 : decode cX1_become 14 = .ok (.putfield 22, 3) := by decide +kernel
theorem dX1_become_17 : decode cX1_become 17 = .ok (.aload_n 0, 1) := by decide +kernel
theorem dX1_become_18 : decode cX1_become 18 = .ok (.iconst 0, 1) := by decide +kernel
theorem dX1_become_19 : decode cX1_become 19 = .ok (.putfield 25, 3) := by decide +kernel
theorem dX1_become_22 : decode cX1_become 22 = .ok (.getstatic 28, 3) := by decide +kernel
theorem dX1_become_25 : decode cX1_become 25 = .ok (.astore_n 3, 1) := by decide +kernel
theorem dX1_become_26 : decode cX1_become 26 = .ok (.aload_n 3, 1) := by decide +kernel
theorem dX1_become_27 : decode cX1_become 27 = .ok (.arraylength, 1) := by decide +kernel
theorem dX1_become_28 : decode cX1_become 28 = .ok (.istore 4, 2) := by decide +kernel
theorem dX1_become_30 : decode cX1_become 30 = .ok (.iconst 0, 1) := by decide +kernel
theorem dX1_become_31 : decode cX1_become 31 = .ok (.istore 5, 2) := by decide +kernel
theorem dX1_become_33 : decode cX1_become 33 = .ok (.iload 5, 2) := by decide +kernel
theorem dX1_become_35 : decode cX1_become 35 = .ok (.iload 4, 2) := by decide +kernel
theorem dX1_become_37 : decode cX1_become 37 = .ok (.if_icmp .ge 54, 3) := by decide +kernel
theorem dX1_become_40 : decode cX1_become 40 = .ok (.aload_n 3, 1) := by decide +kernel
theorem dX1_become_41 : decode cX1_become 41 = .ok (.iload 5, 2) := by decide +kernel
theorem dX1_become_43 : decode cX1_become 43 = .ok (.iaload, 1) := by decide +kernel
theorem dX1_become_44 : decode cX1_become 44 = .ok (.istore 6, 2) := by decide +kernel
theorem dX1_become_46 : decode cX1_become 46 = .ok (.iload 6, 2) := by decide +kernel
theorem dX1_become_48 : decode cX1_become 48 = .ok (.aload_n 0, 1) := by decide +kernel
theorem dX1_become_49 : decode cX1_become 49 = .ok (.getfield 22, 3) := by decide +kernel
theorem dX1_become_52 : decode cX1_become 52 = .ok (.if_icmp .ge 33, 3) := by decide +kernel
theorem dX1_become_55 : decode cX1_become 55 = .ok (.iload 6, 2) := by decide +kernel
theorem dX1_become_57 : decode cX1_become 57 = .ok (.invokestatic 31, 3) := by decide +kernel
theorem dX1_become_60 : decode cX1_become 60 = .ok (.iload_n 1, 1) := by decide +kernel
theorem dX1_become_61 : decode cX1_become 61 = .ok (.if_icmp .gt 24, 3) := by decide +kernel
theorem dX1_become_64 : decode cX1_become 64 = .ok (.aload_n 0, 1) := by decide +kernel
theorem dX1_become_65 : decode cX1_become 65 = .ok (.getfield 9, 3) := by decide +kernel
theorem dX1_become_68 : decode cX1_become 68 = .ok (.aload_n 0, 1) := by decide +kernel
theorem dX1_become_69 : decode cX1_become 69 = .ok (.getfield 25, 3) := by decide +kernel
theorem dX1_become_72 : decode cX1_become 72 = .ok (.iload 6, 2) := by decide +kernel
theorem dX1_become_74 : decode cX1_become 74 = .ok (.iastore, 1) := by decide +kernel
theorem dX1_become_75 : decode cX1_become 75 = .ok (.aload_n 0, 1) := by decide +kernel
theorem dX1_become_76 : decode cX1_become 76 = .ok (.dup, 1) := by decide +kernel
theorem dX1_become_77 : decode cX1_become 77 = .ok (.getfield 25, 3) := by decide +kernel
theorem dX1_become_80 : decode cX1_become 80 = .ok (.iconst 1, 1) := by decide +kernel
theorem dX1_become_81 : decode cX1_become 81 = .ok (.iadd, 1) := by decide +kernel
theorem dX1_become_82 : decode cX1_become 82 = .ok (.putfield 25, 3) := by decide +kernel
theorem dX1_become_85 : decode cX1_become 85 = .ok (.iinc 5 1, 3) := by decide +kernel
theorem dX1_become_88 : decode cX1_become 88 = .ok (.goto (-55), 3) := by decide +kernel
theorem dX1_become_91 : decode cX1_become 91 = .ok (.return_, 1) := by decide +kernel
theorem dX1_distance_0 : decode cX1_distance 0 = .ok (.iconst 1, 1) := by decide +kernel
theorem dX1_distance_1 : decode cX1_distance 1 = .ok (.aload_n 0, 1) := by decide +kernel
theorem dX1_distance_2 : decode cX1_distance 2 = .ok (.getfield 19, 3) := by decide +kernel
theorem dX1_distance_5 : decode cX1_distance 5 = .ok (.aload_n 0, 1) := by decide +kernel
theorem dX1_distance_6 : decode cX1_distance 6 = .ok (.getfield 15, 3) := by decide +kernel
theorem dX1_distance_9 : decode cX1_distance 9 = .ok (.isub, 1) := by decide +kernel
theorem dX1_distance_10 : decode cX1_distance 10 = .ok (.ishl, 1) := by decide +kernel
theorem dX1_distance_11 : decode cX1_distance 11 = .ok (.ireturn, 1) := by decide +kernel
set_option maxRecDepth 20000 in
theorem ggX1_allPlaces_X8_lowest : GoodIn wsX1_allPlaces wsX8_lowest := goodIn_r _ [4] (by decide +kernel) (by decide +kernel)
set_option maxRecDepth 20000 in
theorem gX1_allPlaces_X8_lowest_n37 : GoodIn wsX1_allPlaces (wsX8_lowest) := ggX1_allPlaces_X8_lowest
theorem dX1_allPlaces_0 : decode cX1_allPlaces 0 = .ok (.aload_n 0, 1) := by decide +kernel
theorem dX1_allPlaces_1 : decode cX1_allPlaces 1 = .ok (.getfield 22, 3) := by decide +kernel
theorem dX1_allPlaces_4 : decode cX1_allPlaces 4 = .ok (.invokestatic 37, 3) := by decide +kernel
theorem dX1_allPlaces_7 : decode cX1_allPlaces 7 = .ok (.ireturn, 1) := by decide +kernel
set_option maxRecDepth 20000 in
theorem ggX1_allTerms_X8_lowest : GoodIn wsX1_allTerms wsX8_lowest := goodIn_r _ [4] (by decide +kernel) (by decide +kernel)
set_option maxRecDepth 20000 in
theorem gX1_allTerms_X8_lowest_n37 : GoodIn wsX1_allTerms (wsX8_lowest) := ggX1_allTerms_X8_lowest
theorem dX1_allTerms_0 : decode cX1_allTerms 0 = .ok (.aload_n 0, 1) := by decide +kernel
theorem dX1_allTerms_1 : decode cX1_allTerms 1 = .ok (.getfield 25, 3) := by decide +kernel
theorem dX1_allTerms_4 : decode cX1_allTerms 4 = .ok (.invokestatic 37, 3) := by decide +kernel
theorem dX1_allTerms_7 : decode cX1_allTerms 7 = .ok (.ireturn, 1) := by decide +kernel
theorem dX1_hasPlace_0 : decode cX1_hasPlace 0 = .ok (.iload_n 1, 1) := by decide +kernel
theorem dX1_hasPlace_1 : decode cX1_hasPlace 1 = .ok (.ifCond .lt 15, 3) := by decide +kernel
theorem dX1_hasPlace_4 : decode cX1_hasPlace 4 = .ok (.iload_n 1, 1) := by decide +kernel
theorem dX1_hasPlace_5 : decode cX1_hasPlace 5 = .ok (.aload_n 0, 1) := by decide +kernel
theorem dX1_hasPlace_6 : decode cX1_hasPlace 6 = .ok (.getfield 22, 3) := by decide +kernel
theorem dX1_hasPlace_9 : decode cX1_hasPlace 9 = .ok (.if_icmp .ge 7, 3) := by decide +kernel
theorem dX1_hasPlace_12 : decode cX1_hasPlace 12 = .ok (.iconst 1, 1) := by decide +kernel
theorem dX1_hasPlace_13 : decode cX1_hasPlace 13 = .ok (.goto 4, 3) := by decide +kernel
theorem dX1_hasPlace_16 : decode cX1_hasPlace 16 = .ok (.iconst 0, 1) := by decide +kernel
theorem dX1_hasPlace_17 : decode cX1_hasPlace 17 = .ok (.ireturn, 1) := by decide +kernel
theorem dX1_canBeWalked_0 : decode cX1_canBeWalked 0 = .ok (.aload_n 0, 1) := by decide +kernel
theorem dX1_canBeWalked_1 : decode cX1_canBeWalked 1 = .ok (.getfield 25, 3) := by decide +kernel
theorem dX1_canBeWalked_4 : decode cX1_canBeWalked 4 = .ok (.bipush 16, 2) := by decide +kernel
theorem dX1_canBeWalked_6 : decode cX1_canBeWalked 6 = .ok (.if_icmp .gt 7, 3) := by decide +kernel
theorem dX1_canBeWalked_9 : decode cX1_canBeWalked 9 = .ok (.iconst 1, 1) := by decide +kernel
theorem dX1_canBeWalked_10 : decode cX1_canBeWalked 10 = .ok (.goto 4, 3) := by decide +kernel
theorem dX1_canBeWalked_13 : decode cX1_canBeWalked 13 = .ok (.iconst 0, 1) := by decide +kernel
theorem dX1_canBeWalked_14 : decode cX1_canBeWalked 14 = .ok (.ireturn, 1) := by decide +kernel
theorem dX1_summed_0 : decode cX1_summed 0 = .ok (.iload_n 1, 1) := by decide +kernel
theorem dX1_summed_1 : decode cX1_summed 1 = .ok (.istore_n 2, 1) := by decide +kernel
theorem dX1_summed_2 : decode cX1_summed 2 = .ok (.iconst 0, 1) := by decide +kernel
theorem dX1_summed_3 : decode cX1_summed 3 = .ok (.istore_n 3, 1) := by decide +kernel
theorem dX1_summed_4 : decode cX1_summed 4 = .ok (.iload_n 3, 1) := by decide +kernel
theorem dX1_summed_5 : decode cX1_summed 5 = .ok (.aload_n 0, 1) := by decide +kernel
theorem dX1_summed_6 : decode cX1_summed 6 = .ok (.getfield 19, 3) := by decide +kernel
theorem dX1_summed_9 : decode cX1_summed 9 = .ok (.if_icmp .ge 23, 3) := by decide +kernel
theorem dX1_summed_12 : decode cX1_summed 12 = .ok (.iload_n 2, 1) := by decide +kernel
theorem dX1_summed_13 : decode cX1_summed 13 = .ok (.iload_n 2, 1) := by decide +kernel
theorem dX1_summed_14 : decode cX1_summed 14 = .ok (.getstatic 40, 3) := by decide +kernel
theorem dX1_summed_17 : decode cX1_summed 17 = .ok (.iload_n 3, 1) := by decide +kernel
theorem dX1_summed_18 : decode cX1_summed 18 = .ok (.iaload, 1) := by decide +kernel
theorem dX1_summed_19 : decode cX1_summed 19 = .ok (.iand, 1) := by decide +kernel
theorem dX1_summed_20 : decode cX1_summed 20 = .ok (.iconst 1, 1) := by decide +kernel
theorem dX1_summed_21 : decode cX1_summed 21 = .ok (.iload_n 3, 1) := by decide +kernel
theorem dX1_summed_22 : decode cX1_summed 22 = .ok (.ishl, 1) := by decide +kernel
theorem dX1_summed_23 : decode cX1_summed 23 = .ok (.ishl, 1) := by decide +kernel
theorem dX1_summed_24 : decode cX1_summed 24 = .ok (.ixor, 1) := by decide +kernel
theorem dX1_summed_25 : decode cX1_summed 25 = .ok (.istore_n 2, 1) := by decide +kernel
theorem dX1_summed_26 : decode cX1_summed 26 = .ok (.iinc 3 1, 3) := by decide +kernel
theorem dX1_summed_29 : decode cX1_summed 29 = .ok (.goto (-25), 3) := by decide +kernel
theorem dX1_summed_32 : decode cX1_summed 32 = .ok (.iload_n 2, 1) := by decide +kernel
theorem dX1_summed_33 : decode cX1_summed 33 = .ok (.ireturn, 1) := by decide +kernel
set_option maxRecDepth 20000 in
theorem ggX1_wordOfTerm_X1_summed : GoodIn wsX1_wordOfTerm wsX1_summed := goodIn_r _ [6, 7, 8, 9, 10, 11, 12] (by decide +kernel) (by decide +kernel)
set_option maxRecDepth 20000 in
theorem gX1_wordOfTerm_X1_summed : GoodIn wsX1_wordOfTerm (wsV RX1 43 RX1 yX1_summed wsX1_summed) := goodIn_app (goodIn_of _ (by decide +kernel)) ggX1_wordOfTerm_X1_summed
theorem dX1_wordOfTerm_0 : decode cX1_wordOfTerm 0 = .ok (.aload_n 0, 1) := by decide +kernel
theorem dX1_wordOfTerm_1 : decode cX1_wordOfTerm 1 = .ok (.iconst 1, 1) := by decide +kernel
theorem dX1_wordOfTerm_2 : decode cX1_wordOfTerm 2 = .ok (.aload_n 0, 1) := by decide +kernel
theorem dX1_wordOfTerm_3 : decode cX1_wordOfTerm 3 = .ok (.getfield 9, 3) := by decide +kernel
theorem dX1_wordOfTerm_6 : decode cX1_wordOfTerm 6 = .ok (.iload_n 1, 1) := by decide +kernel
theorem dX1_wordOfTerm_7 : decode cX1_wordOfTerm 7 = .ok (.iaload, 1) := by decide +kernel
theorem dX1_wordOfTerm_8 : decode cX1_wordOfTerm 8 = .ok (.ishl, 1) := by decide +kernel
theorem dX1_wordOfTerm_9 : decode cX1_wordOfTerm 9 = .ok (.invokevirtual 43, 3) := by decide +kernel
theorem dX1_wordOfTerm_12 : decode cX1_wordOfTerm 12 = .ok (.ireturn, 1) := by decide +kernel
set_option maxRecDepth 20000 in
theorem ggX1_wordOf_X1_summed : GoodIn wsX1_wordOf wsX1_summed := goodIn_r _ [7, 8, 9, 10, 11, 12, 13] (by decide +kernel) (by decide +kernel)
set_option maxRecDepth 20000 in
theorem gX1_wordOf_X1_summed : GoodIn wsX1_wordOf (wsV RX1 43 RX1 yX1_summed wsX1_summed) := goodIn_app (goodIn_of _ (by decide +kernel)) ggX1_wordOf_X1_summed
theorem dX1_wordOf_0 : decode cX1_wordOf 0 = .ok (.iconst 0, 1) := by decide +kernel
theorem dX1_wordOf_1 : decode cX1_wordOf 1 = .ok (.istore_n 2, 1) := by decide +kernel
theorem dX1_wordOf_2 : decode cX1_wordOf 2 = .ok (.iconst 0, 1) := by decide +kernel
theorem dX1_wordOf_3 : decode cX1_wordOf 3 = .ok (.istore_n 3, 1) := by decide +kernel
theorem dX1_wordOf_4 : decode cX1_wordOf 4 = .ok (.iload_n 3, 1) := by decide +kernel
theorem dX1_wordOf_5 : decode cX1_wordOf 5 = .ok (.aload_n 0, 1) := by decide +kernel
theorem dX1_wordOf_6 : decode cX1_wordOf 6 = .ok (.getfield 25, 3) := by decide +kernel
theorem dX1_wordOf_9 : decode cX1_wordOf 9 = .ok (.if_icmp .ge 24, 3) := by decide +kernel
theorem dX1_wordOf_12 : decode cX1_wordOf 12 = .ok (.iload_n 2, 1) := by decide +kernel
theorem dX1_wordOf_13 : decode cX1_wordOf 13 = .ok (.iload_n 1, 1) := by decide +kernel
theorem dX1_wordOf_14 : decode cX1_wordOf 14 = .ok (.iload_n 3, 1) := by decide +kernel
theorem dX1_wordOf_15 : decode cX1_wordOf 15 = .ok (.iushr, 1) := by decide +kernel
theorem dX1_wordOf_16 : decode cX1_wordOf 16 = .ok (.iconst 1, 1) := by decide +kernel
theorem dX1_wordOf_17 : decode cX1_wordOf 17 = .ok (.iand, 1) := by decide +kernel
theorem dX1_wordOf_18 : decode cX1_wordOf 18 = .ok (.aload_n 0, 1) := by decide +kernel
theorem dX1_wordOf_19 : decode cX1_wordOf 19 = .ok (.getfield 9, 3) := by decide +kernel
theorem dX1_wordOf_22 : decode cX1_wordOf 22 = .ok (.iload_n 3, 1) := by decide +kernel
theorem dX1_wordOf_23 : decode cX1_wordOf 23 = .ok (.iaload, 1) := by decide +kernel
theorem dX1_wordOf_24 : decode cX1_wordOf 24 = .ok (.ishl, 1) := by decide +kernel
theorem dX1_wordOf_25 : decode cX1_wordOf 25 = .ok (.ior, 1) := by decide +kernel
theorem dX1_wordOf_26 : decode cX1_wordOf 26 = .ok (.istore_n 2, 1) := by decide +kernel
theorem dX1_wordOf_27 : decode cX1_wordOf 27 = .ok (.iinc 3 1, 3) := by decide +kernel
theorem dX1_wordOf_30 : decode cX1_wordOf 30 = .ok (.goto (-26), 3) := by decide +kernel
theorem dX1_wordOf_33 : decode cX1_wordOf 33 = .ok (.aload_n 0, 1) := by decide +kernel
theorem dX1_wordOf_34 : decode cX1_wordOf 34 = .ok (.iload_n 2, 1) := by decide +kernel
theorem dX1_wordOf_35 : decode cX1_wordOf 35 = .ok (.invokevirtual 43, 3) := by decide +kernel
theorem dX1_wordOf_38 : decode cX1_wordOf 38 = .ok (.ireturn, 1) := by decide +kernel
theorem dX1_termPlaces_0 : decode cX1_termPlaces 0 = .ok (.iconst 0, 1) := by decide +kernel
theorem dX1_termPlaces_1 : decode cX1_termPlaces 1 = .ok (.istore_n 1, 1) := by decide +kernel
theorem dX1_termPlaces_2 : decode cX1_termPlaces 2 = .ok (.iconst 0, 1) := by decide +kernel
theorem dX1_termPlaces_3 : decode cX1_termPlaces 3 = .ok (.istore_n 2, 1) := by decide +kernel
theorem dX1_termPlaces_4 : decode cX1_termPlaces 4 = .ok (.iload_n 2, 1) := by decide +kernel
theorem dX1_termPlaces_5 : decode cX1_termPlaces 5 = .ok (.aload_n 0, 1) := by decide +kernel
theorem dX1_termPlaces_6 : decode cX1_termPlaces 6 = .ok (.getfield 25, 3) := by decide +kernel
theorem dX1_termPlaces_9 : decode cX1_termPlaces 9 = .ok (.if_icmp .ge 20, 3) := by decide +kernel
theorem dX1_termPlaces_12 : decode cX1_termPlaces 12 = .ok (.iload_n 1, 1) := by decide +kernel
theorem dX1_termPlaces_13 : decode cX1_termPlaces 13 = .ok (.iconst 1, 1) := by decide +kernel
theorem dX1_termPlaces_14 : decode cX1_termPlaces 14 = .ok (.aload_n 0, 1) := by decide +kernel
theorem dX1_termPlaces_15 : decode cX1_termPlaces 15 = .ok (.getfield 9, 3) := by decide +kernel
theorem dX1_termPlaces_18 : decode cX1_termPlaces 18 = .ok (.iload_n 2, 1) := by decide +kernel
theorem dX1_termPlaces_19 : decode cX1_termPlaces 19 = .ok (.iaload, 1) := by decide +kernel
theorem dX1_termPlaces_20 : decode cX1_termPlaces 20 = .ok (.ishl, 1) := by decide +kernel
theorem dX1_termPlaces_21 : decode cX1_termPlaces 21 = .ok (.ior, 1) := by decide +kernel
theorem dX1_termPlaces_22 : decode cX1_termPlaces 22 = .ok (.istore_n 1, 1) := by decide +kernel
theorem dX1_termPlaces_23 : decode cX1_termPlaces 23 = .ok (.iinc 2 1, 3) := by decide +kernel
theorem dX1_termPlaces_26 : decode cX1_termPlaces 26 = .ok (.goto (-22), 3) := by decide +kernel
theorem dX1_termPlaces_29 : decode cX1_termPlaces 29 = .ok (.iload_n 1, 1) := by decide +kernel
theorem dX1_termPlaces_30 : decode cX1_termPlaces 30 = .ok (.ireturn, 1) := by decide +kernel
theorem dX1_setAt_0 : decode cX1_setAt 0 = .ok (.iconst 0, 1) := by decide +kernel
theorem dX1_setAt_1 : decode cX1_setAt 1 = .ok (.istore_n 2, 1) := by decide +kernel
theorem dX1_setAt_2 : decode cX1_setAt 2 = .ok (.getstatic 28, 3) := by decide +kernel
theorem dX1_setAt_5 : decode cX1_setAt 5 = .ok (.astore_n 3, 1) := by decide +kernel
theorem dX1_setAt_6 : decode cX1_setAt 6 = .ok (.aload_n 3, 1) := by decide +kernel
theorem dX1_setAt_7 : decode cX1_setAt 7 = .ok (.arraylength, 1) := by decide +kernel
theorem dX1_setAt_8 : decode cX1_setAt 8 = .ok (.istore 4, 2) := by decide +kernel
theorem dX1_setAt_10 : decode cX1_setAt 10 = .ok (.iconst 0, 1) := by decide +kernel
theorem dX1_setAt_11 : decode cX1_setAt 11 = .ok (.istore 5, 2) := by decide +kernel
theorem dX1_setAt_13 : decode cX1_setAt 13 = .ok (.iload 5, 2) := by decide +kernel
theorem dX1_setAt_15 : decode cX1_setAt 15 = .ok (.iload 4, 2) := by decide +kernel
theorem dX1_setAt_17 : decode cX1_setAt 17 = .ok (.if_icmp .ge 35, 3) := by decide +kernel
theorem dX1_setAt_20 : decode cX1_setAt 20 = .ok (.aload_n 3, 1) := by decide +kernel
theorem dX1_setAt_21 : decode cX1_setAt 21 = .ok (.iload 5, 2) := by decide +kernel
theorem dX1_setAt_23 : decode cX1_setAt 23 = .ok (.iaload, 1) := by decide +kernel
theorem dX1_setAt_24 : decode cX1_setAt 24 = .ok (.istore 6, 2) := by decide +kernel
theorem dX1_setAt_26 : decode cX1_setAt 26 = .ok (.iload 6, 2) := by decide +kernel
theorem dX1_setAt_28 : decode cX1_setAt 28 = .ok (.aload_n 0, 1) := by decide +kernel
theorem dX1_setAt_29 : decode cX1_setAt 29 = .ok (.getfield 22, 3) := by decide +kernel
theorem dX1_setAt_32 : decode cX1_setAt 32 = .ok (.if_icmp .ge 14, 3) := by decide +kernel
theorem dX1_setAt_35 : decode cX1_setAt 35 = .ok (.iload_n 2, 1) := by decide +kernel
theorem dX1_setAt_36 : decode cX1_setAt 36 = .ok (.iload_n 1, 1) := by decide +kernel
theorem dX1_setAt_37 : decode cX1_setAt 37 = .ok (.if_icmp .ne 6, 3) := by decide +kernel
theorem dX1_setAt_40 : decode cX1_setAt 40 = .ok (.iload 6, 2) := by decide +kernel
theorem dX1_setAt_42 : decode cX1_setAt 42 = .ok (.ireturn, 1) := by decide +kernel
theorem dX1_setAt_43 : decode cX1_setAt 43 = .ok (.iinc 2 1, 3) := by decide +kernel
theorem dX1_setAt_46 : decode cX1_setAt 46 = .ok (.iinc 5 1, 3) := by decide +kernel
theorem dX1_setAt_49 : decode cX1_setAt 49 = .ok (.goto (-36), 3) := by decide +kernel
theorem dX1_setAt_52 : decode cX1_setAt 52 = .ok (.iconst 0, 1) := by decide +kernel
theorem dX1_setAt_53 : decode cX1_setAt 53 = .ok (.ireturn, 1) := by decide +kernel
theorem dX2_init_0 : decode cX2_init 0 = .ok (.aload_n 0, 1) := by decide +kernel
theorem dX2_init_1 : decode cX2_init 1 = .ok (.invokespecial 3, 3) := by decide +kernel
theorem dX2_init_4 : decode cX2_init 4 = .ok (.aload_n 0, 1) := by decide +kernel
theorem dX2_init_5 : decode cX2_init 5 = .ok (.bipush 6, 2) := by decide +kernel
theorem dX2_init_7 : decode cX2_init 7 = .ok (.bipush 32, 2) := by decide +kernel
theorem dX2_init_9 : decode cX2_init 9 = .ok (.multianewarray 9 2, 4) := by decide +kernel
theorem dX2_init_13 : decode cX2_init 13 = .ok (.putfield 11, 3) := by decide +kernel
theorem dX2_init_16 : decode cX2_init 16 = .ok (.return_, 1) := by decide +kernel
set_option maxRecDepth 20000 in
theorem ggX2_solve_X2_wordFor : GoodIn wsX2_solve wsX2_wordFor := goodIn_r _ [13, 14, 15, 16, 12, 17, 1, 18, 19, 20, 21, 22, 23, 24, 25, 26, 27, 28, 29, 30, 31, 32, 33, 34, 35, 9, 10, 11, 36, 37, 38, 39, 40] (by decide +kernel) (by decide +kernel)
set_option maxRecDepth 20000 in
theorem gX2_solve_X2_wordFor : GoodIn wsX2_solve (wsV RX2 34 RX2 yX2_wordFor wsX2_wordFor) := goodIn_app (goodIn_of _ (by decide +kernel)) ggX2_solve_X2_wordFor
theorem dX2_solve_0 : decode cX2_solve 0 = .ok (.aload_n 2, 1) := by decide +kernel
theorem dX2_solve_1 : decode cX2_solve 1 = .ok (.iconst 0, 1) := by decide +kernel
theorem dX2_solve_2 : decode cX2_solve 2 = .ok (.aload_n 0, 1) := by decide +kernel
theorem dX2_solve_3 : decode cX2_solve 3 = .ok (.getfield 11, 3) := by decide +kernel
theorem dX2_solve_6 : decode cX2_solve 6 = .ok (.aload_n 1, 1) := by decide +kernel
theorem dX2_solve_7 : decode cX2_solve 7 = .ok (.getfield 16, 3) := by decide +kernel
theorem dX2_solve_10 : decode cX2_solve 10 = .ok (.aaload, 1) := by decide +kernel
theorem dX2_solve_11 : decode cX2_solve 11 = .ok (.iconst 0, 1) := by decide +kernel
theorem dX2_solve_12 : decode cX2_solve 12 = .ok (.aload_n 1, 1) := by decide +kernel
theorem dX2_solve_13 : decode cX2_solve 13 = .ok (.getfield 22, 3) := by decide +kernel
theorem dX2_solve_16 : decode cX2_solve 16 = .ok (.invokestatic 25, 3) := by decide +kernel
theorem dX2_solve_19 : decode cX2_solve 19 = .ok (.aload_n 0, 1) := by decide +kernel
theorem dX2_solve_20 : decode cX2_solve 20 = .ok (.aload_n 1, 1) := by decide +kernel
theorem dX2_solve_21 : decode cX2_solve 21 = .ok (.getfield 31, 3) := by decide +kernel
theorem dX2_solve_24 : decode cX2_solve 24 = .ok (.aload_n 1, 1) := by decide +kernel
theorem dX2_solve_25 : decode cX2_solve 25 = .ok (.getfield 16, 3) := by decide +kernel
theorem dX2_solve_28 : decode cX2_solve 28 = .ok (.invokevirtual 34, 3) := by decide +kernel
theorem dX2_solve_31 : decode cX2_solve 31 = .ok (.ireturn, 1) := by decide +kernel
set_option maxRecDepth 20000 in
theorem ggX2_wordFor_X2_allAlike : GoodIn wsX2_wordFor wsX2_allAlike := goodIn_r _ [5, 6, 7, 8, 9, 32] (by decide +kernel) (by decide +kernel)
set_option maxRecDepth 20000 in
theorem gX2_wordFor_X2_allAlike : GoodIn wsX2_wordFor (wsV RX2 38 RX2 yX2_allAlike wsX2_allAlike) := goodIn_app (goodIn_of _ (by decide +kernel)) ggX2_wordFor_X2_allAlike
set_option maxRecDepth 20000 in
theorem ggX2_wordFor_X2_eachAlone : GoodIn wsX2_wordFor wsX2_eachAlone := goodIn_r _ [13, 6, 32] (by decide +kernel) (by decide +kernel)
set_option maxRecDepth 20000 in
theorem gX2_wordFor_X2_eachAlone : GoodIn wsX2_wordFor (wsV RX2 42 RX2 yX2_eachAlone wsX2_eachAlone) := goodIn_app (goodIn_of _ (by decide +kernel)) ggX2_wordFor_X2_eachAlone
set_option maxRecDepth 20000 in
theorem ggX2_wordFor_X2_putLesser : GoodIn wsX2_wordFor wsX2_putLesser := goodIn_r _ [17, 6, 18, 19, 20, 21, 22, 23, 24, 32] (by decide +kernel) (by decide +kernel)
set_option maxRecDepth 20000 in
theorem gX2_wordFor_X2_putLesser : GoodIn wsX2_wordFor (wsV RX2 45 RX2 yX2_putLesser wsX2_putLesser) := goodIn_app (goodIn_of _ (by decide +kernel)) ggX2_wordFor_X2_putLesser
set_option maxRecDepth 20000 in
theorem ggX2_wordFor_X2_wordFor : GoodIn wsX2_wordFor wsX2_wordFor := goodIn_r _ [0, 1, 2, 3, 4, 5, 6, 7, 8, 9, 10, 11, 12, 13, 14, 15, 16, 17, 18, 19, 20, 21, 22, 23, 24, 25, 26, 27, 28, 29, 30, 31, 32] (by decide +kernel) (by decide +kernel)
set_option maxRecDepth 20000 in
theorem gX2_wordFor_X2_wordFor : GoodIn wsX2_wordFor (wsV RX2 34 RX2 yX2_wordFor wsX2_wordFor) := goodIn_app (goodIn_of _ (by decide +kernel)) ggX2_wordFor_X2_wordFor
set_option maxRecDepth 20000 in
theorem ggX2_wordFor_X2_putTogether : GoodIn wsX2_wordFor wsX2_putTogether := goodIn_r _ [31, 6, 32] (by decide +kernel) (by decide +kernel)
set_option maxRecDepth 20000 in
theorem gX2_wordFor_X2_putTogether : GoodIn wsX2_wordFor (wsV RX2 49 RX2 yX2_putTogether wsX2_putTogether) := goodIn_app (goodIn_of _ (by decide +kernel)) ggX2_wordFor_X2_putTogether
theorem dX2_wordFor_0 : decode cX2_wordFor 0 = .ok (.iload_n 1, 1) := by decide +kernel
theorem dX2_wordFor_1 : decode cX2_wordFor 1 = .ok (.ifCond .gt 9, 3) := by decide +kernel
theorem dX2_wordFor_4 : decode cX2_wordFor 4 = .ok (.aload_n 0, 1) := by decide +kernel
theorem dX2_wordFor_5 : decode cX2_wordFor 5 = .ok (.iload_n 2, 1) := by decide +kernel
theorem dX2_wordFor_6 : decode cX2_wordFor 6 = .ok (.invokevirtual 38, 3) := by decide +kernel
theorem dX2_wordFor_9 : decode cX2_wordFor 9 = .ok (.ireturn, 1) := by decide +kernel
theorem dX2_wordFor_10 : decode cX2_wordFor 10 = .ok (.iload_n 1, 1) := by decide +kernel
theorem dX2_wordFor_11 : decode cX2_wordFor 11 = .ok (.iload_n 2, 1) := by decide +kernel
theorem dX2_wordFor_12 : decode cX2_wordFor 12 = .ok (.if_icmp .lt 9, 3) := by decide +kernel
theorem dX2_wordFor_15 : decode cX2_wordFor 15 = .ok (.aload_n 0, 1) := by decide +kernel
theorem dX2_wordFor_16 : decode cX2_wordFor 16 = .ok (.iload_n 2, 1) := by decide +kernel
theorem dX2_wordFor_17 : decode cX2_wordFor 17 = .ok (.invokevirtual 42, 3) := by decide +kernel
theorem dX2_wordFor_20 : decode cX2_wordFor 20 = .ok (.ireturn, 1) := by decide +kernel
theorem dX2_wordFor_21 : decode cX2_wordFor 21 = .ok (.aload_n 0, 1) := by decide +kernel
theorem dX2_wordFor_22 : decode cX2_wordFor 22 = .ok (.iload_n 2, 1) := by decide +kernel
theorem dX2_wordFor_23 : decode cX2_wordFor 23 = .ok (.invokevirtual 45, 3) := by decide +kernel
theorem dX2_wordFor_26 : decode cX2_wordFor 26 = .ok (.aload_n 0, 1) := by decide +kernel
theorem dX2_wordFor_27 : decode cX2_wordFor 27 = .ok (.iload_n 1, 1) := by decide +kernel
theorem dX2_wordFor_28 : decode cX2_wordFor 28 = .ok (.iconst 1, 1) := by decide +kernel
theorem dX2_wordFor_29 : decode cX2_wordFor 29 = .ok (.isub, 1) := by decide +kernel
theorem dX2_wordFor_30 : decode cX2_wordFor 30 = .ok (.iload_n 2, 1) := by decide +kernel
theorem dX2_wordFor_31 : decode cX2_wordFor 31 = .ok (.iconst 1, 1) := by decide +kernel
theorem dX2_wordFor_32 : decode cX2_wordFor 32 = .ok (.isub, 1) := by decide +kernel
theorem dX2_wordFor_33 : decode cX2_wordFor 33 = .ok (.invokevirtual 34, 3) := by decide +kernel
theorem dX2_wordFor_36 : decode cX2_wordFor 36 = .ok (.istore_n 3, 1) := by decide +kernel
theorem dX2_wordFor_37 : decode cX2_wordFor 37 = .ok (.aload_n 0, 1) := by decide +kernel
theorem dX2_wordFor_38 : decode cX2_wordFor 38 = .ok (.iload_n 2, 1) := by decide +kernel
theorem dX2_wordFor_39 : decode cX2_wordFor 39 = .ok (.iload_n 3, 1) := by decide +kernel
theorem dX2_wordFor_40 : decode cX2_wordFor 40 = .ok (.invokevirtual 49, 3) := by decide +kernel
theorem dX2_wordFor_43 : decode cX2_wordFor 43 = .ok (.aload_n 0, 1) := by decide +kernel
theorem dX2_wordFor_44 : decode cX2_wordFor 44 = .ok (.iload_n 1, 1) := by decide +kernel
theorem dX2_wordFor_45 : decode cX2_wordFor 45 = .ok (.iload_n 2, 1) := by decide +kernel
theorem dX2_wordFor_46 : decode cX2_wordFor 46 = .ok (.iconst 1, 1) := by decide +kernel
theorem dX2_wordFor_47 : decode cX2_wordFor 47 = .ok (.isub, 1) := by decide +kernel
theorem dX2_wordFor_48 : decode cX2_wordFor 48 = .ok (.invokevirtual 34, 3) := by decide +kernel
theorem dX2_wordFor_51 : decode cX2_wordFor 51 = .ok (.istore 4, 2) := by decide +kernel
theorem dX2_wordFor_53 : decode cX2_wordFor 53 = .ok (.iload 4, 2) := by decide +kernel
theorem dX2_wordFor_55 : decode cX2_wordFor 55 = .ok (.iload 4, 2) := by decide +kernel
theorem dX2_wordFor_57 : decode cX2_wordFor 57 = .ok (.iload_n 3, 1) := by decide +kernel
theorem dX2_wordFor_58 : decode cX2_wordFor 58 = .ok (.ixor, 1) := by decide +kernel
theorem dX2_wordFor_59 : decode cX2_wordFor 59 = .ok (.iconst 1, 1) := by decide +kernel
theorem dX2_wordFor_60 : decode cX2_wordFor 60 = .ok (.iload_n 2, 1) := by decide +kernel
theorem dX2_wordFor_61 : decode cX2_wordFor 61 = .ok (.iconst 1, 1) := by decide +kernel
theorem dX2_wordFor_62 : decode cX2_wordFor 62 = .ok (.isub, 1) := by decide +kernel
theorem dX2_wordFor_63 : decode cX2_wordFor 63 = .ok (.ishl, 1) := by decide +kernel
theorem dX2_wordFor_64 : decode cX2_wordFor 64 = .ok (.ishl, 1) := by decide +kernel
theorem dX2_wordFor_65 : decode cX2_wordFor 65 = .ok (.ior, 1) := by decide +kernel
theorem dX2_wordFor_66 : decode cX2_wordFor 66 = .ok (.ireturn, 1) := by decide +kernel
set_option maxRecDepth 20000 in
theorem ggX2_allAlike_X8_lowest : GoodIn wsX2_allAlike wsX8_lowest := goodIn_r _ [4] (by decide +kernel) (by decide +kernel)
set_option maxRecDepth 20000 in
theorem gX2_allAlike_X8_lowest_n53 : GoodIn wsX2_allAlike (wsX8_lowest) := ggX2_allAlike_X8_lowest
theorem dX2_allAlike_0 : decode cX2_allAlike 0 = .ok (.iconst 1, 1) := by decide +kernel
theorem dX2_allAlike_1 : decode cX2_allAlike 1 = .ok (.iload_n 1, 1) := by decide +kernel
theorem dX2_allAlike_2 : decode cX2_allAlike 2 = .ok (.ishl, 1) := by decide +kernel
theorem dX2_allAlike_3 : decode cX2_allAlike 3 = .ok (.istore_n 2, 1) := by decide +kernel
theorem dX2_allAlike_4 : decode cX2_allAlike 4 = .ok (.iconst 0, 1) := by decide +kernel
theorem dX2_allAlike_5 : decode cX2_allAlike 5 = .ok (.istore_n 3, 1) := by decide +kernel
theorem dX2_allAlike_6 : decode cX2_allAlike 6 = .ok (.iconst 0, 1) := by decide +kernel
theorem dX2_allAlike_7 : decode cX2_allAlike 7 = .ok (.istore 4, 2) := by decide +kernel
theorem dX2_allAlike_9 : decode cX2_allAlike 9 = .ok (.iload 4, 2) := by decide +kernel
theorem dX2_allAlike_11 : decode cX2_allAlike 11 = .ok (.iload_n 2, 1) := by decide +kernel
theorem dX2_allAlike_12 : decode cX2_allAlike 12 = .ok (.if_icmp .ge 21, 3) := by decide +kernel
theorem dX2_allAlike_15 : decode cX2_allAlike 15 = .ok (.iload_n 3, 1) := by decide +kernel
theorem dX2_allAlike_16 : decode cX2_allAlike 16 = .ok (.aload_n 0, 1) := by decide +kernel
theorem dX2_allAlike_17 : decode cX2_allAlike 17 = .ok (.getfield 11, 3) := by decide +kernel
theorem dX2_allAlike_20 : decode cX2_allAlike 20 = .ok (.iload_n 1, 1) := by decide +kernel
theorem dX2_allAlike_21 : decode cX2_allAlike 21 = .ok (.aaload, 1) := by decide +kernel
theorem dX2_allAlike_22 : decode cX2_allAlike 22 = .ok (.iload 4, 2) := by decide +kernel
theorem dX2_allAlike_24 : decode cX2_allAlike 24 = .ok (.iaload, 1) := by decide +kernel
theorem dX2_allAlike_25 : decode cX2_allAlike 25 = .ok (.iadd, 1) := by decide +kernel
theorem dX2_allAlike_26 : decode cX2_allAlike 26 = .ok (.istore_n 3, 1) := by decide +kernel
theorem dX2_allAlike_27 : decode cX2_allAlike 27 = .ok (.iinc 4 1, 3) := by decide +kernel
theorem dX2_allAlike_30 : decode cX2_allAlike 30 = .ok (.goto (-21), 3) := by decide +kernel
theorem dX2_allAlike_33 : decode cX2_allAlike 33 = .ok (.iload_n 3, 1) := by decide +kernel
theorem dX2_allAlike_34 : decode cX2_allAlike 34 = .ok (.ifCond .lt 7, 3) := by decide +kernel
theorem dX2_allAlike_37 : decode cX2_allAlike 37 = .ok (.iconst 0, 1) := by decide +kernel
theorem dX2_allAlike_38 : decode cX2_allAlike 38 = .ok (.goto 7, 3) := by decide +kernel
theorem dX2_allAlike_41 : decode cX2_allAlike 41 = .ok (.iload_n 2, 1) := by decide +kernel
theorem dX2_allAlike_42 : decode cX2_allAlike 42 = .ok (.invokestatic 53, 3) := by decide +kernel
theorem dX2_allAlike_45 : decode cX2_allAlike 45 = .ok (.ireturn, 1) := by decide +kernel
theorem dX2_eachAlone_0 : decode cX2_eachAlone 0 = .ok (.iconst 0, 1) := by decide +kernel
theorem dX2_eachAlone_1 : decode cX2_eachAlone 1 = .ok (.istore_n 2, 1) := by decide +kernel
theorem dX2_eachAlone_2 : decode cX2_eachAlone 2 = .ok (.iconst 0, 1) := by decide +kernel
theorem dX2_eachAlone_3 : decode cX2_eachAlone 3 = .ok (.istore_n 3, 1) := by decide +kernel
theorem dX2_eachAlone_4 : decode cX2_eachAlone 4 = .ok (.iload_n 3, 1) := by decide +kernel
theorem dX2_eachAlone_5 : decode cX2_eachAlone 5 = .ok (.iconst 1, 1) := by decide +kernel
theorem dX2_eachAlone_6 : decode cX2_eachAlone 6 = .ok (.iload_n 1, 1) := by decide +kernel
theorem dX2_eachAlone_7 : decode cX2_eachAlone 7 = .ok (.ishl, 1) := by decide +kernel
theorem dX2_eachAlone_8 : decode cX2_eachAlone 8 = .ok (.if_icmp .ge 26, 3) := by decide +kernel
theorem dX2_eachAlone_11 : decode cX2_eachAlone 11 = .ok (.aload_n 0, 1) := by decide +kernel
theorem dX2_eachAlone_12 : decode cX2_eachAlone 12 = .ok (.getfield 11, 3) := by decide +kernel
theorem dX2_eachAlone_15 : decode cX2_eachAlone 15 = .ok (.iload_n 1, 1) := by decide +kernel
theorem dX2_eachAlone_16 : decode cX2_eachAlone 16 = .ok (.aaload, 1) := by decide +kernel
theorem dX2_eachAlone_17 : decode cX2_eachAlone 17 = .ok (.iload_n 3, 1) := by decide +kernel
theorem dX2_eachAlone_18 : decode cX2_eachAlone 18 = .ok (.iaload, 1) := by decide +kernel
theorem dX2_eachAlone_19 : decode cX2_eachAlone 19 = .ok (.ifCond .ge 9, 3) := by decide +kernel
theorem dX2_eachAlone_22 : decode cX2_eachAlone 22 = .ok (.iload_n 2, 1) := by decide +kernel
theorem dX2_eachAlone_23 : decode cX2_eachAlone 23 = .ok (.iconst 1, 1) := by decide +kernel
theorem dX2_eachAlone_24 : decode cX2_eachAlone 24 = .ok (.iload_n 3, 1) := by decide +kernel
theorem dX2_eachAlone_25 : decode cX2_eachAlone 25 = .ok (.ishl, 1) := by decide +kernel
theorem dX2_eachAlone_26 : decode cX2_eachAlone 26 = .ok (.ior, 1) := by decide +kernel
theorem dX2_eachAlone_27 : decode cX2_eachAlone 27 = .ok (.istore_n 2, 1) := by decide +kernel
theorem dX2_eachAlone_28 : decode cX2_eachAlone 28 = .ok (.iinc 3 1, 3) := by decide +kernel
theorem dX2_eachAlone_31 : decode cX2_eachAlone 31 = .ok (.goto (-27), 3) := by decide +kernel
theorem dX2_eachAlone_34 : decode cX2_eachAlone 34 = .ok (.iload_n 2, 1) := by decide +kernel
theorem dX2_eachAlone_35 : decode cX2_eachAlone 35 = .ok (.ireturn, 1) := by decide +kernel
theorem dX2_putLesser_0 : decode cX2_putLesser 0 = .ok (.iconst 1, 1) := by decide +kernel
theorem dX2_putLesser_1 : decode cX2_putLesser 1 = .ok (.iload_n 1, 1) := by decide +kernel
theorem dX2_putLesser_2 : decode cX2_putLesser 2 = .ok (.iconst 1, 1) := by decide +kernel
theorem dX2_putLesser_3 : decode cX2_putLesser 3 = .ok (.isub, 1) := by decide +kernel
theorem dX2_putLesser_4 : decode cX2_putLesser 4 = .ok (.ishl, 1) := by decide +kernel
theorem dX2_putLesser_5 : decode cX2_putLesser 5 = .ok (.istore_n 2, 1) := by decide +kernel
theorem dX2_putLesser_6 : decode cX2_putLesser 6 = .ok (.iconst 0, 1) := by decide +kernel
theorem dX2_putLesser_7 : decode cX2_putLesser 7 = .ok (.istore_n 3, 1) := by decide +kernel
theorem dX2_putLesser_8 : decode cX2_putLesser 8 = .ok (.iload_n 3, 1) := by decide +kernel
theorem dX2_putLesser_9 : decode cX2_putLesser 9 = .ok (.iload_n 2, 1) := by decide +kernel
theorem dX2_putLesser_10 : decode cX2_putLesser 10 = .ok (.if_icmp .ge 87, 3) := by decide +kernel
theorem dX2_putLesser_13 : decode cX2_putLesser 13 = .ok (.aload_n 0, 1) := by decide +kernel
theorem dX2_putLesser_14 : decode cX2_putLesser 14 = .ok (.getfield 11, 3) := by decide +kernel
theorem dX2_putLesser_17 : decode cX2_putLesser 17 = .ok (.iload_n 1, 1) := by decide +kernel
theorem dX2_putLesser_18 : decode cX2_putLesser 18 = .ok (.aaload, 1) := by decide +kernel
theorem dX2_putLesser_19 : decode cX2_putLesser 19 = .ok (.iload_n 3, 1) := by decide +kernel
theorem dX2_putLesser_20 : decode cX2_putLesser 20 = .ok (.iaload, 1) := by decide +kernel
theorem dX2_putLesser_21 : decode cX2_putLesser 21 = .ok (.istore 4, 2) := by decide +kernel
theorem dX2_putLesser_23 : decode cX2_putLesser 23 = .ok (.aload_n 0, 1) := by decide +kernel
theorem dX2_putLesser_24 : decode cX2_putLesser 24 = .ok (.getfield 11, 3) := by decide +kernel
theorem dX2_putLesser_27 : decode cX2_putLesser 27 = .ok (.iload_n 1, 1) := by decide +kernel
theorem dX2_putLesser_28 : decode cX2_putLesser 28 = .ok (.aaload, 1) := by decide +kernel
theorem dX2_putLesser_29 : decode cX2_putLesser 29 = .ok (.iload_n 3, 1) := by decide +kernel
theorem dX2_putLesser_30 : decode cX2_putLesser 30 = .ok (.iload_n 2, 1) := by decide +kernel
theorem dX2_putLesser_31 : decode cX2_putLesser 31 = .ok (.iadd, 1) := by decide +kernel
theorem dX2_putLesser_32 : decode cX2_putLesser 32 = .ok (.iaload, 1) := by decide +kernel
theorem dX2_putLesser_33 : decode cX2_putLesser 33 = .ok (.istore 5, 2) := by decide +kernel
theorem dX2_putLesser_35 : decode cX2_putLesser 35 = .ok (.iload 4, 2) := by decide +kernel
theorem dX2_putLesser_37 : decode cX2_putLesser 37 = .ok (.invokestatic 56, 3) := by decide +kernel
theorem dX2_putLesser_40 : decode cX2_putLesser 40 = .ok (.iload 5, 2) := by decide +kernel
theorem dX2_putLesser_42 : decode cX2_putLesser 42 = .ok (.invokestatic 56, 3) := by decide +kernel
theorem dX2_putLesser_45 : decode cX2_putLesser 45 = .ok (.invokestatic 61, 3) := by decide +kernel
theorem dX2_putLesser_48 : decode cX2_putLesser 48 = .ok (.istore 6, 2) := by decide +kernel
theorem dX2_putLesser_50 : decode cX2_putLesser 50 = .ok (.aload_n 0, 1) := by decide +kernel
theorem dX2_putLesser_51 : decode cX2_putLesser 51 = .ok (.getfield 11, 3) := by decide +kernel
theorem dX2_putLesser_54 : decode cX2_putLesser 54 = .ok (.iload_n 1, 1) := by decide +kernel
theorem dX2_putLesser_55 : decode cX2_putLesser 55 = .ok (.iconst 1, 1) := by decide +kernel
theorem dX2_putLesser_56 : decode cX2_putLesser 56 = .ok (.isub, 1) := by decide +kernel
theorem dX2_putLesser_57 : decode cX2_putLesser 57 = .ok (.aaload, 1) := by decide +kernel
theorem dX2_putLesser_58 : decode cX2_putLesser 58 = .ok (.iload_n 3, 1) := by decide +kernel
theorem dX2_putLesser_59 : decode cX2_putLesser 59 = .ok (.iload 4, 2) := by decide +kernel
theorem dX2_putLesser_61 : decode cX2_putLesser 61 = .ok (.ifCond .ge 7, 3) := by decide +kernel
theorem dX2_putLesser_64 : decode cX2_putLesser 64 = .ok (.iconst 1, 1) := by decide +kernel
theorem dX2_putLesser_65 : decode cX2_putLesser 65 = .ok (.goto 4, 3) := by decide +kernel
theorem dX2_putLesser_68 : decode cX2_putLesser 68 = .ok (.iconst 0, 1) := by decide +kernel
theorem dX2_putLesser_69 : decode cX2_putLesser 69 = .ok (.iload 5, 2) := by decide +kernel
theorem dX2_putLesser_71 : decode cX2_putLesser 71 = .ok (.ifCond .ge 7, 3) := by decide +kernel
theorem dX2_putLesser_74 : decode cX2_putLesser 74 = .ok (.iconst 1, 1) := by decide +kernel
theorem dX2_putLesser_75 : decode cX2_putLesser 75 = .ok (.goto 4, 3) := by decide +kernel
theorem dX2_putLesser_78 : decode cX2_putLesser 78 = .ok (.iconst 0, 1) := by decide +kernel
theorem dX2_putLesser_79 : decode cX2_putLesser 79 = .ok (.if_icmp .ne 8, 3) := by decide +kernel
theorem dX2_putLesser_82 : decode cX2_putLesser 82 = .ok (.iload 6, 2) := by decide +kernel
theorem dX2_putLesser_84 : decode cX2_putLesser 84 = .ok (.goto 6, 3) := by decide +kernel
theorem dX2_putLesser_87 : decode cX2_putLesser 87 = .ok (.iload 6, 2) := by decide +kernel
theorem dX2_putLesser_89 : decode cX2_putLesser 89 = .ok (.ineg, 1) := by decide +kernel
theorem dX2_putLesser_90 : decode cX2_putLesser 90 = .ok (.iastore, 1) := by decide +kernel
theorem dX2_putLesser_91 : decode cX2_putLesser 91 = .ok (.iinc 3 1, 3) := by decide +kernel
theorem dX2_putLesser_94 : decode cX2_putLesser 94 = .ok (.goto (-86), 3) := by decide +kernel
theorem dX2_putLesser_97 : decode cX2_putLesser 97 = .ok (.return_, 1) := by decide +kernel
theorem dX2_putTogether_0 : decode cX2_putTogether 0 = .ok (.iconst 1, 1) := by decide +kernel
theorem dX2_putTogether_1 : decode cX2_putTogether 1 = .ok (.iload_n 1, 1) := by decide +kernel
theorem dX2_putTogether_2 : decode cX2_putTogether 2 = .ok (.iconst 1, 1) := by decide +kernel
theorem dX2_putTogether_3 : decode cX2_putTogether 3 = .ok (.isub, 1) := by decide +kernel
theorem dX2_putTogether_4 : decode cX2_putTogether 4 = .ok (.ishl, 1) := by decide +kernel
theorem dX2_putTogether_5 : decode cX2_putTogether 5 = .ok (.istore_n 3, 1) := by decide +kernel
theorem dX2_putTogether_6 : decode cX2_putTogether 6 = .ok (.iconst 0, 1) := by decide +kernel
theorem dX2_putTogether_7 : decode cX2_putTogether 7 = .ok (.istore 4, 2) := by decide +kernel
theorem dX2_putTogether_9 : decode cX2_putTogether 9 = .ok (.iload 4, 2) := by decide +kernel
theorem dX2_putTogether_11 : decode cX2_putTogether 11 = .ok (.iload_n 3, 1) := by decide +kernel
theorem dX2_putTogether_12 : decode cX2_putTogether 12 = .ok (.if_icmp .ge 61, 3) := by decide +kernel
theorem dX2_putTogether_15 : decode cX2_putTogether 15 = .ok (.aload_n 0, 1) := by decide +kernel
theorem dX2_putTogether_16 : decode cX2_putTogether 16 = .ok (.getfield 11, 3) := by decide +kernel
theorem dX2_putTogether_19 : decode cX2_putTogether 19 = .ok (.iload_n 1, 1) := by decide +kernel
theorem dX2_putTogether_20 : decode cX2_putTogether 20 = .ok (.aaload, 1) := by decide +kernel
theorem dX2_putTogether_21 : decode cX2_putTogether 21 = .ok (.iload 4, 2) := by decide +kernel
theorem dX2_putTogether_23 : decode cX2_putTogether 23 = .ok (.iload_n 3, 1) := by decide +kernel
theorem dX2_putTogether_24 : decode cX2_putTogether 24 = .ok (.iadd, 1) := by decide +kernel
theorem dX2_putTogether_25 : decode cX2_putTogether 25 = .ok (.iaload, 1) := by decide +kernel
theorem dX2_putTogether_26 : decode cX2_putTogether 26 = .ok (.istore 5, 2) := by decide +kernel
theorem dX2_putTogether_28 : decode cX2_putTogether 28 = .ok (.aload_n 0, 1) := by decide +kernel
theorem dX2_putTogether_29 : decode cX2_putTogether 29 = .ok (.getfield 11, 3) := by decide +kernel
theorem dX2_putTogether_32 : decode cX2_putTogether 32 = .ok (.iload_n 1, 1) := by decide +kernel
theorem dX2_putTogether_33 : decode cX2_putTogether 33 = .ok (.iconst 1, 1) := by decide +kernel
theorem dX2_putTogether_34 : decode cX2_putTogether 34 = .ok (.isub, 1) := by decide +kernel
theorem dX2_putTogether_35 : decode cX2_putTogether 35 = .ok (.aaload, 1) := by decide +kernel
theorem dX2_putTogether_36 : decode cX2_putTogether 36 = .ok (.iload 4, 2) := by decide +kernel
theorem dX2_putTogether_38 : decode cX2_putTogether 38 = .ok (.aload_n 0, 1) := by decide +kernel
theorem dX2_putTogether_39 : decode cX2_putTogether 39 = .ok (.getfield 11, 3) := by decide +kernel
theorem dX2_putTogether_42 : decode cX2_putTogether 42 = .ok (.iload_n 1, 1) := by decide +kernel
theorem dX2_putTogether_43 : decode cX2_putTogether 43 = .ok (.aaload, 1) := by decide +kernel
theorem dX2_putTogether_44 : decode cX2_putTogether 44 = .ok (.iload 4, 2) := by decide +kernel
theorem dX2_putTogether_46 : decode cX2_putTogether 46 = .ok (.iaload, 1) := by decide +kernel
theorem dX2_putTogether_47 : decode cX2_putTogether 47 = .ok (.iload_n 2, 1) := by decide +kernel
theorem dX2_putTogether_48 : decode cX2_putTogether 48 = .ok (.iload 4, 2) := by decide +kernel
theorem dX2_putTogether_50 : decode cX2_putTogether 50 = .ok (.iushr, 1) := by decide +kernel
theorem dX2_putTogether_51 : decode cX2_putTogether 51 = .ok (.iconst 1, 1) := by decide +kernel
theorem dX2_putTogether_52 : decode cX2_putTogether 52 = .ok (.iand, 1) := by decide +kernel
theorem dX2_putTogether_53 : decode cX2_putTogether 53 = .ok (.iconst 1, 1) := by decide +kernel
theorem dX2_putTogether_54 : decode cX2_putTogether 54 = .ok (.if_icmp .ne 9, 3) := by decide +kernel
theorem dX2_putTogether_57 : decode cX2_putTogether 57 = .ok (.iload 5, 2) := by decide +kernel
theorem dX2_putTogether_59 : decode cX2_putTogether 59 = .ok (.ineg, 1) := by decide +kernel
theorem dX2_putTogether_60 : decode cX2_putTogether 60 = .ok (.goto 5, 3) := by decide +kernel
theorem dX2_putTogether_63 : decode cX2_putTogether 63 = .ok (.iload 5, 2) := by decide +kernel
theorem dX2_putTogether_65 : decode cX2_putTogether 65 = .ok (.iadd, 1) := by decide +kernel
theorem dX2_putTogether_66 : decode cX2_putTogether 66 = .ok (.iastore, 1) := by decide +kernel
theorem dX2_putTogether_67 : decode cX2_putTogether 67 = .ok (.iinc 4 1, 3) := by decide +kernel
theorem dX2_putTogether_70 : decode cX2_putTogether 70 = .ok (.goto (-61), 3) := by decide +kernel
theorem dX2_putTogether_73 : decode cX2_putTogether 73 = .ok (.return_, 1) := by decide +kernel
theorem dX3_init_0 : decode cX3_init 0 = .ok (.aload_n 0, 1) := by decide +kernel
theorem dX3_init_1 : decode cX3_init 1 = .ok (.invokespecial 1, 3) := by decide +kernel
theorem dX3_init_4 : decode cX3_init 4 = .ok (.aload_n 0, 1) := by decide +kernel
theorem dX3_init_5 : decode cX3_init 5 = .ok (.sipush 1024, 3) := by decide +kernel
theorem dX3_init_8 : decode cX3_init 8 = .ok (.newarray .int, 2) := by decide +kernel
theorem dX3_init_10 : decode cX3_init 10 = .ok (.putfield 9, 3) := by decide +kernel
theorem dX3_init_13 : decode cX3_init 13 = .ok (.return_, 1) := by decide +kernel
set_option maxRecDepth 20000 in
theorem ggX3_weigh_J6_numberOfTrailingZeros_0f7a4 : GoodIn wsX3_weigh wsJ6_numberOfTrailingZeros_0f7a4 := goodIn_r _ [5, 6] (by decide +kernel) (by decide +kernel)
set_option maxRecDepth 20000 in
theorem gX3_weigh_J6_numberOfTrailingZeros_0f7a4 : GoodIn wsX3_weigh (va_wsS RX3 13 yJ6_numberOfTrailingZeros_0f7a4 wsJ6_numberOfTrailingZeros_0f7a4) := goodIn_app (goodIn_of _ (by decide +kernel)) ggX3_weigh_J6_numberOfTrailingZeros_0f7a4
theorem dX3_weigh_0 : decode cX3_weigh 0 = .ok (.iconst 0, 1) := by decide +kernel
theorem dX3_weigh_1 : decode cX3_weigh 1 = .ok (.istore_n 2, 1) := by decide +kernel
theorem dX3_weigh_2 : decode cX3_weigh 2 = .ok (.iload_n 2, 1) := by decide +kernel
theorem dX3_weigh_3 : decode cX3_weigh 3 = .ok (.iconst 4, 1) := by decide +kernel
theorem dX3_weigh_4 : decode cX3_weigh 4 = .ok (.if_icmp .ge 118, 3) := by decide +kernel
theorem dX3_weigh_7 : decode cX3_weigh 7 = .ok (.iload_n 2, 1) := by decide +kernel
theorem dX3_weigh_8 : decode cX3_weigh 8 = .ok (.sipush 256, 3) := by decide +kernel
theorem dX3_weigh_11 : decode cX3_weigh 11 = .ok (.imul, 1) := by decide +kernel
theorem dX3_weigh_12 : decode cX3_weigh 12 = .ok (.istore_n 3, 1) := by decide +kernel
theorem dX3_weigh_13 : decode cX3_weigh 13 = .ok (.aload_n 0, 1) := by decide +kernel
theorem dX3_weigh_14 : decode cX3_weigh 14 = .ok (.getfield 9, 3) := by decide +kernel
theorem dX3_weigh_17 : decode cX3_weigh 17 = .ok (.iload_n 3, 1) := by decide +kernel
theorem dX3_weigh_18 : decode cX3_weigh 18 = .ok (.iconst 0, 1) := by decide +kernel
theorem dX3_weigh_19 : decode cX3_weigh 19 = .ok (.iastore, 1) := by decide +kernel
theorem dX3_weigh_20 : decode cX3_weigh 20 = .ok (.iconst 0, 1) := by decide +kernel
theorem dX3_weigh_21 : decode cX3_weigh 21 = .ok (.istore 4, 2) := by decide +kernel
theorem dX3_weigh_23 : decode cX3_weigh 23 = .ok (.iload 4, 2) := by decide +kernel
theorem dX3_weigh_25 : decode cX3_weigh 25 = .ok (.bipush 8, 2) := by decide +kernel
theorem dX3_weigh_27 : decode cX3_weigh 27 = .ok (.if_icmp .ge 27, 3) := by decide +kernel
theorem dX3_weigh_30 : decode cX3_weigh 30 = .ok (.aload_n 0, 1) := by decide +kernel
theorem dX3_weigh_31 : decode cX3_weigh 31 = .ok (.getfield 9, 3) := by decide +kernel
theorem dX3_weigh_34 : decode cX3_weigh 34 = .ok (.iload_n 3, 1) := by decide +kernel
theorem dX3_weigh_35 : decode cX3_weigh 35 = .ok (.dup2, 1) := by decide +kernel
theorem dX3_weigh_36 : decode cX3_weigh 36 = .ok (.iaload, 1) := by decide +kernel
theorem dX3_weigh_37 : decode cX3_weigh 37 = .ok (.aload_n 1, 1) := by decide +kernel
theorem dX3_weigh_38 : decode cX3_weigh 38 = .ok (.bipush 8, 2) := by decide +kernel
theorem dX3_weigh_40 : decode cX3_weigh 40 = .ok (.iload_n 2, 1) := by decide +kernel
theorem dX3_weigh_41 : decode cX3_weigh 41 = .ok (.imul, 1) := by decide +kernel
theorem dX3_weigh_42 : decode cX3_weigh 42 = .ok (.iload 4, 2) := by decide +kernel
theorem dX3_weigh_44 : decode cX3_weigh 44 = .ok (.iadd, 1) := by decide +kernel
theorem dX3_weigh_45 : decode cX3_weigh 45 = .ok (.iaload, 1) := by decide +kernel
theorem dX3_weigh_46 : decode cX3_weigh 46 = .ok (.iadd, 1) := by decide +kernel
theorem dX3_weigh_47 : decode cX3_weigh 47 = .ok (.iastore, 1) := by decide +kernel
theorem dX3_weigh_48 : decode cX3_weigh 48 = .ok (.iinc 4 1, 3) := by decide +kernel
theorem dX3_weigh_51 : decode cX3_weigh 51 = .ok (.goto (-28), 3) := by decide +kernel
theorem dX3_weigh_54 : decode cX3_weigh 54 = .ok (.iconst 1, 1) := by decide +kernel
theorem dX3_weigh_55 : decode cX3_weigh 55 = .ok (.istore 4, 2) := by decide +kernel
theorem dX3_weigh_57 : decode cX3_weigh 57 = .ok (.iload 4, 2) := by decide +kernel
theorem dX3_weigh_59 : decode cX3_weigh 59 = .ok (.sipush 256, 3) := by decide +kernel
theorem dX3_weigh_62 : decode cX3_weigh 62 = .ok (.if_icmp .ge 54, 3) := by decide +kernel
theorem dX3_weigh_65 : decode cX3_weigh 65 = .ok (.iload 4, 2) := by decide +kernel
theorem dX3_weigh_67 : decode cX3_weigh 67 = .ok (.invokestatic 13, 3) := by decide +kernel
theorem dX3_weigh_70 : decode cX3_weigh 70 = .ok (.bipush 7, 2) := by decide +kernel
theorem dX3_weigh_72 : decode cX3_weigh 72 = .ok (.iand, 1) := by decide +kernel
theorem dX3_weigh_73 : decode cX3_weigh 73 = .ok (.istore 5, 2) := by decide +kernel
theorem dX3_weigh_75 : decode cX3_weigh 75 = .ok (.aload_n 0, 1) := by decide +kernel
theorem dX3_weigh_76 : decode cX3_weigh 76 = .ok (.getfield 9, 3) := by decide +kernel
theorem dX3_weigh_79 : decode cX3_weigh 79 = .ok (.iload_n 3, 1) := by decide +kernel
theorem dX3_weigh_80 : decode cX3_weigh 80 = .ok (.iload 4, 2) := by decide +kernel
theorem dX3_weigh_82 : decode cX3_weigh 82 = .ok (.iadd, 1) := by decide +kernel
theorem dX3_weigh_83 : decode cX3_weigh 83 = .ok (.aload_n 0, 1) := by decide +kernel
theorem dX3_weigh_84 : decode cX3_weigh 84 = .ok (.getfield 9, 3) := by decide +kernel
theorem dX3_weigh_87 : decode cX3_weigh 87 = .ok (.iload_n 3, 1) := by decide +kernel
theorem dX3_weigh_88 : decode cX3_weigh 88 = .ok (.iload 4, 2) := by decide +kernel
theorem dX3_weigh_90 : decode cX3_weigh 90 = .ok (.iload 4, 2) := by decide +kernel
theorem dX3_weigh_92 : decode cX3_weigh 92 = .ok (.iconst 1, 1) := by decide +kernel
theorem dX3_weigh_93 : decode cX3_weigh 93 = .ok (.isub, 1) := by decide +kernel
theorem dX3_weigh_94 : decode cX3_weigh 94 = .ok (.iand, 1) := by decide +kernel
theorem dX3_weigh_95 : decode cX3_weigh 95 = .ok (.iadd, 1) := by decide +kernel
theorem dX3_weigh_96 : decode cX3_weigh 96 = .ok (.iaload, 1) := by decide +kernel
theorem dX3_weigh_97 : decode cX3_weigh 97 = .ok (.iconst 2, 1) := by decide +kernel
theorem dX3_weigh_98 : decode cX3_weigh 98 = .ok (.aload_n 1, 1) := by decide +kernel
theorem dX3_weigh_99 : decode cX3_weigh 99 = .ok (.bipush 8, 2) := by decide +kernel
theorem dX3_weigh_101 : decode cX3_weigh 101 = .ok (.iload_n 2, 1) := by decide +kernel
theorem dX3_weigh_102 : decode cX3_weigh 102 = .ok (.imul, 1) := by decide +kernel
theorem dX3_weigh_103 : decode cX3_weigh 103 = .ok (.iload 5, 2) := by decide +kernel
theorem dX3_weigh_105 : decode cX3_weigh 105 = .ok (.iadd, 1) := by decide +kernel
theorem dX3_weigh_106 : decode cX3_weigh 106 = .ok (.iaload, 1) := by decide +kernel
theorem dX3_weigh_107 : decode cX3_weigh 107 = .ok (.imul, 1) := by decide +kernel
theorem dX3_weigh_108 : decode cX3_weigh 108 = .ok (.isub, 1) := by decide +kernel
theorem dX3_weigh_109 : decode cX3_weigh 109 = .ok (.iastore, 1) := by decide +kernel
theorem dX3_weigh_110 : decode cX3_weigh 110 = .ok (.iinc 4 1, 3) := by decide +kernel
theorem dX3_weigh_113 : decode cX3_weigh 113 = .ok (.goto (-56), 3) := by decide +kernel
theorem dX3_weigh_116 : decode cX3_weigh 116 = .ok (.iinc 2 1, 3) := by decide +kernel
theorem dX3_weigh_119 : decode cX3_weigh 119 = .ok (.goto (-117), 3) := by decide +kernel
theorem dX3_weigh_122 : decode cX3_weigh 122 = .ok (.return_, 1) := by decide +kernel
theorem dX3_sumFor_0 : decode cX3_sumFor 0 = .ok (.aload_n 0, 1) := by decide +kernel
theorem dX3_sumFor_1 : decode cX3_sumFor 1 = .ok (.getfield 9, 3) := by decide +kernel
theorem dX3_sumFor_4 : decode cX3_sumFor 4 = .ok (.iload_n 1, 1) := by decide +kernel
theorem dX3_sumFor_5 : decode cX3_sumFor 5 = .ok (.sipush 255, 3) := by decide +kernel
theorem dX3_sumFor_8 : decode cX3_sumFor 8 = .ok (.iand, 1) := by decide +kernel
theorem dX3_sumFor_9 : decode cX3_sumFor 9 = .ok (.iaload, 1) := by decide +kernel
theorem dX3_sumFor_10 : decode cX3_sumFor 10 = .ok (.aload_n 0, 1) := by decide +kernel
theorem dX3_sumFor_11 : decode cX3_sumFor 11 = .ok (.getfield 9, 3) := by decide +kernel
theorem dX3_sumFor_14 : decode cX3_sumFor 14 = .ok (.sipush 256, 3) := by decide +kernel
theorem dX3_sumFor_17 : decode cX3_sumFor 17 = .ok (.iload_n 1, 1) := by decide +kernel
theorem dX3_sumFor_18 : decode cX3_sumFor 18 = .ok (.bipush 8, 2) := by decide +kernel
theorem dX3_sumFor_20 : decode cX3_sumFor 20 = .ok (.iushr, 1) := by decide +kernel
theorem dX3_sumFor_21 : decode cX3_sumFor 21 = .ok (.sipush 255, 3) := by decide +kernel
theorem dX3_sumFor_24 : decode cX3_sumFor 24 = .ok (.iand, 1) := by decide +kernel
theorem dX3_sumFor_25 : decode cX3_sumFor 25 = .ok (.iadd, 1) := by decide +kernel
theorem dX3_sumFor_26 : decode cX3_sumFor 26 = .ok (.iaload, 1) := by decide +kernel
theorem dX3_sumFor_27 : decode cX3_sumFor 27 = .ok (.iadd, 1) := by decide +kernel
theorem dX3_sumFor_28 : decode cX3_sumFor 28 = .ok (.aload_n 0, 1) := by decide +kernel
theorem dX3_sumFor_29 : decode cX3_sumFor 29 = .ok (.getfield 9, 3) := by decide +kernel
theorem dX3_sumFor_32 : decode cX3_sumFor 32 = .ok (.sipush 512, 3) := by decide +kernel
theorem dX3_sumFor_35 : decode cX3_sumFor 35 = .ok (.iload_n 1, 1) := by decide +kernel
theorem dX3_sumFor_36 : decode cX3_sumFor 36 = .ok (.bipush 16, 2) := by decide +kernel
theorem dX3_sumFor_38 : decode cX3_sumFor 38 = .ok (.iushr, 1) := by decide +kernel
theorem dX3_sumFor_39 : decode cX3_sumFor 39 = .ok (.sipush 255, 3) := by decide +kernel
theorem dX3_sumFor_42 : decode cX3_sumFor 42 = .ok (.iand, 1) := by decide +kernel
theorem dX3_sumFor_43 : decode cX3_sumFor 43 = .ok (.iadd, 1) := by decide +kernel
theorem dX3_sumFor_44 : decode cX3_sumFor 44 = .ok (.iaload, 1) := by decide +kernel
theorem dX3_sumFor_45 : decode cX3_sumFor 45 = .ok (.iadd, 1) := by decide +kernel
theorem dX3_sumFor_46 : decode cX3_sumFor 46 = .ok (.aload_n 0, 1) := by decide +kernel
theorem dX3_sumFor_47 : decode cX3_sumFor 47 = .ok (.getfield 9, 3) := by decide +kernel
theorem dX3_sumFor_50 : decode cX3_sumFor 50 = .ok (.sipush 768, 3) := by decide +kernel
theorem dX3_sumFor_53 : decode cX3_sumFor 53 = .ok (.iload_n 1, 1) := by decide +kernel
theorem dX3_sumFor_54 : decode cX3_sumFor 54 = .ok (.bipush 24, 2) := by decide +kernel
theorem dX3_sumFor_56 : decode cX3_sumFor 56 = .ok (.iushr, 1) := by decide +kernel
theorem dX3_sumFor_57 : decode cX3_sumFor 57 = .ok (.iadd, 1) := by decide +kernel
theorem dX3_sumFor_58 : decode cX3_sumFor 58 = .ok (.iaload, 1) := by decide +kernel
theorem dX3_sumFor_59 : decode cX3_sumFor 59 = .ok (.iadd, 1) := by decide +kernel
theorem dX3_sumFor_60 : decode cX3_sumFor 60 = .ok (.ireturn, 1) := by decide +kernel
set_option maxRecDepth 20000 in
theorem ggX4_init_X5_init : GoodIn wsX4_init wsX5_init := goodIn_r _ [9, 10, 2, 3, 11, 12, 13, 14, 15, 16, 17, 18, 19, 20, 27, 28, 29, 30, 31, 24, 25, 26] (by decide +kernel) (by decide +kernel)
set_option maxRecDepth 20000 in
theorem gX4_init_X5_init_n17 : GoodIn wsX4_init (wsX5_init) := ggX4_init_X5_init
theorem dX4_init_0 : decode cX4_init 0 = .ok (.aload_n 0, 1) := by decide +kernel
theorem dX4_init_1 : decode cX4_init 1 = .ok (.invokespecial 3, 3) := by decide +kernel
theorem dX4_init_4 : decode cX4_init 4 = .ok (.aload_n 0, 1) := by decide +kernel
theorem dX4_init_5 : decode cX4_init 5 = .ok (.bipush 8, 2) := by decide +kernel
theorem dX4_init_7 : decode cX4_init 7 = .ok (.anewarray 9, 3) := by decide +kernel
theorem dX4_init_10 : decode cX4_init 10 = .ok (.putfield 11, 3) := by decide +kernel
theorem dX4_init_13 : decode cX4_init 13 = .ok (.iconst 0, 1) := by decide +kernel
theorem dX4_init_14 : decode cX4_init 14 = .ok (.istore_n 1, 1) := by decide +kernel
theorem dX4_init_15 : decode cX4_init 15 = .ok (.iload_n 1, 1) := by decide +kernel
theorem dX4_init_16 : decode cX4_init 16 = .ok (.bipush 8, 2) := by decide +kernel
theorem dX4_init_18 : decode cX4_init 18 = .ok (.if_icmp .ge 22, 3) := by decide +kernel
theorem dX4_init_21 : decode cX4_init 21 = .ok (.aload_n 0, 1) := by decide +kernel
theorem dX4_init_22 : decode cX4_init 22 = .ok (.getfield 11, 3) := by decide +kernel
theorem dX4_init_25 : decode cX4_init 25 = .ok (.iload_n 1, 1) := by decide +kernel
theorem dX4_init_26 : decode cX4_init 26 = .ok (.new 9, 3) := by decide +kernel
theorem dX4_init_29 : decode cX4_init 29 = .ok (.dup, 1) := by decide +kernel
theorem dX4_init_30 : decode cX4_init 30 = .ok (.invokespecial 17, 3) := by decide +kernel
theorem dX4_init_33 : decode cX4_init 33 = .ok (.aastore, 1) := by decide +kernel
theorem dX4_init_34 : decode cX4_init 34 = .ok (.iinc 1 1, 3) := by decide +kernel
theorem dX4_init_37 : decode cX4_init 37 = .ok (.goto (-22), 3) := by decide +kernel
theorem dX4_init_40 : decode cX4_init 40 = .ok (.return_, 1) := by decide +kernel
set_option maxRecDepth 20000 in
theorem ggX4_keep_X5_copy : GoodIn wsX4_keep wsX5_copy := goodIn_r _ [12, 13, 14, 15, 16, 17, 18, 19, 20, 21, 22, 23, 24, 25, 26, 27, 28, 29, 30, 31, 32, 33, 34, 35, 36, 37, 38, 42, 43, 44, 45, 46, 47, 48, 49] (by decide +kernel) (by decide +kernel)
set_option maxRecDepth 20000 in
theorem gX4_keep_X5_copy : GoodIn wsX4_keep (wsV RX4 22 RX5 yX5_copy wsX5_copy) := goodIn_app (goodIn_of _ (by decide +kernel)) ggX4_keep_X5_copy
theorem dX4_keep_0 : decode cX4_keep 0 = .ok (.aload_n 0, 1) := by decide +kernel
theorem dX4_keep_1 : decode cX4_keep 1 = .ok (.getfield 11, 3) := by decide +kernel
theorem dX4_keep_4 : decode cX4_keep 4 = .ok (.aload_n 0, 1) := by decide +kernel
theorem dX4_keep_5 : decode cX4_keep 5 = .ok (.getfield 18, 3) := by decide +kernel
theorem dX4_keep_8 : decode cX4_keep 8 = .ok (.aaload, 1) := by decide +kernel
theorem dX4_keep_9 : decode cX4_keep 9 = .ok (.aload_n 1, 1) := by decide +kernel
theorem dX4_keep_10 : decode cX4_keep 10 = .ok (.invokevirtual 22, 3) := by decide +kernel
theorem dX4_keep_13 : decode cX4_keep 13 = .ok (.aload_n 0, 1) := by decide +kernel
theorem dX4_keep_14 : decode cX4_keep 14 = .ok (.aload_n 0, 1) := by decide +kernel
theorem dX4_keep_15 : decode cX4_keep 15 = .ok (.getfield 18, 3) := by decide +kernel
theorem dX4_keep_18 : decode cX4_keep 18 = .ok (.iconst 1, 1) := by decide +kernel
theorem dX4_keep_19 : decode cX4_keep 19 = .ok (.iadd, 1) := by decide +kernel
theorem dX4_keep_20 : decode cX4_keep 20 = .ok (.bipush 8, 2) := by decide +kernel
theorem dX4_keep_22 : decode cX4_keep 22 = .ok (.irem, 1) := by decide +kernel
theorem dX4_keep_23 : decode cX4_keep 23 = .ok (.putfield 18, 3) := by decide +kernel
theorem dX4_keep_26 : decode cX4_keep 26 = .ok (.aload_n 0, 1) := by decide +kernel
theorem dX4_keep_27 : decode cX4_keep 27 = .ok (.aload_n 0, 1) := by decide +kernel
theorem dX4_keep_28 : decode cX4_keep 28 = .ok (.getfield 26, 3) := by decide +kernel
theorem dX4_keep_31 : decode cX4_keep 31 = .ok (.iconst 1, 1) := by decide +kernel
theorem dX4_keep_32 : decode cX4_keep 32 = .ok (.iadd, 1) := by decide +kernel
theorem dX4_keep_33 : decode cX4_keep 33 = .ok (.bipush 8, 2) := by decide +kernel
theorem dX4_keep_35 : decode cX4_keep 35 = .ok (.invokestatic 29, 3) := by decide +kernel
theorem dX4_keep_38 : decode cX4_keep 38 = .ok (.putfield 26, 3) := by decide +kernel
theorem dX4_keep_41 : decode cX4_keep 41 = .ok (.return_, 1) := by decide +kernel
set_option maxRecDepth 20000 in
theorem ggX4_giveBack_X5_copy : GoodIn wsX4_giveBack wsX5_copy := goodIn_r _ [8, 9, 10, 11, 12, 13, 14, 15, 16, 17, 18, 19, 20, 21, 22, 23, 24, 25, 26, 27, 28, 29, 30, 31, 32, 33, 34, 38, 39, 40, 41, 42, 43, 44, 45] (by decide +kernel) (by decide +kernel)
set_option maxRecDepth 20000 in
theorem gX4_giveBack_X5_copy : GoodIn wsX4_giveBack (wsV RX4 22 RX5 yX5_copy wsX5_copy) := goodIn_app (goodIn_of _ (by decide +kernel)) ggX4_giveBack_X5_copy
theorem dX4_giveBack_0 : decode cX4_giveBack 0 = .ok (.aload_n 0, 1) := by decide +kernel
theorem dX4_giveBack_1 : decode cX4_giveBack 1 = .ok (.getfield 26, 3) := by decide +kernel
theorem dX4_giveBack_4 : decode cX4_giveBack 4 = .ok (.ifCond .le 42, 3) := by decide +kernel
theorem dX4_giveBack_7 : decode cX4_giveBack 7 = .ok (.aload_n 0, 1) := by decide +kernel
theorem dX4_giveBack_8 : decode cX4_giveBack 8 = .ok (.aload_n 0, 1) := by decide +kernel
theorem dX4_giveBack_9 : decode cX4_giveBack 9 = .ok (.getfield 18, 3) := by decide +kernel
theorem dX4_giveBack_12 : decode cX4_giveBack 12 = .ok (.bipush 8, 2) := by decide +kernel
theorem dX4_giveBack_14 : decode cX4_giveBack 14 = .ok (.iadd, 1) := by decide +kernel
theorem dX4_giveBack_15 : decode cX4_giveBack 15 = .ok (.iconst 1, 1) := by decide +kernel
theorem dX4_giveBack_16 : decode cX4_giveBack 16 = .ok (.isub, 1) := by decide +kernel
theorem dX4_giveBack_17 : decode cX4_giveBack 17 = .ok (.bipush 8, 2) := by decide +kernel
theorem dX4_giveBack_19 : decode cX4_giveBack 19 = .ok (.irem, 1) := by decide +kernel
theorem dX4_giveBack_20 : decode cX4_giveBack 20 = .ok (.putfield 18, 3) := by decide +kernel
theorem dX4_giveBack_23 : decode cX4_giveBack 23 = .ok (.aload_n 0, 1) := by decide +kernel
theorem dX4_giveBack_24 : decode cX4_giveBack 24 = .ok (.dup, 1) := by decide +kernel
theorem dX4_giveBack_25 : decode cX4_giveBack 25 = .ok (.getfield 26, 3) := by decide +kernel
theorem dX4_giveBack_28 : decode cX4_giveBack 28 = .ok (.iconst 1, 1) := by decide +kernel
theorem dX4_giveBack_29 : decode cX4_giveBack 29 = .ok (.isub, 1) := by decide +kernel
theorem dX4_giveBack_30 : decode cX4_giveBack 30 = .ok (.putfield 26, 3) := by decide +kernel
theorem dX4_giveBack_33 : decode cX4_giveBack 33 = .ok (.aload_n 1, 1) := by decide +kernel
theorem dX4_giveBack_34 : decode cX4_giveBack 34 = .ok (.aload_n 0, 1) := by decide +kernel
theorem dX4_giveBack_35 : decode cX4_giveBack 35 = .ok (.getfield 11, 3) := by decide +kernel
theorem dX4_giveBack_38 : decode cX4_giveBack 38 = .ok (.aload_n 0, 1) := by decide +kernel
theorem dX4_giveBack_39 : decode cX4_giveBack 39 = .ok (.getfield 18, 3) := by decide +kernel
theorem dX4_giveBack_42 : decode cX4_giveBack 42 = .ok (.aaload, 1) := by decide +kernel
theorem dX4_giveBack_43 : decode cX4_giveBack 43 = .ok (.invokevirtual 22, 3) := by decide +kernel
theorem dX4_giveBack_46 : decode cX4_giveBack 46 = .ok (.return_, 1) := by decide +kernel
set_option maxRecDepth 20000 in
theorem ggX5_init_X1_init : GoodIn wsX5_init wsX1_init := goodIn_r _ [11, 12, 2, 3, 8, 13, 14, 15, 16, 17, 18] (by decide +kernel) (by decide +kernel)
set_option maxRecDepth 20000 in
theorem gX5_init_X1_init_n11 : GoodIn wsX5_init (wsX1_init) := ggX5_init_X1_init
theorem dX5_init_0 : decode cX5_init 0 = .ok (.aload_n 0, 1) := by decide +kernel
theorem dX5_init_1 : decode cX5_init 1 = .ok (.invokespecial 3, 3) := by decide +kernel
theorem dX5_init_4 : decode cX5_init 4 = .ok (.aload_n 0, 1) := by decide +kernel
theorem dX5_init_5 : decode cX5_init 5 = .ok (.new 9, 3) := by decide +kernel
theorem dX5_init_8 : decode cX5_init 8 = .ok (.dup, 1) := by decide +kernel
theorem dX5_init_9 : decode cX5_init 9 = .ok (.invokespecial 11, 3) := by decide +kernel
theorem dX5_init_12 : decode cX5_init 12 = .ok (.putfield 12, 3) := by decide +kernel
theorem dX5_init_15 : decode cX5_init 15 = .ok (.aload_n 0, 1) := by decide +kernel
theorem dX5_init_16 : decode cX5_init 16 = .ok (.bipush 32, 2) := by decide +kernel
theorem dX5_init_18 : decode cX5_init 18 = .ok (.newarray .int, 2) := by decide +kernel
theorem dX5_init_20 : decode cX5_init 20 = .ok (.putfield 18, 3) := by decide +kernel
theorem dX5_init_23 : decode cX5_init 23 = .ok (.return_, 1) := by decide +kernel
set_option maxRecDepth 20000 in
theorem ggX5_start_X1_become : GoodIn wsX5_start wsX1_become := goodIn_r _ [8, 9, 10, 11, 12, 13, 14, 15, 16, 17, 18, 19, 20, 28, 29, 30, 31, 32] (by decide +kernel) (by decide +kernel)
set_option maxRecDepth 20000 in
theorem gX5_start_X1_become : GoodIn wsX5_start (wsV RX5 22 RX1 yX1_become wsX1_become) := goodIn_app (goodIn_of _ (by decide +kernel)) ggX5_start_X1_become
set_option maxRecDepth 20000 in
theorem ggX5_start_J7_fill_53178 : GoodIn wsX5_start wsJ7_fill_53178 := goodIn_r _ [24] (by decide +kernel) (by decide +kernel)
set_option maxRecDepth 20000 in
theorem gX5_start_J7_fill_53178 : GoodIn wsX5_start (va_wsS RX5 30 yJ7_fill_53178 wsJ7_fill_53178) := goodIn_app (goodIn_of _ (by decide +kernel)) ggX5_start_J7_fill_53178
theorem dX5_start_0 : decode cX5_start 0 = .ok (.aload_n 0, 1) := by decide +kernel
theorem dX5_start_1 : decode cX5_start 1 = .ok (.getfield 12, 3) := by decide +kernel
theorem dX5_start_4 : decode cX5_start 4 = .ok (.iload_n 1, 1) := by decide +kernel
theorem dX5_start_5 : decode cX5_start 5 = .ok (.iload_n 2, 1) := by decide +kernel
theorem dX5_start_6 : decode cX5_start 6 = .ok (.invokevirtual 22, 3) := by decide +kernel
theorem dX5_start_9 : decode cX5_start 9 = .ok (.aload_n 0, 1) := by decide +kernel
theorem dX5_start_10 : decode cX5_start 10 = .ok (.iconst 0, 1) := by decide +kernel
theorem dX5_start_11 : decode cX5_start 11 = .ok (.putfield 26, 3) := by decide +kernel
theorem dX5_start_14 : decode cX5_start 14 = .ok (.aload_n 0, 1) := by decide +kernel
theorem dX5_start_15 : decode cX5_start 15 = .ok (.getfield 18, 3) := by decide +kernel
theorem dX5_start_18 : decode cX5_start 18 = .ok (.iconst 0, 1) := by decide +kernel
theorem dX5_start_19 : decode cX5_start 19 = .ok (.invokestatic 30, 3) := by decide +kernel
theorem dX5_start_22 : decode cX5_start 22 = .ok (.return_, 1) := by decide +kernel
set_option maxRecDepth 20000 in
theorem ggX5_copy_X1_become : GoodIn wsX5_copy wsX1_become := goodIn_r _ [14, 15, 16, 17, 18, 19, 20, 21, 22, 23, 24, 25, 26, 30, 31, 32, 33, 34] (by decide +kernel) (by decide +kernel)
set_option maxRecDepth 20000 in
theorem gX5_copy_X1_become : GoodIn wsX5_copy (wsV RX5 22 RX1 yX1_become wsX1_become) := goodIn_app (goodIn_of _ (by decide +kernel)) ggX5_copy_X1_become
theorem dX5_copy_0 : decode cX5_copy 0 = .ok (.aload_n 0, 1) := by decide +kernel
theorem dX5_copy_1 : decode cX5_copy 1 = .ok (.getfield 12, 3) := by decide +kernel
theorem dX5_copy_4 : decode cX5_copy 4 = .ok (.aload_n 1, 1) := by decide +kernel
theorem dX5_copy_5 : decode cX5_copy 5 = .ok (.getfield 12, 3) := by decide +kernel
theorem dX5_copy_8 : decode cX5_copy 8 = .ok (.getfield 36, 3) := by decide +kernel
theorem dX5_copy_11 : decode cX5_copy 11 = .ok (.aload_n 1, 1) := by decide +kernel
theorem dX5_copy_12 : decode cX5_copy 12 = .ok (.getfield 12, 3) := by decide +kernel
theorem dX5_copy_15 : decode cX5_copy 15 = .ok (.getfield 39, 3) := by decide +kernel
theorem dX5_copy_18 : decode cX5_copy 18 = .ok (.invokevirtual 22, 3) := by decide +kernel
theorem dX5_copy_21 : decode cX5_copy 21 = .ok (.aload_n 0, 1) := by decide +kernel
theorem dX5_copy_22 : decode cX5_copy 22 = .ok (.aload_n 1, 1) := by decide +kernel
theorem dX5_copy_23 : decode cX5_copy 23 = .ok (.getfield 26, 3) := by decide +kernel
theorem dX5_copy_26 : decode cX5_copy 26 = .ok (.putfield 26, 3) := by decide +kernel
theorem dX5_copy_29 : decode cX5_copy 29 = .ok (.aload_n 1, 1) := by decide +kernel
theorem dX5_copy_30 : decode cX5_copy 30 = .ok (.getfield 18, 3) := by decide +kernel
theorem dX5_copy_33 : decode cX5_copy 33 = .ok (.iconst 0, 1) := by decide +kernel
theorem dX5_copy_34 : decode cX5_copy 34 = .ok (.aload_n 0, 1) := by decide +kernel
theorem dX5_copy_35 : decode cX5_copy 35 = .ok (.getfield 18, 3) := by decide +kernel
theorem dX5_copy_38 : decode cX5_copy 38 = .ok (.iconst 0, 1) := by decide +kernel
theorem dX5_copy_39 : decode cX5_copy 39 = .ok (.bipush 32, 2) := by decide +kernel
theorem dX5_copy_41 : decode cX5_copy 41 = .ok (.invokestatic 42, 3) := by decide +kernel
theorem dX5_copy_44 : decode cX5_copy 44 = .ok (.return_, 1) := by decide +kernel
theorem dX5_bit_0 : decode cX5_bit 0 = .ok (.aload_n 0, 1) := by decide +kernel
theorem dX5_bit_1 : decode cX5_bit 1 = .ok (.getfield 26, 3) := by decide +kernel
theorem dX5_bit_4 : decode cX5_bit 4 = .ok (.iload_n 1, 1) := by decide +kernel
theorem dX5_bit_5 : decode cX5_bit 5 = .ok (.iushr, 1) := by decide +kernel
theorem dX5_bit_6 : decode cX5_bit 6 = .ok (.iconst 1, 1) := by decide +kernel
theorem dX5_bit_7 : decode cX5_bit 7 = .ok (.iand, 1) := by decide +kernel
theorem dX5_bit_8 : decode cX5_bit 8 = .ok (.ireturn, 1) := by decide +kernel
theorem dX6_init_0 : decode cX6_init 0 = .ok (.aload_n 0, 1) := by decide +kernel
theorem dX6_init_1 : decode cX6_init 1 = .ok (.invokespecial 3, 3) := by decide +kernel
theorem dX6_init_4 : decode cX6_init 4 = .ok (.aload_n 0, 1) := by decide +kernel
theorem dX6_init_5 : decode cX6_init 5 = .ok (.bipush 120, 2) := by decide +kernel
theorem dX6_init_7 : decode cX6_init 7 = .ok (.newarray .byte, 2) := by decide +kernel
theorem dX6_init_9 : decode cX6_init 9 = .ok (.putfield 9, 3) := by decide +kernel
theorem dX6_init_12 : decode cX6_init 12 = .ok (.aload_n 0, 1) := by decide +kernel
theorem dX6_init_13 : decode cX6_init 13 = .ok (.iconst (-1), 1) := by decide +kernel
theorem dX6_init_14 : decode cX6_init 14 = .ok (.putfield 15, 3) := by decide +kernel
theorem dX6_init_17 : decode cX6_init 17 = .ok (.return_, 1) := by decide +kernel
theorem dX6_append_0 : decode cX6_append 0 = .ok (.aload_n 0, 1) := by decide +kernel
theorem dX6_append_1 : decode cX6_append 1 = .ok (.getfield 19, 3) := by decide +kernel
theorem dX6_append_4 : decode cX6_append 4 = .ok (.bipush 120, 2) := by decide +kernel
theorem dX6_append_6 : decode cX6_append 6 = .ok (.if_icmp .ge 24, 3) := by decide +kernel
theorem dX6_append_9 : decode cX6_append 9 = .ok (.aload_n 0, 1) := by decide +kernel
theorem dX6_append_10 : decode cX6_append 10 = .ok (.getfield 9, 3) := by decide +kernel
theorem dX6_append_13 : decode cX6_append 13 = .ok (.aload_n 0, 1) := by decide +kernel
theorem dX6_append_14 : decode cX6_append 14 = .ok (.getfield 19, 3) := by decide +kernel
theorem dX6_append_17 : decode cX6_append 17 = .ok (.iload_n 1, 1) := by decide +kernel
theorem dX6_append_18 : decode cX6_append 18 = .ok (.i2b, 1) := by decide +kernel
theorem dX6_append_19 : decode cX6_append 19 = .ok (.bastore, 1) := by decide +kernel
theorem dX6_append_20 : decode cX6_append 20 = .ok (.aload_n 0, 1) := by decide +kernel
theorem dX6_append_21 : decode cX6_append 21 = .ok (.dup, 1) := by decide +kernel
theorem dX6_append_22 : decode cX6_append 22 = .ok (.getfield 19, 3) := by decide +kernel
theorem dX6_append_25 : decode cX6_append 25 = .ok (.iconst 1, 1) := by decide +kernel
theorem dX6_append_26 : decode cX6_append 26 = .ok (.iadd, 1) := by decide +kernel
theorem dX6_append_27 : decode cX6_append 27 = .ok (.putfield 19, 3) := by decide +kernel
theorem dX6_append_30 : decode cX6_append 30 = .ok (.return_, 1) := by decide +kernel
theorem dX6_rewind_0 : decode cX6_rewind 0 = .ok (.aload_n 0, 1) := by decide +kernel
theorem dX6_rewind_1 : decode cX6_rewind 1 = .ok (.iconst 0, 1) := by decide +kernel
theorem dX6_rewind_2 : decode cX6_rewind 2 = .ok (.putfield 22, 3) := by decide +kernel
theorem dX6_rewind_5 : decode cX6_rewind 5 = .ok (.aload_n 0, 1) := by decide +kernel
theorem dX6_rewind_6 : decode cX6_rewind 6 = .ok (.iconst (-1), 1) := by decide +kernel
theorem dX6_rewind_7 : decode cX6_rewind 7 = .ok (.putfield 15, 3) := by decide +kernel
theorem dX6_rewind_10 : decode cX6_rewind 10 = .ok (.return_, 1) := by decide +kernel
set_option maxRecDepth 20000 in
theorem ggX6_isAtEnd_X6_skipBlanks : GoodIn wsX6_isAtEnd wsX6_skipBlanks := goodIn_r _ [7, 1, 2, 8, 9, 10, 11, 12] (by decide +kernel) (by decide +kernel)
set_option maxRecDepth 20000 in
theorem gX6_isAtEnd_X6_skipBlanks : GoodIn wsX6_isAtEnd (wsV RX6 25 RX6 yX6_skipBlanks wsX6_skipBlanks) := goodIn_app (goodIn_of _ (by decide +kernel)) ggX6_isAtEnd_X6_skipBlanks
theorem dX6_isAtEnd_0 : decode cX6_isAtEnd 0 = .ok (.aload_n 0, 1) := by decide +kernel
theorem dX6_isAtEnd_1 : decode cX6_isAtEnd 1 = .ok (.invokevirtual 25, 3) := by decide +kernel
theorem dX6_isAtEnd_4 : decode cX6_isAtEnd 4 = .ok (.aload_n 0, 1) := by decide +kernel
theorem dX6_isAtEnd_5 : decode cX6_isAtEnd 5 = .ok (.getfield 22, 3) := by decide +kernel
theorem dX6_isAtEnd_8 : decode cX6_isAtEnd 8 = .ok (.aload_n 0, 1) := by decide +kernel
theorem dX6_isAtEnd_9 : decode cX6_isAtEnd 9 = .ok (.getfield 19, 3) := by decide +kernel
theorem dX6_isAtEnd_12 : decode cX6_isAtEnd 12 = .ok (.if_icmp .lt 7, 3) := by decide +kernel
theorem dX6_isAtEnd_15 : decode cX6_isAtEnd 15 = .ok (.iconst 1, 1) := by decide +kernel
theorem dX6_isAtEnd_16 : decode cX6_isAtEnd 16 = .ok (.goto 4, 3) := by decide +kernel
theorem dX6_isAtEnd_19 : decode cX6_isAtEnd 19 = .ok (.iconst 0, 1) := by decide +kernel
theorem dX6_isAtEnd_20 : decode cX6_isAtEnd 20 = .ok (.ireturn, 1) := by decide +kernel
set_option maxRecDepth 20000 in
theorem ggX6_readOneOf_X6_isAtEnd : GoodIn wsX6_readOneOf wsX6_isAtEnd := goodIn_r _ [7, 2, 8, 9, 10, 11, 6, 12, 1, 107, 108, 109, 110] (by decide +kernel) (by decide +kernel)
set_option maxRecDepth 20000 in
theorem gX6_readOneOf_X6_isAtEnd : GoodIn wsX6_readOneOf (wsV RX6 28 RX6 yX6_isAtEnd wsX6_isAtEnd) := goodIn_app (goodIn_of _ (by decide +kernel)) ggX6_readOneOf_X6_isAtEnd
set_option maxRecDepth 20000 in
theorem ggX6_readOneOf_J0_indexOf_0f7a4 : GoodIn wsX6_readOneOf wsJ0_indexOf_0f7a4 := goodIn_r _ [17, 18, 19, 20, 16, 21, 22, 23, 24, 25, 26, 27, 28, 29, 30, 31, 32, 33, 34, 35, 36, 37, 38, 39, 40, 41, 42, 43, 44, 45, 46, 47, 48, 49, 50, 51, 52, 53, 54, 55, 56, 57, 58, 59, 60, 61, 62, 63, 64, 65, 66, 67, 68, 69, 70, 71, 72, 73, 74, 75, 76, 77, 78, 79, 80, 81, 82, 83, 84, 85, 86, 87, 88, 89, 90, 91, 92, 93, 94, 95, 96, 97, 98, 99, 100, 101] (by decide +kernel) (by decide +kernel)
set_option maxRecDepth 20000 in
theorem gX6_readOneOf_J0_indexOf_0f7a4 : GoodIn wsX6_readOneOf (wsV RX6 32 RJ0 yJ0_indexOf_0f7a4 wsJ0_indexOf_0f7a4) := goodIn_app (goodIn_of _ (by decide +kernel)) ggX6_readOneOf_J0_indexOf_0f7a4
set_option maxRecDepth 20000 in
theorem ggX6_readOneOf_X6_failAt : GoodIn wsX6_readOneOf wsX6_failAt := goodIn_r _ [105, 106, 107, 108, 109, 110] (by decide +kernel) (by decide +kernel)
set_option maxRecDepth 20000 in
theorem gX6_readOneOf_X6_failAt : GoodIn wsX6_readOneOf (wsV RX6 38 RX6 yX6_failAt wsX6_failAt) := goodIn_app (goodIn_of _ (by decide +kernel)) ggX6_readOneOf_X6_failAt
theorem dX6_readOneOf_0 : decode cX6_readOneOf 0 = .ok (.aload_n 0, 1) := by decide +kernel
theorem dX6_readOneOf_1 : decode cX6_readOneOf 1 = .ok (.invokevirtual 28, 3) := by decide +kernel
theorem dX6_readOneOf_4 : decode cX6_readOneOf 4 = .ok (.ifCond .ne 20, 3) := by decide +kernel
theorem dX6_readOneOf_7 : decode cX6_readOneOf 7 = .ok (.aload_n 1, 1) := by decide +kernel
theorem dX6_readOneOf_8 : decode cX6_readOneOf 8 = .ok (.aload_n 0, 1) := by decide +kernel
theorem dX6_readOneOf_9 : decode cX6_readOneOf 9 = .ok (.getfield 9, 3) := by decide +kernel
theorem dX6_readOneOf_12 : decode cX6_readOneOf 12 = .ok (.aload_n 0, 1) := by decide +kernel
theorem dX6_readOneOf_13 : decode cX6_readOneOf 13 = .ok (.getfield 22, 3) := by decide +kernel
theorem dX6_readOneOf_16 : decode cX6_readOneOf 16 = .ok (.baload, 1) := by decide +kernel
theorem dX6_readOneOf_17 : decode cX6_readOneOf 17 = .ok (.i2c, 1) := by decide +kernel
theorem dX6_readOneOf_18 : decode cX6_readOneOf 18 = .ok (.invokevirtual 32, 3) := by decide +kernel
theorem dX6_readOneOf_21 : decode cX6_readOneOf 21 = .ok (.ifCond .ge 13, 3) := by decide +kernel
theorem dX6_readOneOf_24 : decode cX6_readOneOf 24 = .ok (.aload_n 0, 1) := by decide +kernel
theorem dX6_readOneOf_25 : decode cX6_readOneOf 25 = .ok (.aload_n 0, 1) := by decide +kernel
theorem dX6_readOneOf_26 : decode cX6_readOneOf 26 = .ok (.getfield 22, 3) := by decide +kernel
theorem dX6_readOneOf_29 : decode cX6_readOneOf 29 = .ok (.invokevirtual 38, 3) := by decide +kernel
theorem dX6_readOneOf_32 : decode cX6_readOneOf 32 = .ok (.iconst (-1), 1) := by decide +kernel
theorem dX6_readOneOf_33 : decode cX6_readOneOf 33 = .ok (.ireturn, 1) := by decide +kernel
theorem dX6_readOneOf_34 : decode cX6_readOneOf 34 = .ok (.aload_n 0, 1) := by decide +kernel
theorem dX6_readOneOf_35 : decode cX6_readOneOf 35 = .ok (.dup, 1) := by decide +kernel
theorem dX6_readOneOf_36 : decode cX6_readOneOf 36 = .ok (.getfield 22, 3) := by decide +kernel
theorem dX6_readOneOf_39 : decode cX6_readOneOf 39 = .ok (.iconst 1, 1) := by decide +kernel
theorem dX6_readOneOf_40 : decode cX6_readOneOf 40 = .ok (.iadd, 1) := by decide +kernel
theorem dX6_readOneOf_41 : decode cX6_readOneOf 41 = .ok (.putfield 22, 3) := by decide +kernel
theorem dX6_readOneOf_44 : decode cX6_readOneOf 44 = .ok (.aload_n 0, 1) := by decide +kernel
theorem dX6_readOneOf_45 : decode cX6_readOneOf 45 = .ok (.getfield 9, 3) := by decide +kernel
theorem dX6_readOneOf_48 : decode cX6_readOneOf 48 = .ok (.aload_n 0, 1) := by decide +kernel
theorem dX6_readOneOf_49 : decode cX6_readOneOf 49 = .ok (.getfield 22, 3) := by decide +kernel
theorem dX6_readOneOf_52 : decode cX6_readOneOf 52 = .ok (.iconst 1, 1) := by decide +kernel
theorem dX6_readOneOf_53 : decode cX6_readOneOf 53 = .ok (.isub, 1) := by decide +kernel
theorem dX6_readOneOf_54 : decode cX6_readOneOf 54 = .ok (.baload, 1) := by decide +kernel
theorem dX6_readOneOf_55 : decode cX6_readOneOf 55 = .ok (.ireturn, 1) := by decide +kernel
set_option maxRecDepth 20000 in
theorem ggX6_readNumber_X6_skipBlanks : GoodIn wsX6_readNumber wsX6_skipBlanks := goodIn_r _ [8, 1, 2, 3, 14, 15, 16, 17] (by decide +kernel) (by decide +kernel)
set_option maxRecDepth 20000 in
theorem gX6_readNumber_X6_skipBlanks : GoodIn wsX6_readNumber (wsV RX6 25 RX6 yX6_skipBlanks wsX6_skipBlanks) := goodIn_app (goodIn_of _ (by decide +kernel)) ggX6_readNumber_X6_skipBlanks
set_option maxRecDepth 20000 in
theorem ggX6_readNumber_X6_failAt : GoodIn wsX6_readNumber wsX6_failAt := goodIn_r _ [12, 13, 14, 15, 16, 17] (by decide +kernel) (by decide +kernel)
set_option maxRecDepth 20000 in
theorem gX6_readNumber_X6_failAt : GoodIn wsX6_readNumber (wsV RX6 38 RX6 yX6_failAt wsX6_failAt) := goodIn_app (goodIn_of _ (by decide +kernel)) ggX6_readNumber_X6_failAt
theorem dX6_readNumber_0 : decode cX6_readNumber 0 = .ok (.aload_n 0, 1) := by decide +kernel
theorem dX6_readNumber_1 : decode cX6_readNumber 1 = .ok (.invokevirtual 25, 3) := by decide +kernel
theorem dX6_readNumber_4 : decode cX6_readNumber 4 = .ok (.aload_n 0, 1) := by decide +kernel
theorem dX6_readNumber_5 : decode cX6_readNumber 5 = .ok (.getfield 22, 3) := by decide +kernel
theorem dX6_readNumber_8 : decode cX6_readNumber 8 = .ok (.istore_n 3, 1) := by decide +kernel
theorem dX6_readNumber_9 : decode cX6_readNumber 9 = .ok (.iload_n 1, 1) := by decide +kernel
theorem dX6_readNumber_10 : decode cX6_readNumber 10 = .ok (.ifCond .ge 32, 3) := by decide +kernel
theorem dX6_readNumber_13 : decode cX6_readNumber 13 = .ok (.aload_n 0, 1) := by decide +kernel
theorem dX6_readNumber_14 : decode cX6_readNumber 14 = .ok (.getfield 22, 3) := by decide +kernel
theorem dX6_readNumber_17 : decode cX6_readNumber 17 = .ok (.aload_n 0, 1) := by decide +kernel
theorem dX6_readNumber_18 : decode cX6_readNumber 18 = .ok (.getfield 19, 3) := by decide +kernel
theorem dX6_readNumber_21 : decode cX6_readNumber 21 = .ok (.if_icmp .ge 21, 3) := by decide +kernel
theorem dX6_readNumber_24 : decode cX6_readNumber 24 = .ok (.aload_n 0, 1) := by decide +kernel
theorem dX6_readNumber_25 : decode cX6_readNumber 25 = .ok (.getfield 9, 3) := by decide +kernel
theorem dX6_readNumber_28 : decode cX6_readNumber 28 = .ok (.aload_n 0, 1) := by decide +kernel
theorem dX6_readNumber_29 : decode cX6_readNumber 29 = .ok (.getfield 22, 3) := by decide +kernel
theorem dX6_readNumber_32 : decode cX6_readNumber 32 = .ok (.baload, 1) := by decide +kernel
theorem dX6_readNumber_33 : decode cX6_readNumber 33 = .ok (.bipush 45, 2) := by decide +kernel
theorem dX6_readNumber_35 : decode cX6_readNumber 35 = .ok (.if_icmp .ne 7, 3) := by decide +kernel
theorem dX6_readNumber_38 : decode cX6_readNumber 38 = .ok (.iconst 1, 1) := by decide +kernel
theorem dX6_readNumber_39 : decode cX6_readNumber 39 = .ok (.goto 4, 3) := by decide +kernel
theorem dX6_readNumber_42 : decode cX6_readNumber 42 = .ok (.iconst 0, 1) := by decide +kernel
theorem dX6_readNumber_43 : decode cX6_readNumber 43 = .ok (.istore 4, 2) := by decide +kernel
theorem dX6_readNumber_45 : decode cX6_readNumber 45 = .ok (.iload 4, 2) := by decide +kernel
theorem dX6_readNumber_47 : decode cX6_readNumber 47 = .ok (.ifCond .eq 13, 3) := by decide +kernel
theorem dX6_readNumber_50 : decode cX6_readNumber 50 = .ok (.aload_n 0, 1) := by decide +kernel
theorem dX6_readNumber_51 : decode cX6_readNumber 51 = .ok (.dup, 1) := by decide +kernel
theorem dX6_readNumber_52 : decode cX6_readNumber 52 = .ok (.getfield 22, 3) := by decide +kernel
theorem dX6_readNumber_55 : decode cX6_readNumber 55 = .ok (.iconst 1, 1) := by decide +kernel
theorem dX6_readNumber_56 : decode cX6_readNumber 56 = .ok (.iadd, 1) := by decide +kernel
theorem dX6_readNumber_57 : decode cX6_readNumber 57 = .ok (.putfield 22, 3) := by decide +kernel
theorem dX6_readNumber_60 : decode cX6_readNumber 60 = .ok (.aload_n 0, 1) := by decide +kernel
theorem dX6_readNumber_61 : decode cX6_readNumber 61 = .ok (.getfield 22, 3) := by decide +kernel
theorem dX6_readNumber_64 : decode cX6_readNumber 64 = .ok (.istore 5, 2) := by decide +kernel
theorem dX6_readNumber_66 : decode cX6_readNumber 66 = .ok (.iconst 0, 1) := by decide +kernel
theorem dX6_readNumber_67 : decode cX6_readNumber 67 = .ok (.istore 6, 2) := by decide +kernel
theorem dX6_readNumber_69 : decode cX6_readNumber 69 = .ok (.aload_n 0, 1) := by decide +kernel
theorem dX6_readNumber_70 : decode cX6_readNumber 70 = .ok (.getfield 22, 3) := by decide +kernel
theorem dX6_readNumber_73 : decode cX6_readNumber 73 = .ok (.aload_n 0, 1) := by decide +kernel
theorem dX6_readNumber_74 : decode cX6_readNumber 74 = .ok (.getfield 19, 3) := by decide +kernel
theorem dX6_readNumber_77 : decode cX6_readNumber 77 = .ok (.if_icmp .ge 64, 3) := by decide +kernel
theorem dX6_readNumber_80 : decode cX6_readNumber 80 = .ok (.aload_n 0, 1) := by decide +kernel
theorem dX6_readNumber_81 : decode cX6_readNumber 81 = .ok (.getfield 9, 3) := by decide +kernel
theorem dX6_readNumber_84 : decode cX6_readNumber 84 = .ok (.aload_n 0, 1) := by decide +kernel
theorem dX6_readNumber_85 : decode cX6_readNumber 85 = .ok (.getfield 22, 3) := by decide +kernel
theorem dX6_readNumber_88 : decode cX6_readNumber 88 = .ok (.baload, 1) := by decide +kernel
theorem dX6_readNumber_89 : decode cX6_readNumber 89 = .ok (.bipush 48, 2) := by decide +kernel
theorem dX6_readNumber_91 : decode cX6_readNumber 91 = .ok (.if_icmp .lt 50, 3) := by decide +kernel
theorem dX6_readNumber_94 : decode cX6_readNumber 94 = .ok (.aload_n 0, 1) := by decide +kernel
theorem dX6_readNumber_95 : decode cX6_readNumber 95 = .ok (.getfield 9, 3) := by decide +kernel
theorem dX6_readNumber_98 : decode cX6_readNumber 98 = .ok (.aload_n 0, 1) := by decide +kernel
theorem dX6_readNumber_99 : decode cX6_readNumber 99 = .ok (.getfield 22, 3) := by decide +kernel
theorem dX6_readNumber_102 : decode cX6_readNumber 102 = .ok (.baload, 1) := by decide +kernel
theorem dX6_readNumber_103 : decode cX6_readNumber 103 = .ok (.bipush 57, 2) := by decide +kernel
theorem dX6_readNumber_105 : decode cX6_readNumber 105 = .ok (.if_icmp .gt 36, 3) := by decide +kernel
theorem dX6_readNumber_108 : decode cX6_readNumber 108 = .ok (.bipush 10, 2) := by decide +kernel
theorem dX6_readNumber_110 : decode cX6_readNumber 110 = .ok (.iload 6, 2) := by decide +kernel
theorem dX6_readNumber_112 : decode cX6_readNumber 112 = .ok (.imul, 1) := by decide +kernel
theorem dX6_readNumber_113 : decode cX6_readNumber 113 = .ok (.aload_n 0, 1) := by decide +kernel
theorem dX6_readNumber_114 : decode cX6_readNumber 114 = .ok (.getfield 9, 3) := by decide +kernel
theorem dX6_readNumber_117 : decode cX6_readNumber 117 = .ok (.aload_n 0, 1) := by decide +kernel
theorem dX6_readNumber_118 : decode cX6_readNumber 118 = .ok (.getfield 22, 3) := by decide +kernel
theorem dX6_readNumber_121 : decode cX6_readNumber 121 = .ok (.baload, 1) := by decide +kernel
theorem dX6_readNumber_122 : decode cX6_readNumber 122 = .ok (.iadd, 1) := by decide +kernel
theorem dX6_readNumber_123 : decode cX6_readNumber 123 = .ok (.bipush 48, 2) := by decide +kernel
theorem dX6_readNumber_125 : decode cX6_readNumber 125 = .ok (.isub, 1) := by decide +kernel
theorem dX6_readNumber_126 : decode cX6_readNumber 126 = .ok (.istore 6, 2) := by decide +kernel
theorem dX6_readNumber_128 : decode cX6_readNumber 128 = .ok (.aload_n 0, 1) := by decide +kernel
theorem dX6_readNumber_129 : decode cX6_readNumber 129 = .ok (.dup, 1) := by decide +kernel
theorem dX6_readNumber_130 : decode cX6_readNumber 130 = .ok (.getfield 22, 3) := by decide +kernel
theorem dX6_readNumber_133 : decode cX6_readNumber 133 = .ok (.iconst 1, 1) := by decide +kernel
theorem dX6_readNumber_134 : decode cX6_readNumber 134 = .ok (.iadd, 1) := by decide +kernel
theorem dX6_readNumber_135 : decode cX6_readNumber 135 = .ok (.putfield 22, 3) := by decide +kernel
theorem dX6_readNumber_138 : decode cX6_readNumber 138 = .ok (.goto (-69), 3) := by decide +kernel
theorem dX6_readNumber_141 : decode cX6_readNumber 141 = .ok (.aload_n 0, 1) := by decide +kernel
theorem dX6_readNumber_142 : decode cX6_readNumber 142 = .ok (.getfield 22, 3) := by decide +kernel
theorem dX6_readNumber_145 : decode cX6_readNumber 145 = .ok (.iload 5, 2) := by decide +kernel
theorem dX6_readNumber_147 : decode cX6_readNumber 147 = .ok (.isub, 1) := by decide +kernel
theorem dX6_readNumber_148 : decode cX6_readNumber 148 = .ok (.istore 7, 2) := by decide +kernel
theorem dX6_readNumber_150 : decode cX6_readNumber 150 = .ok (.iload 4, 2) := by decide +kernel
theorem dX6_readNumber_152 : decode cX6_readNumber 152 = .ok (.ifCond .eq 9, 3) := by decide +kernel
theorem dX6_readNumber_155 : decode cX6_readNumber 155 = .ok (.iload 6, 2) := by decide +kernel
theorem dX6_readNumber_157 : decode cX6_readNumber 157 = .ok (.ineg, 1) := by decide +kernel
theorem dX6_readNumber_158 : decode cX6_readNumber 158 = .ok (.goto 5, 3) := by decide +kernel
theorem dX6_readNumber_161 : decode cX6_readNumber 161 = .ok (.iload 6, 2) := by decide +kernel
theorem dX6_readNumber_163 : decode cX6_readNumber 163 = .ok (.istore 8, 2) := by decide +kernel
theorem dX6_readNumber_165 : decode cX6_readNumber 165 = .ok (.iload 7, 2) := by decide +kernel
theorem dX6_readNumber_167 : decode cX6_readNumber 167 = .ok (.iconst 1, 1) := by decide +kernel
theorem dX6_readNumber_168 : decode cX6_readNumber 168 = .ok (.if_icmp .lt 21, 3) := by decide +kernel
theorem dX6_readNumber_171 : decode cX6_readNumber 171 = .ok (.iload 7, 2) := by decide +kernel
theorem dX6_readNumber_173 : decode cX6_readNumber 173 = .ok (.iconst 2, 1) := by decide +kernel
theorem dX6_readNumber_174 : decode cX6_readNumber 174 = .ok (.if_icmp .gt 15, 3) := by decide +kernel
theorem dX6_readNumber_177 : decode cX6_readNumber 177 = .ok (.iload 8, 2) := by decide +kernel
theorem dX6_readNumber_179 : decode cX6_readNumber 179 = .ok (.iload_n 1, 1) := by decide +kernel
theorem dX6_readNumber_180 : decode cX6_readNumber 180 = .ok (.if_icmp .lt 9, 3) := by decide +kernel
theorem dX6_readNumber_183 : decode cX6_readNumber 183 = .ok (.iload 8, 2) := by decide +kernel
theorem dX6_readNumber_185 : decode cX6_readNumber 185 = .ok (.iload_n 2, 1) := by decide +kernel
theorem dX6_readNumber_186 : decode cX6_readNumber 186 = .ok (.if_icmp .le 10, 3) := by decide +kernel
theorem dX6_readNumber_189 : decode cX6_readNumber 189 = .ok (.aload_n 0, 1) := by decide +kernel
theorem dX6_readNumber_190 : decode cX6_readNumber 190 = .ok (.iload_n 3, 1) := by decide +kernel
theorem dX6_readNumber_191 : decode cX6_readNumber 191 = .ok (.invokevirtual 38, 3) := by decide +kernel
theorem dX6_readNumber_194 : decode cX6_readNumber 194 = .ok (.iload_n 1, 1) := by decide +kernel
theorem dX6_readNumber_195 : decode cX6_readNumber 195 = .ok (.ireturn, 1) := by decide +kernel
theorem dX6_readNumber_196 : decode cX6_readNumber 196 = .ok (.iload 8, 2) := by decide +kernel
theorem dX6_readNumber_198 : decode cX6_readNumber 198 = .ok (.ireturn, 1) := by decide +kernel
set_option maxRecDepth 20000 in
theorem ggX6_readHex_X6_skipBlanks : GoodIn wsX6_readHex wsX6_skipBlanks := goodIn_r _ [8, 1, 2, 3, 17, 18, 19, 20] (by decide +kernel) (by decide +kernel)
set_option maxRecDepth 20000 in
theorem gX6_readHex_X6_skipBlanks : GoodIn wsX6_readHex (wsV RX6 25 RX6 yX6_skipBlanks wsX6_skipBlanks) := goodIn_app (goodIn_of _ (by decide +kernel)) ggX6_readHex_X6_skipBlanks
set_option maxRecDepth 20000 in
theorem ggX6_readHex_X6_hexValue : GoodIn wsX6_readHex wsX6_hexValue := goodIn_r _ [11] (by decide +kernel) (by decide +kernel)
set_option maxRecDepth 20000 in
theorem gX6_readHex_X6_hexValue : GoodIn wsX6_readHex (va_wsS RX6 42 yX6_hexValue wsX6_hexValue) := goodIn_app (goodIn_of _ (by decide +kernel)) ggX6_readHex_X6_hexValue
set_option maxRecDepth 20000 in
theorem ggX6_readHex_X6_failAt : GoodIn wsX6_readHex wsX6_failAt := goodIn_r _ [15, 16, 17, 18, 19, 20] (by decide +kernel) (by decide +kernel)
set_option maxRecDepth 20000 in
theorem gX6_readHex_X6_failAt : GoodIn wsX6_readHex (wsV RX6 38 RX6 yX6_failAt wsX6_failAt) := goodIn_app (goodIn_of _ (by decide +kernel)) ggX6_readHex_X6_failAt
theorem dX6_readHex_0 : decode cX6_readHex 0 = .ok (.aload_n 0, 1) := by decide +kernel
theorem dX6_readHex_1 : decode cX6_readHex 1 = .ok (.invokevirtual 25, 3) := by decide +kernel
theorem dX6_readHex_4 : decode cX6_readHex 4 = .ok (.aload_n 0, 1) := by decide +kernel
theorem dX6_readHex_5 : decode cX6_readHex 5 = .ok (.getfield 22, 3) := by decide +kernel
theorem dX6_readHex_8 : decode cX6_readHex 8 = .ok (.istore_n 2, 1) := by decide +kernel
theorem dX6_readHex_9 : decode cX6_readHex 9 = .ok (.iconst 0, 1) := by decide +kernel
theorem dX6_readHex_10 : decode cX6_readHex 10 = .ok (.istore_n 3, 1) := by decide +kernel
theorem dX6_readHex_11 : decode cX6_readHex 11 = .ok (.aload_n 0, 1) := by decide +kernel
theorem dX6_readHex_12 : decode cX6_readHex 12 = .ok (.getfield 22, 3) := by decide +kernel
theorem dX6_readHex_15 : decode cX6_readHex 15 = .ok (.aload_n 0, 1) := by decide +kernel
theorem dX6_readHex_16 : decode cX6_readHex 16 = .ok (.getfield 19, 3) := by decide +kernel
theorem dX6_readHex_19 : decode cX6_readHex 19 = .ok (.if_icmp .ge 48, 3) := by decide +kernel
theorem dX6_readHex_22 : decode cX6_readHex 22 = .ok (.aload_n 0, 1) := by decide +kernel
theorem dX6_readHex_23 : decode cX6_readHex 23 = .ok (.getfield 9, 3) := by decide +kernel
theorem dX6_readHex_26 : decode cX6_readHex 26 = .ok (.aload_n 0, 1) := by decide +kernel
theorem dX6_readHex_27 : decode cX6_readHex 27 = .ok (.getfield 22, 3) := by decide +kernel
theorem dX6_readHex_30 : decode cX6_readHex 30 = .ok (.baload, 1) := by decide +kernel
theorem dX6_readHex_31 : decode cX6_readHex 31 = .ok (.invokestatic 42, 3) := by decide +kernel
theorem dX6_readHex_34 : decode cX6_readHex 34 = .ok (.ifCond .lt 33, 3) := by decide +kernel
theorem dX6_readHex_37 : decode cX6_readHex 37 = .ok (.iload_n 3, 1) := by decide +kernel
theorem dX6_readHex_38 : decode cX6_readHex 38 = .ok (.iconst 4, 1) := by decide +kernel
theorem dX6_readHex_39 : decode cX6_readHex 39 = .ok (.ishl, 1) := by decide +kernel
theorem dX6_readHex_40 : decode cX6_readHex 40 = .ok (.aload_n 0, 1) := by decide +kernel
theorem dX6_readHex_41 : decode cX6_readHex 41 = .ok (.getfield 9, 3) := by decide +kernel
theorem dX6_readHex_44 : decode cX6_readHex 44 = .ok (.aload_n 0, 1) := by decide +kernel
theorem dX6_readHex_45 : decode cX6_readHex 45 = .ok (.getfield 22, 3) := by decide +kernel
theorem dX6_readHex_48 : decode cX6_readHex 48 = .ok (.baload, 1) := by decide +kernel
theorem dX6_readHex_49 : decode cX6_readHex 49 = .ok (.invokestatic 42, 3) := by decide +kernel
theorem dX6_readHex_52 : decode cX6_readHex 52 = .ok (.ior, 1) := by decide +kernel
theorem dX6_readHex_53 : decode cX6_readHex 53 = .ok (.istore_n 3, 1) := by decide +kernel
theorem dX6_readHex_54 : decode cX6_readHex 54 = .ok (.aload_n 0, 1) := by decide +kernel
theorem dX6_readHex_55 : decode cX6_readHex 55 = .ok (.dup, 1) := by decide +kernel
theorem dX6_readHex_56 : decode cX6_readHex 56 = .ok (.getfield 22, 3) := by decide +kernel
theorem dX6_readHex_59 : decode cX6_readHex 59 = .ok (.iconst 1, 1) := by decide +kernel
theorem dX6_readHex_60 : decode cX6_readHex 60 = .ok (.iadd, 1) := by decide +kernel
theorem dX6_readHex_61 : decode cX6_readHex 61 = .ok (.putfield 22, 3) := by decide +kernel
theorem dX6_readHex_64 : decode cX6_readHex 64 = .ok (.goto (-53), 3) := by decide +kernel
theorem dX6_readHex_67 : decode cX6_readHex 67 = .ok (.aload_n 0, 1) := by decide +kernel
theorem dX6_readHex_68 : decode cX6_readHex 68 = .ok (.getfield 22, 3) := by decide +kernel
theorem dX6_readHex_71 : decode cX6_readHex 71 = .ok (.iload_n 2, 1) := by decide +kernel
theorem dX6_readHex_72 : decode cX6_readHex 72 = .ok (.isub, 1) := by decide +kernel
theorem dX6_readHex_73 : decode cX6_readHex 73 = .ok (.istore 4, 2) := by decide +kernel
theorem dX6_readHex_75 : decode cX6_readHex 75 = .ok (.iload 4, 2) := by decide +kernel
theorem dX6_readHex_77 : decode cX6_readHex 77 = .ok (.iconst 1, 1) := by decide +kernel
theorem dX6_readHex_78 : decode cX6_readHex 78 = .ok (.if_icmp .lt 18, 3) := by decide +kernel
theorem dX6_readHex_81 : decode cX6_readHex 81 = .ok (.iload 4, 2) := by decide +kernel
theorem dX6_readHex_83 : decode cX6_readHex 83 = .ok (.bipush 8, 2) := by decide +kernel
theorem dX6_readHex_85 : decode cX6_readHex 85 = .ok (.if_icmp .gt 11, 3) := by decide +kernel
theorem dX6_readHex_88 : decode cX6_readHex 88 = .ok (.iload_n 3, 1) := by decide +kernel
theorem dX6_readHex_89 : decode cX6_readHex 89 = .ok (.iload_n 1, 1) := by decide +kernel
theorem dX6_readHex_90 : decode cX6_readHex 90 = .ok (.iconst (-1), 1) := by decide +kernel
theorem dX6_readHex_91 : decode cX6_readHex 91 = .ok (.ixor, 1) := by decide +kernel
theorem dX6_readHex_92 : decode cX6_readHex 92 = .ok (.iand, 1) := by decide +kernel
theorem dX6_readHex_93 : decode cX6_readHex 93 = .ok (.ifCond .eq 10, 3) := by decide +kernel
theorem dX6_readHex_96 : decode cX6_readHex 96 = .ok (.aload_n 0, 1) := by decide +kernel
theorem dX6_readHex_97 : decode cX6_readHex 97 = .ok (.iload_n 2, 1) := by decide +kernel
theorem dX6_readHex_98 : decode cX6_readHex 98 = .ok (.invokevirtual 38, 3) := by decide +kernel
theorem dX6_readHex_101 : decode cX6_readHex 101 = .ok (.iconst 0, 1) := by decide +kernel
theorem dX6_readHex_102 : decode cX6_readHex 102 = .ok (.ireturn, 1) := by decide +kernel
theorem dX6_readHex_103 : decode cX6_readHex 103 = .ok (.iload_n 3, 1) := by decide +kernel
theorem dX6_readHex_104 : decode cX6_readHex 104 = .ok (.ireturn, 1) := by decide +kernel
theorem dX6_hexValue_0 : decode cX6_hexValue 0 = .ok (.iload_n 0, 1) := by decide +kernel
theorem dX6_hexValue_1 : decode cX6_hexValue 1 = .ok (.bipush 48, 2) := by decide +kernel
theorem dX6_hexValue_3 : decode cX6_hexValue 3 = .ok (.if_icmp .lt 14, 3) := by decide +kernel
theorem dX6_hexValue_6 : decode cX6_hexValue 6 = .ok (.iload_n 0, 1) := by decide +kernel
theorem dX6_hexValue_7 : decode cX6_hexValue 7 = .ok (.bipush 57, 2) := by decide +kernel
theorem dX6_hexValue_9 : decode cX6_hexValue 9 = .ok (.if_icmp .gt 8, 3) := by decide +kernel
theorem dX6_hexValue_12 : decode cX6_hexValue 12 = .ok (.iload_n 0, 1) := by decide +kernel
theorem dX6_hexValue_13 : decode cX6_hexValue 13 = .ok (.bipush 48, 2) := by decide +kernel
theorem dX6_hexValue_15 : decode cX6_hexValue 15 = .ok (.isub, 1) := by decide +kernel
theorem dX6_hexValue_16 : decode cX6_hexValue 16 = .ok (.ireturn, 1) := by decide +kernel
theorem dX6_hexValue_17 : decode cX6_hexValue 17 = .ok (.iload_n 0, 1) := by decide +kernel
theorem dX6_hexValue_18 : decode cX6_hexValue 18 = .ok (.bipush 97, 2) := by decide +kernel
theorem dX6_hexValue_20 : decode cX6_hexValue 20 = .ok (.if_icmp .lt 19, 3) := by decide +kernel
theorem dX6_hexValue_23 : decode cX6_hexValue 23 = .ok (.iload_n 0, 1) := by decide +kernel
theorem dX6_hexValue_24 : decode cX6_hexValue 24 = .ok (.bipush 102, 2) := by decide +kernel
theorem dX6_hexValue_26 : decode cX6_hexValue 26 = .ok (.if_icmp .gt 13, 3) := by decide +kernel
theorem dX6_hexValue_29 : decode cX6_hexValue 29 = .ok (.iload_n 0, 1) := by decide +kernel
theorem dX6_hexValue_30 : decode cX6_hexValue 30 = .ok (.bipush 97, 2) := by decide +kernel
theorem dX6_hexValue_32 : decode cX6_hexValue 32 = .ok (.isub, 1) := by decide +kernel
theorem dX6_hexValue_33 : decode cX6_hexValue 33 = .ok (.bipush 10, 2) := by decide +kernel
theorem dX6_hexValue_35 : decode cX6_hexValue 35 = .ok (.iadd, 1) := by decide +kernel
theorem dX6_hexValue_36 : decode cX6_hexValue 36 = .ok (.goto 4, 3) := by decide +kernel
theorem dX6_hexValue_39 : decode cX6_hexValue 39 = .ok (.iconst (-1), 1) := by decide +kernel
theorem dX6_hexValue_40 : decode cX6_hexValue 40 = .ok (.ireturn, 1) := by decide +kernel
theorem dX6_skipBlanks_0 : decode cX6_skipBlanks 0 = .ok (.aload_n 0, 1) := by decide +kernel
theorem dX6_skipBlanks_1 : decode cX6_skipBlanks 1 = .ok (.getfield 22, 3) := by decide +kernel
theorem dX6_skipBlanks_4 : decode cX6_skipBlanks 4 = .ok (.aload_n 0, 1) := by decide +kernel
theorem dX6_skipBlanks_5 : decode cX6_skipBlanks 5 = .ok (.getfield 19, 3) := by decide +kernel
theorem dX6_skipBlanks_8 : decode cX6_skipBlanks 8 = .ok (.if_icmp .ge 30, 3) := by decide +kernel
theorem dX6_skipBlanks_11 : decode cX6_skipBlanks 11 = .ok (.aload_n 0, 1) := by decide +kernel
theorem dX6_skipBlanks_12 : decode cX6_skipBlanks 12 = .ok (.getfield 9, 3) := by decide +kernel
theorem dX6_skipBlanks_15 : decode cX6_skipBlanks 15 = .ok (.aload_n 0, 1) := by decide +kernel
theorem dX6_skipBlanks_16 : decode cX6_skipBlanks 16 = .ok (.getfield 22, 3) := by decide +kernel
theorem dX6_skipBlanks_19 : decode cX6_skipBlanks 19 = .ok (.baload, 1) := by decide +kernel
theorem dX6_skipBlanks_20 : decode cX6_skipBlanks 20 = .ok (.bipush 32, 2) := by decide +kernel
theorem dX6_skipBlanks_22 : decode cX6_skipBlanks 22 = .ok (.if_icmp .ne 16, 3) := by decide +kernel
theorem dX6_skipBlanks_25 : decode cX6_skipBlanks 25 = .ok (.aload_n 0, 1) := by decide +kernel
theorem dX6_skipBlanks_26 : decode cX6_skipBlanks 26 = .ok (.dup, 1) := by decide +kernel
theorem dX6_skipBlanks_27 : decode cX6_skipBlanks 27 = .ok (.getfield 22, 3) := by decide +kernel
theorem dX6_skipBlanks_30 : decode cX6_skipBlanks 30 = .ok (.iconst 1, 1) := by decide +kernel
theorem dX6_skipBlanks_31 : decode cX6_skipBlanks 31 = .ok (.iadd, 1) := by decide +kernel
theorem dX6_skipBlanks_32 : decode cX6_skipBlanks 32 = .ok (.putfield 22, 3) := by decide +kernel
theorem dX6_skipBlanks_35 : decode cX6_skipBlanks 35 = .ok (.goto (-35), 3) := by decide +kernel
theorem dX6_skipBlanks_38 : decode cX6_skipBlanks 38 = .ok (.return_, 1) := by decide +kernel
theorem dX6_failAt_0 : decode cX6_failAt 0 = .ok (.aload_n 0, 1) := by decide +kernel
theorem dX6_failAt_1 : decode cX6_failAt 1 = .ok (.getfield 15, 3) := by decide +kernel
theorem dX6_failAt_4 : decode cX6_failAt 4 = .ok (.iconst (-1), 1) := by decide +kernel
theorem dX6_failAt_5 : decode cX6_failAt 5 = .ok (.if_icmp .ne 8, 3) := by decide +kernel
theorem dX6_failAt_8 : decode cX6_failAt 8 = .ok (.aload_n 0, 1) := by decide +kernel
theorem dX6_failAt_9 : decode cX6_failAt 9 = .ok (.iload_n 1, 1) := by decide +kernel
theorem dX6_failAt_10 : decode cX6_failAt 10 = .ok (.putfield 15, 3) := by decide +kernel
theorem dX6_failAt_13 : decode cX6_failAt 13 = .ok (.return_, 1) := by decide +kernel
theorem dX7_init_0 : decode cX7_init 0 = .ok (.aload_n 0, 1) := by decide +kernel
theorem dX7_init_1 : decode cX7_init 1 = .ok (.invokespecial 3, 3) := by decide +kernel
theorem dX7_init_4 : decode cX7_init 4 = .ok (.aload_n 0, 1) := by decide +kernel
theorem dX7_init_5 : decode cX7_init 5 = .ok (.bipush 16, 2) := by decide +kernel
theorem dX7_init_7 : decode cX7_init 7 = .ok (.newarray .int, 2) := by decide +kernel
theorem dX7_init_9 : decode cX7_init 9 = .ok (.putfield 9, 3) := by decide +kernel
theorem dX7_init_12 : decode cX7_init 12 = .ok (.return_, 1) := by decide +kernel
set_option maxRecDepth 20000 in
theorem ggX7_seek_X7_prepare : GoodIn wsX7_seek wsX7_prepare := goodIn_r _ [10, 11, 12, 13, 14, 15, 16, 2, 3, 17, 18, 19, 20, 21, 22, 23, 24, 25, 26, 27, 49, 50, 51, 52, 53, 43, 44, 45, 46, 47, 48] (by decide +kernel) (by decide +kernel)
set_option maxRecDepth 20000 in
theorem gX7_seek_X7_prepare : GoodIn wsX7_seek (wsV RX7 15 RX7 yX7_prepare wsX7_prepare) := goodIn_app (goodIn_of _ (by decide +kernel)) ggX7_seek_X7_prepare
set_option maxRecDepth 20000 in
theorem ggX7_seek_X7_stepTo : GoodIn wsX7_seek wsX7_stepTo := goodIn_r _ [31, 3, 16, 32, 33, 34, 35, 36, 43, 44, 45, 46, 47, 48] (by decide +kernel) (by decide +kernel)
set_option maxRecDepth 20000 in
theorem gX7_seek_X7_stepTo : GoodIn wsX7_seek (wsV RX7 26 RX7 yX7_stepTo wsX7_stepTo) := goodIn_app (goodIn_of _ (by decide +kernel)) ggX7_seek_X7_stepTo
set_option maxRecDepth 20000 in
theorem ggX7_seek_J6_bitCount_0f7a4 : GoodIn wsX7_seek wsJ6_bitCount_0f7a4 := goodIn_r _ [39, 40, 41, 42] (by decide +kernel) (by decide +kernel)
set_option maxRecDepth 20000 in
theorem gX7_seek_J6_bitCount_0f7a4 : GoodIn wsX7_seek (va_wsS RX7 33 yJ6_bitCount_0f7a4 wsJ6_bitCount_0f7a4) := goodIn_app (goodIn_of _ (by decide +kernel)) ggX7_seek_J6_bitCount_0f7a4
theorem dX7_seek_0 : decode cX7_seek 0 = .ok (.aload_n 0, 1) := by decide +kernel
theorem dX7_seek_1 : decode cX7_seek 1 = .ok (.aload_n 1, 1) := by decide +kernel
theorem dX7_seek_2 : decode cX7_seek 2 = .ok (.invokevirtual 15, 3) := by decide +kernel
theorem dX7_seek_5 : decode cX7_seek 5 = .ok (.aload_n 0, 1) := by decide +kernel
theorem dX7_seek_6 : decode cX7_seek 6 = .ok (.bipush 33, 2) := by decide +kernel
theorem dX7_seek_8 : decode cX7_seek 8 = .ok (.putfield 19, 3) := by decide +kernel
theorem dX7_seek_11 : decode cX7_seek 11 = .ok (.iconst 0, 1) := by decide +kernel
theorem dX7_seek_12 : decode cX7_seek 12 = .ok (.istore_n 3, 1) := by decide +kernel
theorem dX7_seek_13 : decode cX7_seek 13 = .ok (.iload_n 3, 1) := by decide +kernel
theorem dX7_seek_14 : decode cX7_seek 14 = .ok (.aload_n 0, 1) := by decide +kernel
theorem dX7_seek_15 : decode cX7_seek 15 = .ok (.getfield 23, 3) := by decide +kernel
theorem dX7_seek_18 : decode cX7_seek 18 = .ok (.if_icmp .ge 75, 3) := by decide +kernel
theorem dX7_seek_21 : decode cX7_seek 21 = .ok (.aload_n 0, 1) := by decide +kernel
theorem dX7_seek_22 : decode cX7_seek 22 = .ok (.iload_n 3, 1) := by decide +kernel
theorem dX7_seek_23 : decode cX7_seek 23 = .ok (.invokevirtual 26, 3) := by decide +kernel
theorem dX7_seek_26 : decode cX7_seek 26 = .ok (.aload_n 0, 1) := by decide +kernel
theorem dX7_seek_27 : decode cX7_seek 27 = .ok (.getfield 30, 3) := by decide +kernel
theorem dX7_seek_30 : decode cX7_seek 30 = .ok (.iload_n 2, 1) := by decide +kernel
theorem dX7_seek_31 : decode cX7_seek 31 = .ok (.ixor, 1) := by decide +kernel
theorem dX7_seek_32 : decode cX7_seek 32 = .ok (.invokestatic 33, 3) := by decide +kernel
theorem dX7_seek_35 : decode cX7_seek 35 = .ok (.istore 4, 2) := by decide +kernel
theorem dX7_seek_37 : decode cX7_seek 37 = .ok (.iload 4, 2) := by decide +kernel
theorem dX7_seek_39 : decode cX7_seek 39 = .ok (.aload_n 0, 1) := by decide +kernel
theorem dX7_seek_40 : decode cX7_seek 40 = .ok (.getfield 19, 3) := by decide +kernel
theorem dX7_seek_43 : decode cX7_seek 43 = .ok (.if_icmp .ge 25, 3) := by decide +kernel
theorem dX7_seek_46 : decode cX7_seek 46 = .ok (.aload_n 0, 1) := by decide +kernel
theorem dX7_seek_47 : decode cX7_seek 47 = .ok (.iload 4, 2) := by decide +kernel
theorem dX7_seek_49 : decode cX7_seek 49 = .ok (.putfield 19, 3) := by decide +kernel
theorem dX7_seek_52 : decode cX7_seek 52 = .ok (.aload_n 0, 1) := by decide +kernel
theorem dX7_seek_53 : decode cX7_seek 53 = .ok (.iconst 1, 1) := by decide +kernel
theorem dX7_seek_54 : decode cX7_seek 54 = .ok (.putfield 39, 3) := by decide +kernel
theorem dX7_seek_57 : decode cX7_seek 57 = .ok (.aload_n 0, 1) := by decide +kernel
theorem dX7_seek_58 : decode cX7_seek 58 = .ok (.aload_n 0, 1) := by decide +kernel
theorem dX7_seek_59 : decode cX7_seek 59 = .ok (.getfield 30, 3) := by decide +kernel
theorem dX7_seek_62 : decode cX7_seek 62 = .ok (.putfield 42, 3) := by decide +kernel
theorem dX7_seek_65 : decode cX7_seek 65 = .ok (.goto 22, 3) := by decide +kernel
theorem dX7_seek_68 : decode cX7_seek 68 = .ok (.iload 4, 2) := by decide +kernel
theorem dX7_seek_70 : decode cX7_seek 70 = .ok (.aload_n 0, 1) := by decide +kernel
theorem dX7_seek_71 : decode cX7_seek 71 = .ok (.getfield 19, 3) := by decide +kernel
theorem dX7_seek_74 : decode cX7_seek 74 = .ok (.if_icmp .ne 13, 3) := by decide +kernel
theorem dX7_seek_77 : decode cX7_seek 77 = .ok (.aload_n 0, 1) := by decide +kernel
theorem dX7_seek_78 : decode cX7_seek 78 = .ok (.dup, 1) := by decide +kernel
theorem dX7_seek_79 : decode cX7_seek 79 = .ok (.getfield 39, 3) := by decide +kernel
theorem dX7_seek_82 : decode cX7_seek 82 = .ok (.iconst 1, 1) := by decide +kernel
theorem dX7_seek_83 : decode cX7_seek 83 = .ok (.iadd, 1) := by decide +kernel
theorem dX7_seek_84 : decode cX7_seek 84 = .ok (.putfield 39, 3) := by decide +kernel
theorem dX7_seek_87 : decode cX7_seek 87 = .ok (.iinc 3 1, 3) := by decide +kernel
theorem dX7_seek_90 : decode cX7_seek 90 = .ok (.goto (-77), 3) := by decide +kernel
theorem dX7_seek_93 : decode cX7_seek 93 = .ok (.return_, 1) := by decide +kernel
set_option maxRecDepth 20000 in
theorem ggX7_howManyWeigh_X7_prepare : GoodIn wsX7_howManyWeigh wsX7_prepare := goodIn_r _ [7, 8, 9, 10, 11, 12, 13, 1, 2, 14, 15, 16, 17, 18, 19, 20, 21, 22, 23, 24, 46, 47, 48, 49, 50, 40, 41, 42, 43, 44, 45] (by decide +kernel) (by decide +kernel)
set_option maxRecDepth 20000 in
theorem gX7_howManyWeigh_X7_prepare : GoodIn wsX7_howManyWeigh (wsV RX7 15 RX7 yX7_prepare wsX7_prepare) := goodIn_app (goodIn_of _ (by decide +kernel)) ggX7_howManyWeigh_X7_prepare
set_option maxRecDepth 20000 in
theorem ggX7_howManyWeigh_X7_stepTo : GoodIn wsX7_howManyWeigh wsX7_stepTo := goodIn_r _ [28, 2, 13, 29, 30, 31, 32, 33, 40, 41, 42, 43, 44, 45] (by decide +kernel) (by decide +kernel)
set_option maxRecDepth 20000 in
theorem gX7_howManyWeigh_X7_stepTo : GoodIn wsX7_howManyWeigh (wsV RX7 26 RX7 yX7_stepTo wsX7_stepTo) := goodIn_app (goodIn_of _ (by decide +kernel)) ggX7_howManyWeigh_X7_stepTo
set_option maxRecDepth 20000 in
theorem ggX7_howManyWeigh_J6_bitCount_0f7a4 : GoodIn wsX7_howManyWeigh wsJ6_bitCount_0f7a4 := goodIn_r _ [36, 37, 38, 39] (by decide +kernel) (by decide +kernel)
set_option maxRecDepth 20000 in
theorem gX7_howManyWeigh_J6_bitCount_0f7a4 : GoodIn wsX7_howManyWeigh (va_wsS RX7 33 yJ6_bitCount_0f7a4 wsJ6_bitCount_0f7a4) := goodIn_app (goodIn_of _ (by decide +kernel)) ggX7_howManyWeigh_J6_bitCount_0f7a4
theorem dX7_howManyWeigh_0 : decode cX7_howManyWeigh 0 = .ok (.aload_n 0, 1) := by decide +kernel
theorem dX7_howManyWeigh_1 : decode cX7_howManyWeigh 1 = .ok (.aload_n 1, 1) := by decide +kernel
theorem dX7_howManyWeigh_2 : decode cX7_howManyWeigh 2 = .ok (.invokevirtual 15, 3) := by decide +kernel
theorem dX7_howManyWeigh_5 : decode cX7_howManyWeigh 5 = .ok (.iconst 0, 1) := by decide +kernel
theorem dX7_howManyWeigh_6 : decode cX7_howManyWeigh 6 = .ok (.istore_n 3, 1) := by decide +kernel
theorem dX7_howManyWeigh_7 : decode cX7_howManyWeigh 7 = .ok (.iconst 0, 1) := by decide +kernel
theorem dX7_howManyWeigh_8 : decode cX7_howManyWeigh 8 = .ok (.istore 4, 2) := by decide +kernel
theorem dX7_howManyWeigh_10 : decode cX7_howManyWeigh 10 = .ok (.iload 4, 2) := by decide +kernel
theorem dX7_howManyWeigh_12 : decode cX7_howManyWeigh 12 = .ok (.aload_n 0, 1) := by decide +kernel
theorem dX7_howManyWeigh_13 : decode cX7_howManyWeigh 13 = .ok (.getfield 23, 3) := by decide +kernel
theorem dX7_howManyWeigh_16 : decode cX7_howManyWeigh 16 = .ok (.if_icmp .ge 29, 3) := by decide +kernel
theorem dX7_howManyWeigh_19 : decode cX7_howManyWeigh 19 = .ok (.aload_n 0, 1) := by decide +kernel
theorem dX7_howManyWeigh_20 : decode cX7_howManyWeigh 20 = .ok (.iload 4, 2) := by decide +kernel
theorem dX7_howManyWeigh_22 : decode cX7_howManyWeigh 22 = .ok (.invokevirtual 26, 3) := by decide +kernel
theorem dX7_howManyWeigh_25 : decode cX7_howManyWeigh 25 = .ok (.aload_n 0, 1) := by decide +kernel
theorem dX7_howManyWeigh_26 : decode cX7_howManyWeigh 26 = .ok (.getfield 30, 3) := by decide +kernel
theorem dX7_howManyWeigh_29 : decode cX7_howManyWeigh 29 = .ok (.invokestatic 33, 3) := by decide +kernel
theorem dX7_howManyWeigh_32 : decode cX7_howManyWeigh 32 = .ok (.iload_n 2, 1) := by decide +kernel
theorem dX7_howManyWeigh_33 : decode cX7_howManyWeigh 33 = .ok (.if_icmp .ne 6, 3) := by decide +kernel
theorem dX7_howManyWeigh_36 : decode cX7_howManyWeigh 36 = .ok (.iinc 3 1, 3) := by decide +kernel
theorem dX7_howManyWeigh_39 : decode cX7_howManyWeigh 39 = .ok (.iinc 4 1, 3) := by decide +kernel
theorem dX7_howManyWeigh_42 : decode cX7_howManyWeigh 42 = .ok (.goto (-32), 3) := by decide +kernel
theorem dX7_howManyWeigh_45 : decode cX7_howManyWeigh 45 = .ok (.iload_n 3, 1) := by decide +kernel
theorem dX7_howManyWeigh_46 : decode cX7_howManyWeigh 46 = .ok (.ireturn, 1) := by decide +kernel
set_option maxRecDepth 20000 in
theorem ggX7_greatest_X7_prepare : GoodIn wsX7_greatest wsX7_prepare := goodIn_r _ [11, 12, 13, 14, 5, 15, 16, 1, 2, 17, 18, 19, 20, 21, 22, 23, 24, 25, 26, 27, 49, 50, 51, 52, 53, 43, 44, 45, 46, 47, 48] (by decide +kernel) (by decide +kernel)
set_option maxRecDepth 20000 in
theorem gX7_greatest_X7_prepare : GoodIn wsX7_greatest (wsV RX7 15 RX7 yX7_prepare wsX7_prepare) := goodIn_app (goodIn_of _ (by decide +kernel)) ggX7_greatest_X7_prepare
set_option maxRecDepth 20000 in
theorem ggX7_greatest_X3_sumFor : GoodIn wsX7_greatest wsX3_sumFor := goodIn_r _ [32, 33, 54] (by decide +kernel) (by decide +kernel)
set_option maxRecDepth 20000 in
theorem gX7_greatest_X3_sumFor : GoodIn wsX7_greatest (wsV RX7 45 RX3 yX3_sumFor wsX3_sumFor) := goodIn_app (goodIn_of _ (by decide +kernel)) ggX7_greatest_X3_sumFor
set_option maxRecDepth 20000 in
theorem ggX7_greatest_X7_stepTo : GoodIn wsX7_greatest wsX7_stepTo := goodIn_r _ [37, 2, 16, 38, 39, 40, 41, 42, 43, 44, 45, 46, 47, 48] (by decide +kernel) (by decide +kernel)
set_option maxRecDepth 20000 in
theorem gX7_greatest_X7_stepTo : GoodIn wsX7_greatest (wsV RX7 26 RX7 yX7_stepTo wsX7_stepTo) := goodIn_app (goodIn_of _ (by decide +kernel)) ggX7_greatest_X7_stepTo
theorem dX7_greatest_0 : decode cX7_greatest 0 = .ok (.aload_n 0, 1) := by decide +kernel
theorem dX7_greatest_1 : decode cX7_greatest 1 = .ok (.aload_n 1, 1) := by decide +kernel
theorem dX7_greatest_2 : decode cX7_greatest 2 = .ok (.invokevirtual 15, 3) := by decide +kernel
theorem dX7_greatest_5 : decode cX7_greatest 5 = .ok (.aload_n 2, 1) := by decide +kernel
theorem dX7_greatest_6 : decode cX7_greatest 6 = .ok (.iconst 0, 1) := by decide +kernel
theorem dX7_greatest_7 : decode cX7_greatest 7 = .ok (.invokevirtual 45, 3) := by decide +kernel
theorem dX7_greatest_10 : decode cX7_greatest 10 = .ok (.istore_n 3, 1) := by decide +kernel
theorem dX7_greatest_11 : decode cX7_greatest 11 = .ok (.iconst 0, 1) := by decide +kernel
theorem dX7_greatest_12 : decode cX7_greatest 12 = .ok (.istore 4, 2) := by decide +kernel
theorem dX7_greatest_14 : decode cX7_greatest 14 = .ok (.iload 4, 2) := by decide +kernel
theorem dX7_greatest_16 : decode cX7_greatest 16 = .ok (.aload_n 0, 1) := by decide +kernel
theorem dX7_greatest_17 : decode cX7_greatest 17 = .ok (.getfield 23, 3) := by decide +kernel
theorem dX7_greatest_20 : decode cX7_greatest 20 = .ok (.if_icmp .ge 28, 3) := by decide +kernel
theorem dX7_greatest_23 : decode cX7_greatest 23 = .ok (.aload_n 0, 1) := by decide +kernel
theorem dX7_greatest_24 : decode cX7_greatest 24 = .ok (.iload 4, 2) := by decide +kernel
theorem dX7_greatest_26 : decode cX7_greatest 26 = .ok (.invokevirtual 26, 3) := by decide +kernel
theorem dX7_greatest_29 : decode cX7_greatest 29 = .ok (.iload_n 3, 1) := by decide +kernel
theorem dX7_greatest_30 : decode cX7_greatest 30 = .ok (.aload_n 2, 1) := by decide +kernel
theorem dX7_greatest_31 : decode cX7_greatest 31 = .ok (.aload_n 0, 1) := by decide +kernel
theorem dX7_greatest_32 : decode cX7_greatest 32 = .ok (.getfield 30, 3) := by decide +kernel
theorem dX7_greatest_35 : decode cX7_greatest 35 = .ok (.invokevirtual 45, 3) := by decide +kernel
theorem dX7_greatest_38 : decode cX7_greatest 38 = .ok (.invokestatic 50, 3) := by decide +kernel
theorem dX7_greatest_41 : decode cX7_greatest 41 = .ok (.istore_n 3, 1) := by decide +kernel
theorem dX7_greatest_42 : decode cX7_greatest 42 = .ok (.iinc 4 1, 3) := by decide +kernel
theorem dX7_greatest_45 : decode cX7_greatest 45 = .ok (.goto (-31), 3) := by decide +kernel
theorem dX7_greatest_48 : decode cX7_greatest 48 = .ok (.iload_n 3, 1) := by decide +kernel
theorem dX7_greatest_49 : decode cX7_greatest 49 = .ok (.ireturn, 1) := by decide +kernel
set_option maxRecDepth 20000 in
theorem ggX7_prepare_X1_wordOfTerm : GoodIn wsX7_prepare wsX1_wordOfTerm := goodIn_r _ [13, 14, 15, 16, 17, 12, 18, 19, 20, 21, 22, 23, 24] (by decide +kernel) (by decide +kernel)
set_option maxRecDepth 20000 in
theorem gX7_prepare_X1_wordOfTerm : GoodIn wsX7_prepare (wsV RX7 64 RX1 yX1_wordOfTerm wsX1_wordOfTerm) := goodIn_app (goodIn_of _ (by decide +kernel)) ggX7_prepare_X1_wordOfTerm
theorem dX7_prepare_0 : decode cX7_prepare 0 = .ok (.aload_n 1, 1) := by decide +kernel
theorem dX7_prepare_1 : decode cX7_prepare 1 = .ok (.getfield 56, 3) := by decide +kernel
theorem dX7_prepare_4 : decode cX7_prepare 4 = .ok (.bipush 16, 2) := by decide +kernel
theorem dX7_prepare_6 : decode cX7_prepare 6 = .ok (.invokestatic 61, 3) := by decide +kernel
theorem dX7_prepare_9 : decode cX7_prepare 9 = .ok (.istore_n 2, 1) := by decide +kernel
theorem dX7_prepare_10 : decode cX7_prepare 10 = .ok (.iconst 0, 1) := by decide +kernel
theorem dX7_prepare_11 : decode cX7_prepare 11 = .ok (.istore_n 3, 1) := by decide +kernel
theorem dX7_prepare_12 : decode cX7_prepare 12 = .ok (.iconst 0, 1) := by decide +kernel
theorem dX7_prepare_13 : decode cX7_prepare 13 = .ok (.istore 4, 2) := by decide +kernel
theorem dX7_prepare_15 : decode cX7_prepare 15 = .ok (.iload 4, 2) := by decide +kernel
theorem dX7_prepare_17 : decode cX7_prepare 17 = .ok (.iload_n 2, 1) := by decide +kernel
theorem dX7_prepare_18 : decode cX7_prepare 18 = .ok (.if_icmp .ge 26, 3) := by decide +kernel
theorem dX7_prepare_21 : decode cX7_prepare 21 = .ok (.iload_n 3, 1) := by decide +kernel
theorem dX7_prepare_22 : decode cX7_prepare 22 = .ok (.aload_n 1, 1) := by decide +kernel
theorem dX7_prepare_23 : decode cX7_prepare 23 = .ok (.iload 4, 2) := by decide +kernel
theorem dX7_prepare_25 : decode cX7_prepare 25 = .ok (.invokevirtual 64, 3) := by decide +kernel
theorem dX7_prepare_28 : decode cX7_prepare 28 = .ok (.ixor, 1) := by decide +kernel
theorem dX7_prepare_29 : decode cX7_prepare 29 = .ok (.istore_n 3, 1) := by decide +kernel
theorem dX7_prepare_30 : decode cX7_prepare 30 = .ok (.aload_n 0, 1) := by decide +kernel
theorem dX7_prepare_31 : decode cX7_prepare 31 = .ok (.getfield 9, 3) := by decide +kernel
theorem dX7_prepare_34 : decode cX7_prepare 34 = .ok (.iload 4, 2) := by decide +kernel
theorem dX7_prepare_36 : decode cX7_prepare 36 = .ok (.iload_n 3, 1) := by decide +kernel
theorem dX7_prepare_37 : decode cX7_prepare 37 = .ok (.iastore, 1) := by decide +kernel
theorem dX7_prepare_38 : decode cX7_prepare 38 = .ok (.iinc 4 1, 3) := by decide +kernel
theorem dX7_prepare_41 : decode cX7_prepare 41 = .ok (.goto (-26), 3) := by decide +kernel
theorem dX7_prepare_44 : decode cX7_prepare 44 = .ok (.aload_n 0, 1) := by decide +kernel
theorem dX7_prepare_45 : decode cX7_prepare 45 = .ok (.iconst 1, 1) := by decide +kernel
theorem dX7_prepare_46 : decode cX7_prepare 46 = .ok (.iload_n 2, 1) := by decide +kernel
theorem dX7_prepare_47 : decode cX7_prepare 47 = .ok (.ishl, 1) := by decide +kernel
theorem dX7_prepare_48 : decode cX7_prepare 48 = .ok (.putfield 23, 3) := by decide +kernel
theorem dX7_prepare_51 : decode cX7_prepare 51 = .ok (.aload_n 0, 1) := by decide +kernel
theorem dX7_prepare_52 : decode cX7_prepare 52 = .ok (.iconst 0, 1) := by decide +kernel
theorem dX7_prepare_53 : decode cX7_prepare 53 = .ok (.putfield 30, 3) := by decide +kernel
theorem dX7_prepare_56 : decode cX7_prepare 56 = .ok (.return_, 1) := by decide +kernel
set_option maxRecDepth 20000 in
theorem ggX7_stepTo_J6_numberOfTrailingZeros_0f7a4 : GoodIn wsX7_stepTo wsJ6_numberOfTrailingZeros_0f7a4 := goodIn_r _ [6, 7] (by decide +kernel) (by decide +kernel)
set_option maxRecDepth 20000 in
theorem gX7_stepTo_J6_numberOfTrailingZeros_0f7a4 : GoodIn wsX7_stepTo (va_wsS RX7 67 yJ6_numberOfTrailingZeros_0f7a4 wsJ6_numberOfTrailingZeros_0f7a4) := goodIn_app (goodIn_of _ (by decide +kernel)) ggX7_stepTo_J6_numberOfTrailingZeros_0f7a4
theorem dX7_stepTo_0 : decode cX7_stepTo 0 = .ok (.iload_n 1, 1) := by decide +kernel
theorem dX7_stepTo_1 : decode cX7_stepTo 1 = .ok (.invokestatic 67, 3) := by decide +kernel
theorem dX7_stepTo_4 : decode cX7_stepTo 4 = .ok (.istore_n 2, 1) := by decide +kernel
theorem dX7_stepTo_5 : decode cX7_stepTo 5 = .ok (.iload_n 2, 1) := by decide +kernel
theorem dX7_stepTo_6 : decode cX7_stepTo 6 = .ok (.bipush 16, 2) := by decide +kernel
theorem dX7_stepTo_8 : decode cX7_stepTo 8 = .ok (.if_icmp .ge 18, 3) := by decide +kernel
theorem dX7_stepTo_11 : decode cX7_stepTo 11 = .ok (.aload_n 0, 1) := by decide +kernel
theorem dX7_stepTo_12 : decode cX7_stepTo 12 = .ok (.dup, 1) := by decide +kernel
theorem dX7_stepTo_13 : decode cX7_stepTo 13 = .ok (.getfield 30, 3) := by decide +kernel
theorem dX7_stepTo_16 : decode cX7_stepTo 16 = .ok (.aload_n 0, 1) := by decide +kernel
theorem dX7_stepTo_17 : decode cX7_stepTo 17 = .ok (.getfield 9, 3) := by decide +kernel
theorem dX7_stepTo_20 : decode cX7_stepTo 20 = .ok (.iload_n 2, 1) := by decide +kernel
theorem dX7_stepTo_21 : decode cX7_stepTo 21 = .ok (.iaload, 1) := by decide +kernel
theorem dX7_stepTo_22 : decode cX7_stepTo 22 = .ok (.ixor, 1) := by decide +kernel
theorem dX7_stepTo_23 : decode cX7_stepTo 23 = .ok (.putfield 30, 3) := by decide +kernel
theorem dX7_stepTo_26 : decode cX7_stepTo 26 = .ok (.return_, 1) := by decide +kernel
set_option maxRecDepth 20000 in
theorem ggX8_init_X5_init : GoodIn wsX8_init wsX5_init := goodIn_r _ [34, 35, 2, 3, 36, 37, 38, 39, 40, 41, 42, 43, 44, 45, 132, 133, 134, 135, 136, 98, 99, 100] (by decide +kernel) (by decide +kernel)
set_option maxRecDepth 20000 in
theorem gX8_init_X5_init_n9 : GoodIn wsX8_init (wsX5_init) := ggX8_init_X5_init
set_option maxRecDepth 20000 in
theorem ggX8_init_X4_init : GoodIn wsX8_init wsX4_init := goodIn_r _ [48, 49, 2, 3, 50, 51, 5, 6, 33, 34, 35, 36, 37, 38, 39, 40, 41, 42, 43, 44, 45, 112, 113, 114, 98, 99, 100, 132, 133, 134, 135, 136] (by decide +kernel) (by decide +kernel)
set_option maxRecDepth 20000 in
theorem gX8_init_X4_init : GoodIn wsX8_init (wsX4_init) := ggX8_init_X4_init
set_option maxRecDepth 20000 in
theorem ggX8_init_X6_init : GoodIn wsX8_init wsX6_init := goodIn_r _ [53, 54, 2, 3, 55, 56, 57, 115, 116, 117, 118] (by decide +kernel) (by decide +kernel)
set_option maxRecDepth 20000 in
theorem gX8_init_X6_init_n28 : GoodIn wsX8_init (wsX6_init) := ggX8_init_X6_init
set_option maxRecDepth 20000 in
theorem ggX8_init_X0_init : GoodIn wsX8_init wsX0_init := goodIn_r _ [59, 60, 2, 3] (by decide +kernel) (by decide +kernel)
set_option maxRecDepth 20000 in
theorem gX8_init_X0_init_n35 : GoodIn wsX8_init (wsX0_init) := ggX8_init_X0_init
set_option maxRecDepth 20000 in
theorem ggX8_init_X2_init : GoodIn wsX8_init wsX2_init := goodIn_r _ [62, 63, 2, 3, 64, 40, 65, 124] (by decide +kernel) (by decide +kernel)
set_option maxRecDepth 20000 in
theorem gX8_init_X2_init_n42 : GoodIn wsX8_init (wsX2_init) := ggX8_init_X2_init
set_option maxRecDepth 20000 in
theorem ggX8_init_X3_init : GoodIn wsX8_init wsX3_init := goodIn_r _ [67, 68, 2, 3, 40, 69, 125] (by decide +kernel) (by decide +kernel)
set_option maxRecDepth 20000 in
theorem gX8_init_X3_init_n49 : GoodIn wsX8_init (wsX3_init) := ggX8_init_X3_init
set_option maxRecDepth 20000 in
theorem ggX8_init_X7_init : GoodIn wsX8_init wsX7_init := goodIn_r _ [71, 72, 2, 3, 40, 73, 126, 127, 128, 129, 130, 131] (by decide +kernel) (by decide +kernel)
set_option maxRecDepth 20000 in
theorem gX8_init_X7_init_n56 : GoodIn wsX8_init (wsX7_init) := ggX8_init_X7_init
set_option maxRecDepth 20000 in
theorem ggX8_init_X5_start : GoodIn wsX8_init wsX5_start := goodIn_r _ [77, 39, 78, 41, 79, 80, 81, 38, 82, 83, 84, 85, 86, 45, 87, 88, 89, 90, 91, 92, 93, 94, 95, 96, 97, 98, 99, 100, 132, 133, 134, 135, 136] (by decide +kernel) (by decide +kernel)
set_option maxRecDepth 20000 in
theorem gX8_init_X5_start : GoodIn wsX8_init (wsV RX8 61 RX5 yX5_start wsX5_start) := goodIn_app (goodIn_of _ (by decide +kernel)) ggX8_init_X5_start
theorem dX8_init_0 : decode cX8_init 0 = .ok (.aload_n 0, 1) := by decide +kernel
theorem dX8_init_1 : decode cX8_init 1 = .ok (.invokespecial 1, 3) := by decide +kernel
theorem dX8_init_4 : decode cX8_init 4 = .ok (.aload_n 0, 1) := by decide +kernel
theorem dX8_init_5 : decode cX8_init 5 = .ok (.new 7, 3) := by decide +kernel
theorem dX8_init_8 : decode cX8_init 8 = .ok (.dup, 1) := by decide +kernel
theorem dX8_init_9 : decode cX8_init 9 = .ok (.invokespecial 9, 3) := by decide +kernel
theorem dX8_init_12 : decode cX8_init 12 = .ok (.putfield 10, 3) := by decide +kernel
theorem dX8_init_15 : decode cX8_init 15 = .ok (.aload_n 0, 1) := by decide +kernel
theorem dX8_init_16 : decode cX8_init 16 = .ok (.new 7, 3) := by decide +kernel
theorem dX8_init_19 : decode cX8_init 19 = .ok (.dup, 1) := by decide +kernel
theorem dX8_init_20 : decode cX8_init 20 = .ok (.invokespecial 9, 3) := by decide +kernel
theorem dX8_init_23 : decode cX8_init 23 = .ok (.putfield 16, 3) := by decide +kernel
theorem dX8_init_26 : decode cX8_init 26 = .ok (.aload_n 0, 1) := by decide +kernel
theorem dX8_init_27 : decode cX8_init 27 = .ok (.new 19, 3) := by decide +kernel
theorem dX8_init_30 : decode cX8_init 30 = .ok (.dup, 1) := by decide +kernel
theorem dX8_init_31 : decode cX8_init 31 = .ok (.invokespecial 21, 3) := by decide +kernel
theorem dX8_init_34 : decode cX8_init 34 = .ok (.putfield 22, 3) := by decide +kernel
theorem dX8_init_37 : decode cX8_init 37 = .ok (.aload_n 0, 1) := by decide +kernel
theorem dX8_init_38 : decode cX8_init 38 = .ok (.new 26, 3) := by decide +kernel
theorem dX8_init_41 : decode cX8_init 41 = .ok (.dup, 1) := by decide +kernel
theorem dX8_init_42 : decode cX8_init 42 = .ok (.invokespecial 28, 3) := by decide +kernel
theorem dX8_init_45 : decode cX8_init 45 = .ok (.putfield 29, 3) := by decide +kernel
theorem dX8_init_48 : decode cX8_init 48 = .ok (.aload_n 0, 1) := by decide +kernel
theorem dX8_init_49 : decode cX8_init 49 = .ok (.new 33, 3) := by decide +kernel
theorem dX8_init_52 : decode cX8_init 52 = .ok (.dup, 1) := by decide +kernel
theorem dX8_init_53 : decode cX8_init 53 = .ok (.invokespecial 35, 3) := by decide +kernel
theorem dX8_init_56 : decode cX8_init 56 = .ok (.putfield 36, 3) := by decide +kernel
theorem dX8_init_59 : decode cX8_init 59 = .ok (.aload_n 0, 1) := by decide +kernel
theorem dX8_init_60 : decode cX8_init 60 = .ok (.new 40, 3) := by decide +kernel
theorem dX8_init_63 : decode cX8_init 63 = .ok (.dup, 1) := by decide +kernel
theorem dX8_init_64 : decode cX8_init 64 = .ok (.invokespecial 42, 3) := by decide +kernel
theorem dX8_init_67 : decode cX8_init 67 = .ok (.putfield 43, 3) := by decide +kernel
theorem dX8_init_70 : decode cX8_init 70 = .ok (.aload_n 0, 1) := by decide +kernel
theorem dX8_init_71 : decode cX8_init 71 = .ok (.new 47, 3) := by decide +kernel
theorem dX8_init_74 : decode cX8_init 74 = .ok (.dup, 1) := by decide +kernel
theorem dX8_init_75 : decode cX8_init 75 = .ok (.invokespecial 49, 3) := by decide +kernel
theorem dX8_init_78 : decode cX8_init 78 = .ok (.putfield 50, 3) := by decide +kernel
theorem dX8_init_81 : decode cX8_init 81 = .ok (.aload_n 0, 1) := by decide +kernel
theorem dX8_init_82 : decode cX8_init 82 = .ok (.new 54, 3) := by decide +kernel
theorem dX8_init_85 : decode cX8_init 85 = .ok (.dup, 1) := by decide +kernel
theorem dX8_init_86 : decode cX8_init 86 = .ok (.invokespecial 56, 3) := by decide +kernel
theorem dX8_init_89 : decode cX8_init 89 = .ok (.putfield 57, 3) := by decide +kernel
theorem dX8_init_92 : decode cX8_init 92 = .ok (.aload_n 0, 1) := by decide +kernel
theorem dX8_init_93 : decode cX8_init 93 = .ok (.getfield 10, 3) := by decide +kernel
theorem dX8_init_96 : decode cX8_init 96 = .ok (.iconst 1, 1) := by decide +kernel
theorem dX8_init_97 : decode cX8_init 97 = .ok (.iconst 3, 1) := by decide +kernel
theorem dX8_init_98 : decode cX8_init 98 = .ok (.invokevirtual 61, 3) := by decide +kernel
theorem dX8_init_101 : decode cX8_init 101 = .ok (.return_, 1) := by decide +kernel
set_option maxRecDepth 20000 in
theorem ggX8_code_X8_refuseBad : GoodIn wsX8_code wsX8_refuseBad := goodIn_r _ [9, 10, 62, 63, 64, 65, 66, 67, 68, 69, 70, 71, 72] (by decide +kernel) (by decide +kernel)
set_option maxRecDepth 20000 in
theorem gX8_code_X8_refuseBad : GoodIn wsX8_code (wsV RX8 65 RX8 yX8_refuseBad wsX8_refuseBad) := goodIn_app (goodIn_of _ (by decide +kernel)) ggX8_code_X8_refuseBad
set_option maxRecDepth 20000 in
theorem ggX8_code_X4_keep : GoodIn wsX8_code wsX4_keep := goodIn_r _ [15, 16, 17, 18, 19, 20, 21, 22, 23, 24, 25, 26, 27, 28, 29, 30, 31, 32, 33, 34, 35, 36, 37, 38, 39, 40, 41, 42, 43, 44, 45, 46, 47, 48, 49, 50, 51, 52, 53, 81, 82, 83, 73, 74, 75, 76, 77, 78, 79, 80] (by decide +kernel) (by decide +kernel)
set_option maxRecDepth 20000 in
theorem gX8_code_X4_keep : GoodIn wsX8_code (wsV RX8 69 RX4 yX4_keep wsX4_keep) := goodIn_app (goodIn_of _ (by decide +kernel)) ggX8_code_X4_keep
set_option maxRecDepth 20000 in
theorem ggX8_code_X5_start : GoodIn wsX8_code wsX5_start := goodIn_r _ [57, 28, 31, 32, 37, 38, 39, 40, 41, 42, 43, 44, 45, 46, 47, 48, 49, 50, 51, 52, 53, 58, 59, 60, 61, 73, 74, 75, 76, 77, 78, 79, 80] (by decide +kernel) (by decide +kernel)
set_option maxRecDepth 20000 in
theorem gX8_code_X5_start : GoodIn wsX8_code (wsV RX8 61 RX5 yX5_start wsX5_start) := goodIn_app (goodIn_of _ (by decide +kernel)) ggX8_code_X5_start
theorem dX8_code_0 : decode cX8_code 0 = .ok (.iload_n 2, 1) := by decide +kernel
theorem dX8_code_1 : decode cX8_code 1 = .ok (.ifCond .lt 17, 3) := by decide +kernel
theorem dX8_code_4 : decode cX8_code 4 = .ok (.iload_n 2, 1) := by decide +kernel
theorem dX8_code_5 : decode cX8_code 5 = .ok (.iconst 5, 1) := by decide +kernel
theorem dX8_code_6 : decode cX8_code 6 = .ok (.if_icmp .gt 12, 3) := by decide +kernel
theorem dX8_code_9 : decode cX8_code 9 = .ok (.iload_n 1, 1) := by decide +kernel
theorem dX8_code_10 : decode cX8_code 10 = .ok (.ifCond .lt 8, 3) := by decide +kernel
theorem dX8_code_13 : decode cX8_code 13 = .ok (.iload_n 1, 1) := by decide +kernel
theorem dX8_code_14 : decode cX8_code 14 = .ok (.iload_n 2, 1) := by decide +kernel
theorem dX8_code_15 : decode cX8_code 15 = .ok (.if_icmp .le 10, 3) := by decide +kernel
theorem dX8_code_18 : decode cX8_code 18 = .ok (.aload_n 0, 1) := by decide +kernel
theorem dX8_code_19 : decode cX8_code 19 = .ok (.bipush (-2), 2) := by decide +kernel
theorem dX8_code_21 : decode cX8_code 21 = .ok (.invokevirtual 65, 3) := by decide +kernel
theorem dX8_code_24 : decode cX8_code 24 = .ok (.ireturn, 1) := by decide +kernel
theorem dX8_code_25 : decode cX8_code 25 = .ok (.aload_n 0, 1) := by decide +kernel
theorem dX8_code_26 : decode cX8_code 26 = .ok (.getfield 22, 3) := by decide +kernel
theorem dX8_code_29 : decode cX8_code 29 = .ok (.aload_n 0, 1) := by decide +kernel
theorem dX8_code_30 : decode cX8_code 30 = .ok (.getfield 10, 3) := by decide +kernel
theorem dX8_code_33 : decode cX8_code 33 = .ok (.invokevirtual 69, 3) := by decide +kernel
theorem dX8_code_36 : decode cX8_code 36 = .ok (.aload_n 0, 1) := by decide +kernel
theorem dX8_code_37 : decode cX8_code 37 = .ok (.getfield 10, 3) := by decide +kernel
theorem dX8_code_40 : decode cX8_code 40 = .ok (.iload_n 1, 1) := by decide +kernel
theorem dX8_code_41 : decode cX8_code 41 = .ok (.iload_n 2, 1) := by decide +kernel
theorem dX8_code_42 : decode cX8_code 42 = .ok (.invokevirtual 61, 3) := by decide +kernel
theorem dX8_code_45 : decode cX8_code 45 = .ok (.aload_n 0, 1) := by decide +kernel
theorem dX8_code_46 : decode cX8_code 46 = .ok (.getfield 10, 3) := by decide +kernel
theorem dX8_code_49 : decode cX8_code 49 = .ok (.getfield 73, 3) := by decide +kernel
theorem dX8_code_52 : decode cX8_code 52 = .ok (.getfield 77, 3) := by decide +kernel
theorem dX8_code_55 : decode cX8_code 55 = .ok (.ireturn, 1) := by decide +kernel
set_option maxRecDepth 20000 in
theorem ggX8_of_X1_distance : GoodIn wsX8_of wsX1_distance := goodIn_r _ [11, 12, 13, 34, 35, 36, 37, 38] (by decide +kernel) (by decide +kernel)
set_option maxRecDepth 20000 in
theorem gX8_of_X1_distance : GoodIn wsX8_of (wsV RX8 89 RX1 yX1_distance wsX1_distance) := goodIn_app (goodIn_of _ (by decide +kernel)) ggX8_of_X1_distance
set_option maxRecDepth 20000 in
theorem ggX8_of_X8_refuseBad : GoodIn wsX8_of wsX8_refuseBad := goodIn_r _ [18, 19, 20, 21, 22, 23, 24, 25, 26, 27, 28, 29, 30] (by decide +kernel) (by decide +kernel)
set_option maxRecDepth 20000 in
theorem gX8_of_X8_refuseBad : GoodIn wsX8_of (wsV RX8 65 RX8 yX8_refuseBad wsX8_refuseBad) := goodIn_app (goodIn_of _ (by decide +kernel)) ggX8_of_X8_refuseBad
theorem dX8_of_0 : decode cX8_of 0 = .ok (.aload_n 0, 1) := by decide +kernel
theorem dX8_of_1 : decode cX8_of 1 = .ok (.getfield 10, 3) := by decide +kernel
theorem dX8_of_4 : decode cX8_of 4 = .ok (.getfield 73, 3) := by decide +kernel
theorem dX8_of_7 : decode cX8_of 7 = .ok (.astore_n 2, 1) := by decide +kernel
theorem dX8_of_8 : decode cX8_of 8 = .ok (.iload_n 1, 1) := by decide +kernel
theorem dX8_of_9 : decode cX8_of 9 = .ok (.tableswitch 73 0 5 #[39, 44, 49, 54, 59, 64], 39) := by decide +kernel
theorem dX8_of_48 : decode cX8_of 48 = .ok (.aload_n 2, 1) := by decide +kernel
theorem dX8_of_49 : decode cX8_of 49 = .ok (.getfield 83, 3) := by decide +kernel
theorem dX8_of_52 : decode cX8_of 52 = .ok (.ireturn, 1) := by decide +kernel
theorem dX8_of_53 : decode cX8_of 53 = .ok (.aload_n 2, 1) := by decide +kernel
theorem dX8_of_54 : decode cX8_of 54 = .ok (.getfield 86, 3) := by decide +kernel
theorem dX8_of_57 : decode cX8_of 57 = .ok (.ireturn, 1) := by decide +kernel
theorem dX8_of_58 : decode cX8_of 58 = .ok (.aload_n 2, 1) := by decide +kernel
theorem dX8_of_59 : decode cX8_of 59 = .ok (.getfield 77, 3) := by decide +kernel
theorem dX8_of_62 : decode cX8_of 62 = .ok (.ireturn, 1) := by decide +kernel
theorem dX8_of_63 : decode cX8_of 63 = .ok (.aload_n 2, 1) := by decide +kernel
theorem dX8_of_64 : decode cX8_of 64 = .ok (.invokevirtual 89, 3) := by decide +kernel
theorem dX8_of_67 : decode cX8_of 67 = .ok (.ireturn, 1) := by decide +kernel
theorem dX8_of_68 : decode cX8_of 68 = .ok (.aload_n 2, 1) := by decide +kernel
theorem dX8_of_69 : decode cX8_of 69 = .ok (.getfield 93, 3) := by decide +kernel
theorem dX8_of_72 : decode cX8_of 72 = .ok (.ireturn, 1) := by decide +kernel
theorem dX8_of_73 : decode cX8_of 73 = .ok (.aload_n 2, 1) := by decide +kernel
theorem dX8_of_74 : decode cX8_of 74 = .ok (.invokevirtual 89, 3) := by decide +kernel
theorem dX8_of_77 : decode cX8_of 77 = .ok (.iconst 1, 1) := by decide +kernel
theorem dX8_of_78 : decode cX8_of 78 = .ok (.isub, 1) := by decide +kernel
theorem dX8_of_79 : decode cX8_of 79 = .ok (.iconst 2, 1) := by decide +kernel
theorem dX8_of_80 : decode cX8_of 80 = .ok (.idiv, 1) := by decide +kernel
theorem dX8_of_81 : decode cX8_of 81 = .ok (.ireturn, 1) := by decide +kernel
theorem dX8_of_82 : decode cX8_of 82 = .ok (.aload_n 0, 1) := by decide +kernel
theorem dX8_of_83 : decode cX8_of 83 = .ok (.bipush (-2), 2) := by decide +kernel
theorem dX8_of_85 : decode cX8_of 85 = .ok (.invokevirtual 65, 3) := by decide +kernel
theorem dX8_of_88 : decode cX8_of 88 = .ok (.ireturn, 1) := by decide +kernel
set_option maxRecDepth 20000 in
theorem ggX8_term_X8_refuseBad : GoodIn wsX8_term wsX8_refuseBad := goodIn_r _ [9, 10, 11, 12, 13, 14, 15, 16, 17, 18, 19, 20, 21] (by decide +kernel) (by decide +kernel)
set_option maxRecDepth 20000 in
theorem gX8_term_X8_refuseBad : GoodIn wsX8_term (wsV RX8 65 RX8 yX8_refuseBad wsX8_refuseBad) := goodIn_app (goodIn_of _ (by decide +kernel)) ggX8_term_X8_refuseBad
theorem dX8_term_0 : decode cX8_term 0 = .ok (.iload_n 1, 1) := by decide +kernel
theorem dX8_term_1 : decode cX8_term 1 = .ok (.ifCond .ge 10, 3) := by decide +kernel
theorem dX8_term_4 : decode cX8_term 4 = .ok (.aload_n 0, 1) := by decide +kernel
theorem dX8_term_5 : decode cX8_term 5 = .ok (.bipush (-2), 2) := by decide +kernel
theorem dX8_term_7 : decode cX8_term 7 = .ok (.invokevirtual 65, 3) := by decide +kernel
theorem dX8_term_10 : decode cX8_term 10 = .ok (.ireturn, 1) := by decide +kernel
theorem dX8_term_11 : decode cX8_term 11 = .ok (.iload_n 1, 1) := by decide +kernel
theorem dX8_term_12 : decode cX8_term 12 = .ok (.aload_n 0, 1) := by decide +kernel
theorem dX8_term_13 : decode cX8_term 13 = .ok (.getfield 10, 3) := by decide +kernel
theorem dX8_term_16 : decode cX8_term 16 = .ok (.getfield 73, 3) := by decide +kernel
theorem dX8_term_19 : decode cX8_term 19 = .ok (.getfield 77, 3) := by decide +kernel
theorem dX8_term_22 : decode cX8_term 22 = .ok (.if_icmp .ge 18, 3) := by decide +kernel
theorem dX8_term_25 : decode cX8_term 25 = .ok (.aload_n 0, 1) := by decide +kernel
theorem dX8_term_26 : decode cX8_term 26 = .ok (.getfield 10, 3) := by decide +kernel
theorem dX8_term_29 : decode cX8_term 29 = .ok (.getfield 73, 3) := by decide +kernel
theorem dX8_term_32 : decode cX8_term 32 = .ok (.getfield 96, 3) := by decide +kernel
theorem dX8_term_35 : decode cX8_term 35 = .ok (.iload_n 1, 1) := by decide +kernel
theorem dX8_term_36 : decode cX8_term 36 = .ok (.iaload, 1) := by decide +kernel
theorem dX8_term_37 : decode cX8_term 37 = .ok (.goto 4, 3) := by decide +kernel
theorem dX8_term_40 : decode cX8_term 40 = .ok (.iconst (-1), 1) := by decide +kernel
theorem dX8_term_41 : decode cX8_term 41 = .ok (.ireturn, 1) := by decide +kernel
set_option maxRecDepth 20000 in
theorem ggX8_word_X1_allPlaces : GoodIn wsX8_word wsX1_allPlaces := goodIn_r _ [9, 10, 11, 12, 13, 74, 75, 76, 77, 78] (by decide +kernel) (by decide +kernel)
set_option maxRecDepth 20000 in
theorem gX8_word_X1_allPlaces : GoodIn wsX8_word (wsV RX8 100 RX1 yX1_allPlaces wsX1_allPlaces) := goodIn_app (goodIn_of _ (by decide +kernel)) ggX8_word_X1_allPlaces
set_option maxRecDepth 20000 in
theorem ggX8_word_X8_refuseBad : GoodIn wsX8_word wsX8_refuseBad := goodIn_r _ [17, 18, 60, 61, 62, 63, 64, 65, 66, 67, 68, 69, 70] (by decide +kernel) (by decide +kernel)
set_option maxRecDepth 20000 in
theorem gX8_word_X8_refuseBad : GoodIn wsX8_word (wsV RX8 65 RX8 yX8_refuseBad wsX8_refuseBad) := goodIn_app (goodIn_of _ (by decide +kernel)) ggX8_word_X8_refuseBad
set_option maxRecDepth 20000 in
theorem ggX8_word_X4_keep : GoodIn wsX8_word wsX4_keep := goodIn_r _ [23, 24, 25, 26, 27, 28, 29, 30, 31, 32, 33, 34, 35, 36, 37, 38, 39, 40, 41, 42, 43, 44, 45, 46, 47, 8, 48, 49, 50, 10, 51, 52, 53, 54, 55, 56, 57, 58, 59, 79, 80, 81, 71, 72, 73, 74, 75, 76, 77, 78] (by decide +kernel) (by decide +kernel)
set_option maxRecDepth 20000 in
theorem gX8_word_X4_keep : GoodIn wsX8_word (wsV RX8 69 RX4 yX4_keep wsX4_keep) := goodIn_app (goodIn_of _ (by decide +kernel)) ggX8_word_X4_keep
theorem dX8_word_0 : decode cX8_word 0 = .ok (.iload_n 1, 1) := by decide +kernel
theorem dX8_word_1 : decode cX8_word 1 = .ok (.aload_n 0, 1) := by decide +kernel
theorem dX8_word_2 : decode cX8_word 2 = .ok (.getfield 10, 3) := by decide +kernel
theorem dX8_word_5 : decode cX8_word 5 = .ok (.getfield 73, 3) := by decide +kernel
theorem dX8_word_8 : decode cX8_word 8 = .ok (.invokevirtual 100, 3) := by decide +kernel
theorem dX8_word_11 : decode cX8_word 11 = .ok (.iconst (-1), 1) := by decide +kernel
theorem dX8_word_12 : decode cX8_word 12 = .ok (.ixor, 1) := by decide +kernel
theorem dX8_word_13 : decode cX8_word 13 = .ok (.iand, 1) := by decide +kernel
theorem dX8_word_14 : decode cX8_word 14 = .ok (.ifCond .eq 10, 3) := by decide +kernel
theorem dX8_word_17 : decode cX8_word 17 = .ok (.aload_n 0, 1) := by decide +kernel
theorem dX8_word_18 : decode cX8_word 18 = .ok (.bipush (-2), 2) := by decide +kernel
theorem dX8_word_20 : decode cX8_word 20 = .ok (.invokevirtual 65, 3) := by decide +kernel
theorem dX8_word_23 : decode cX8_word 23 = .ok (.ireturn, 1) := by decide +kernel
theorem dX8_word_24 : decode cX8_word 24 = .ok (.aload_n 0, 1) := by decide +kernel
theorem dX8_word_25 : decode cX8_word 25 = .ok (.getfield 22, 3) := by decide +kernel
theorem dX8_word_28 : decode cX8_word 28 = .ok (.aload_n 0, 1) := by decide +kernel
theorem dX8_word_29 : decode cX8_word 29 = .ok (.getfield 10, 3) := by decide +kernel
theorem dX8_word_32 : decode cX8_word 32 = .ok (.invokevirtual 69, 3) := by decide +kernel
theorem dX8_word_35 : decode cX8_word 35 = .ok (.aload_n 0, 1) := by decide +kernel
theorem dX8_word_36 : decode cX8_word 36 = .ok (.getfield 10, 3) := by decide +kernel
theorem dX8_word_39 : decode cX8_word 39 = .ok (.iload_n 1, 1) := by decide +kernel
theorem dX8_word_40 : decode cX8_word 40 = .ok (.putfield 103, 3) := by decide +kernel
theorem dX8_word_43 : decode cX8_word 43 = .ok (.iconst 1, 1) := by decide +kernel
theorem dX8_word_44 : decode cX8_word 44 = .ok (.ireturn, 1) := by decide +kernel
set_option maxRecDepth 20000 in
theorem ggX8_encode_X1_allTerms : GoodIn wsX8_encode wsX1_allTerms := goodIn_r _ [9, 10, 11, 12, 13, 87, 88, 89, 90, 91] (by decide +kernel) (by decide +kernel)
set_option maxRecDepth 20000 in
theorem gX8_encode_X1_allTerms : GoodIn wsX8_encode (wsV RX8 106 RX1 yX1_allTerms wsX1_allTerms) := goodIn_app (goodIn_of _ (by decide +kernel)) ggX8_encode_X1_allTerms
set_option maxRecDepth 20000 in
theorem ggX8_encode_X8_refuseBad : GoodIn wsX8_encode wsX8_refuseBad := goodIn_r _ [17, 18, 73, 74, 75, 76, 77, 78, 79, 80, 81, 82, 83] (by decide +kernel) (by decide +kernel)
set_option maxRecDepth 20000 in
theorem gX8_encode_X8_refuseBad : GoodIn wsX8_encode (wsV RX8 65 RX8 yX8_refuseBad wsX8_refuseBad) := goodIn_app (goodIn_of _ (by decide +kernel)) ggX8_encode_X8_refuseBad
set_option maxRecDepth 20000 in
theorem ggX8_encode_X4_keep : GoodIn wsX8_encode wsX4_keep := goodIn_r _ [23, 24, 25, 26, 27, 28, 29, 30, 31, 32, 33, 34, 35, 36, 37, 38, 39, 40, 41, 42, 43, 44, 45, 46, 47, 8, 48, 49, 50, 51, 10, 52, 53, 54, 55, 56, 57, 58, 59, 92, 93, 94, 84, 85, 86, 87, 88, 89, 90, 91] (by decide +kernel) (by decide +kernel)
set_option maxRecDepth 20000 in
theorem gX8_encode_X4_keep : GoodIn wsX8_encode (wsV RX8 69 RX4 yX4_keep wsX4_keep) := goodIn_app (goodIn_of _ (by decide +kernel)) ggX8_encode_X4_keep
set_option maxRecDepth 20000 in
theorem ggX8_encode_X1_wordOf : GoodIn wsX8_encode wsX1_wordOf := goodIn_r _ [63, 10, 52, 64, 65, 66, 8, 67, 50, 87, 88, 89, 90, 91] (by decide +kernel) (by decide +kernel)
set_option maxRecDepth 20000 in
theorem gX8_encode_X1_wordOf : GoodIn wsX8_encode (wsV RX8 109 RX1 yX1_wordOf wsX1_wordOf) := goodIn_app (goodIn_of _ (by decide +kernel)) ggX8_encode_X1_wordOf
set_option maxRecDepth 20000 in
theorem ggX8_encode_X8_weight : GoodIn wsX8_encode wsX8_weight := goodIn_r _ [71, 1, 4, 72, 54, 55, 56, 57, 58, 59, 73, 74, 75, 76, 77, 78, 79, 80, 81, 82, 83, 84, 85, 86] (by decide +kernel) (by decide +kernel)
set_option maxRecDepth 20000 in
theorem gX8_encode_X8_weight : GoodIn wsX8_encode (wsV RX8 112 RX8 yX8_weight wsX8_weight) := goodIn_app (goodIn_of _ (by decide +kernel)) ggX8_encode_X8_weight
theorem dX8_encode_0 : decode cX8_encode 0 = .ok (.iload_n 1, 1) := by decide +kernel
theorem dX8_encode_1 : decode cX8_encode 1 = .ok (.aload_n 0, 1) := by decide +kernel
theorem dX8_encode_2 : decode cX8_encode 2 = .ok (.getfield 10, 3) := by decide +kernel
theorem dX8_encode_5 : decode cX8_encode 5 = .ok (.getfield 73, 3) := by decide +kernel
theorem dX8_encode_8 : decode cX8_encode 8 = .ok (.invokevirtual 106, 3) := by decide +kernel
theorem dX8_encode_11 : decode cX8_encode 11 = .ok (.iconst (-1), 1) := by decide +kernel
theorem dX8_encode_12 : decode cX8_encode 12 = .ok (.ixor, 1) := by decide +kernel
theorem dX8_encode_13 : decode cX8_encode 13 = .ok (.iand, 1) := by decide +kernel
theorem dX8_encode_14 : decode cX8_encode 14 = .ok (.ifCond .eq 10, 3) := by decide +kernel
theorem dX8_encode_17 : decode cX8_encode 17 = .ok (.aload_n 0, 1) := by decide +kernel
theorem dX8_encode_18 : decode cX8_encode 18 = .ok (.bipush (-2), 2) := by decide +kernel
theorem dX8_encode_20 : decode cX8_encode 20 = .ok (.invokevirtual 65, 3) := by decide +kernel
theorem dX8_encode_23 : decode cX8_encode 23 = .ok (.ireturn, 1) := by decide +kernel
theorem dX8_encode_24 : decode cX8_encode 24 = .ok (.aload_n 0, 1) := by decide +kernel
theorem dX8_encode_25 : decode cX8_encode 25 = .ok (.getfield 22, 3) := by decide +kernel
theorem dX8_encode_28 : decode cX8_encode 28 = .ok (.aload_n 0, 1) := by decide +kernel
theorem dX8_encode_29 : decode cX8_encode 29 = .ok (.getfield 10, 3) := by decide +kernel
theorem dX8_encode_32 : decode cX8_encode 32 = .ok (.invokevirtual 69, 3) := by decide +kernel
theorem dX8_encode_35 : decode cX8_encode 35 = .ok (.aload_n 0, 1) := by decide +kernel
theorem dX8_encode_36 : decode cX8_encode 36 = .ok (.getfield 10, 3) := by decide +kernel
theorem dX8_encode_39 : decode cX8_encode 39 = .ok (.aload_n 0, 1) := by decide +kernel
theorem dX8_encode_40 : decode cX8_encode 40 = .ok (.getfield 10, 3) := by decide +kernel
theorem dX8_encode_43 : decode cX8_encode 43 = .ok (.getfield 73, 3) := by decide +kernel
theorem dX8_encode_46 : decode cX8_encode 46 = .ok (.iload_n 1, 1) := by decide +kernel
theorem dX8_encode_47 : decode cX8_encode 47 = .ok (.invokevirtual 109, 3) := by decide +kernel
theorem dX8_encode_50 : decode cX8_encode 50 = .ok (.putfield 103, 3) := by decide +kernel
theorem dX8_encode_53 : decode cX8_encode 53 = .ok (.aload_n 0, 1) := by decide +kernel
theorem dX8_encode_54 : decode cX8_encode 54 = .ok (.invokevirtual 112, 3) := by decide +kernel
theorem dX8_encode_57 : decode cX8_encode 57 = .ok (.ireturn, 1) := by decide +kernel
set_option maxRecDepth 20000 in
theorem ggX8_flip_X1_hasPlace : GoodIn wsX8_flip wsX1_hasPlace := goodIn_r _ [9, 10, 76, 77, 78, 79, 80] (by decide +kernel) (by decide +kernel)
set_option maxRecDepth 20000 in
theorem gX8_flip_X1_hasPlace : GoodIn wsX8_flip (wsV RX8 115 RX1 yX1_hasPlace wsX1_hasPlace) := goodIn_app (goodIn_of _ (by decide +kernel)) ggX8_flip_X1_hasPlace
set_option maxRecDepth 20000 in
theorem ggX8_flip_X8_refuseBad : GoodIn wsX8_flip wsX8_refuseBad := goodIn_r _ [15, 16, 62, 63, 64, 65, 66, 67, 68, 69, 70, 71, 72] (by decide +kernel) (by decide +kernel)
set_option maxRecDepth 20000 in
theorem gX8_flip_X8_refuseBad : GoodIn wsX8_flip (wsV RX8 65 RX8 yX8_refuseBad wsX8_refuseBad) := goodIn_app (goodIn_of _ (by decide +kernel)) ggX8_flip_X8_refuseBad
set_option maxRecDepth 20000 in
theorem ggX8_flip_X4_keep : GoodIn wsX8_flip wsX4_keep := goodIn_r _ [21, 22, 23, 24, 25, 26, 27, 28, 29, 30, 31, 32, 33, 34, 35, 36, 37, 38, 39, 40, 41, 42, 43, 44, 45, 8, 46, 47, 48, 10, 49, 50, 51, 52, 53, 54, 55, 56, 57, 81, 82, 83, 73, 74, 75, 76, 77, 78, 79, 80] (by decide +kernel) (by decide +kernel)
set_option maxRecDepth 20000 in
theorem gX8_flip_X4_keep : GoodIn wsX8_flip (wsV RX8 69 RX4 yX4_keep wsX4_keep) := goodIn_app (goodIn_of _ (by decide +kernel)) ggX8_flip_X4_keep
set_option maxRecDepth 20000 in
theorem ggX8_flip_X5_bit : GoodIn wsX8_flip wsX5_bit := goodIn_r _ [61, 37, 73, 74, 75] (by decide +kernel) (by decide +kernel)
set_option maxRecDepth 20000 in
theorem gX8_flip_X5_bit : GoodIn wsX8_flip (wsV RX8 119 RX5 yX5_bit wsX5_bit) := goodIn_app (goodIn_of _ (by decide +kernel)) ggX8_flip_X5_bit
theorem dX8_flip_0 : decode cX8_flip 0 = .ok (.aload_n 0, 1) := by decide +kernel
theorem dX8_flip_1 : decode cX8_flip 1 = .ok (.getfield 10, 3) := by decide +kernel
theorem dX8_flip_4 : decode cX8_flip 4 = .ok (.getfield 73, 3) := by decide +kernel
theorem dX8_flip_7 : decode cX8_flip 7 = .ok (.iload_n 1, 1) := by decide +kernel
theorem dX8_flip_8 : decode cX8_flip 8 = .ok (.invokevirtual 115, 3) := by decide +kernel
theorem dX8_flip_11 : decode cX8_flip 11 = .ok (.ifCond .ne 10, 3) := by decide +kernel
theorem dX8_flip_14 : decode cX8_flip 14 = .ok (.aload_n 0, 1) := by decide +kernel
theorem dX8_flip_15 : decode cX8_flip 15 = .ok (.bipush (-2), 2) := by decide +kernel
theorem dX8_flip_17 : decode cX8_flip 17 = .ok (.invokevirtual 65, 3) := by decide +kernel
theorem dX8_flip_20 : decode cX8_flip 20 = .ok (.ireturn, 1) := by decide +kernel
theorem dX8_flip_21 : decode cX8_flip 21 = .ok (.aload_n 0, 1) := by decide +kernel
theorem dX8_flip_22 : decode cX8_flip 22 = .ok (.getfield 22, 3) := by decide +kernel
theorem dX8_flip_25 : decode cX8_flip 25 = .ok (.aload_n 0, 1) := by decide +kernel
theorem dX8_flip_26 : decode cX8_flip 26 = .ok (.getfield 10, 3) := by decide +kernel
theorem dX8_flip_29 : decode cX8_flip 29 = .ok (.invokevirtual 69, 3) := by decide +kernel
theorem dX8_flip_32 : decode cX8_flip 32 = .ok (.aload_n 0, 1) := by decide +kernel
theorem dX8_flip_33 : decode cX8_flip 33 = .ok (.getfield 10, 3) := by decide +kernel
theorem dX8_flip_36 : decode cX8_flip 36 = .ok (.dup, 1) := by decide +kernel
theorem dX8_flip_37 : decode cX8_flip 37 = .ok (.getfield 103, 3) := by decide +kernel
theorem dX8_flip_40 : decode cX8_flip 40 = .ok (.iconst 1, 1) := by decide +kernel
theorem dX8_flip_41 : decode cX8_flip 41 = .ok (.iload_n 1, 1) := by decide +kernel
theorem dX8_flip_42 : decode cX8_flip 42 = .ok (.ishl, 1) := by decide +kernel
theorem dX8_flip_43 : decode cX8_flip 43 = .ok (.ixor, 1) := by decide +kernel
theorem dX8_flip_44 : decode cX8_flip 44 = .ok (.putfield 103, 3) := by decide +kernel
theorem dX8_flip_47 : decode cX8_flip 47 = .ok (.aload_n 0, 1) := by decide +kernel
theorem dX8_flip_48 : decode cX8_flip 48 = .ok (.getfield 10, 3) := by decide +kernel
theorem dX8_flip_51 : decode cX8_flip 51 = .ok (.iload_n 1, 1) := by decide +kernel
theorem dX8_flip_52 : decode cX8_flip 52 = .ok (.invokevirtual 119, 3) := by decide +kernel
theorem dX8_flip_55 : decode cX8_flip 55 = .ok (.ireturn, 1) := by decide +kernel
set_option maxRecDepth 20000 in
theorem ggX8_hurt_X8_refuseBad : GoodIn wsX8_hurt wsX8_refuseBad := goodIn_r _ [11, 12, 68, 69, 70, 71, 72, 73, 74, 75, 76, 77, 78] (by decide +kernel) (by decide +kernel)
set_option maxRecDepth 20000 in
theorem gX8_hurt_X8_refuseBad : GoodIn wsX8_hurt (wsV RX8 65 RX8 yX8_refuseBad wsX8_refuseBad) := goodIn_app (goodIn_of _ (by decide +kernel)) ggX8_hurt_X8_refuseBad
set_option maxRecDepth 20000 in
theorem ggX8_hurt_X4_keep : GoodIn wsX8_hurt wsX4_keep := goodIn_r _ [17, 18, 19, 20, 21, 22, 23, 24, 25, 26, 27, 28, 29, 30, 31, 32, 33, 34, 35, 36, 37, 38, 39, 40, 41, 42, 43, 44, 45, 46, 47, 48, 49, 50, 51, 52, 53, 54, 55, 87, 88, 89, 79, 80, 81, 82, 83, 84, 85, 86] (by decide +kernel) (by decide +kernel)
set_option maxRecDepth 20000 in
theorem gX8_hurt_X4_keep : GoodIn wsX8_hurt (wsV RX8 69 RX4 yX4_keep wsX4_keep) := goodIn_app (goodIn_of _ (by decide +kernel)) ggX8_hurt_X4_keep
set_option maxRecDepth 20000 in
theorem ggX8_hurt_X8_drawPlaces : GoodIn wsX8_hurt wsX8_drawPlaces := goodIn_r _ [59, 2, 3, 4, 60, 61, 62, 68, 69, 70, 71, 72, 73, 74, 75, 76, 77, 78, 79, 80, 81, 82, 83, 84, 85, 86] (by decide +kernel) (by decide +kernel)
set_option maxRecDepth 20000 in
theorem gX8_hurt_X8_drawPlaces : GoodIn wsX8_hurt (wsV RX8 123 RX8 yX8_drawPlaces wsX8_drawPlaces) := goodIn_app (goodIn_of _ (by decide +kernel)) ggX8_hurt_X8_drawPlaces
set_option maxRecDepth 20000 in
theorem ggX8_hurt_X8_weight : GoodIn wsX8_hurt wsX8_weight := goodIn_r _ [66, 2, 6, 67, 50, 51, 52, 53, 54, 55, 68, 69, 70, 71, 72, 73, 74, 75, 76, 77, 78, 79, 80, 81] (by decide +kernel) (by decide +kernel)
set_option maxRecDepth 20000 in
theorem gX8_hurt_X8_weight : GoodIn wsX8_hurt (wsV RX8 112 RX8 yX8_weight wsX8_weight) := goodIn_app (goodIn_of _ (by decide +kernel)) ggX8_hurt_X8_weight
theorem dX8_hurt_0 : decode cX8_hurt 0 = .ok (.iload_n 1, 1) := by decide +kernel
theorem dX8_hurt_1 : decode cX8_hurt 1 = .ok (.ifCond .lt 27, 3) := by decide +kernel
theorem dX8_hurt_4 : decode cX8_hurt 4 = .ok (.iload_n 1, 1) := by decide +kernel
theorem dX8_hurt_5 : decode cX8_hurt 5 = .ok (.ldc 122, 2) := by decide +kernel
theorem dX8_hurt_7 : decode cX8_hurt 7 = .ok (.if_icmp .gt 21, 3) := by decide +kernel
theorem dX8_hurt_10 : decode cX8_hurt 10 = .ok (.iload_n 2, 1) := by decide +kernel
theorem dX8_hurt_11 : decode cX8_hurt 11 = .ok (.ifCond .lt 17, 3) := by decide +kernel
theorem dX8_hurt_14 : decode cX8_hurt 14 = .ok (.iload_n 2, 1) := by decide +kernel
theorem dX8_hurt_15 : decode cX8_hurt 15 = .ok (.aload_n 0, 1) := by decide +kernel
theorem dX8_hurt_16 : decode cX8_hurt 16 = .ok (.getfield 10, 3) := by decide +kernel
theorem dX8_hurt_19 : decode cX8_hurt 19 = .ok (.getfield 73, 3) := by decide +kernel
theorem dX8_hurt_22 : decode cX8_hurt 22 = .ok (.getfield 93, 3) := by decide +kernel
theorem dX8_hurt_25 : decode cX8_hurt 25 = .ok (.if_icmp .le 10, 3) := by decide +kernel
theorem dX8_hurt_28 : decode cX8_hurt 28 = .ok (.aload_n 0, 1) := by decide +kernel
theorem dX8_hurt_29 : decode cX8_hurt 29 = .ok (.bipush (-2), 2) := by decide +kernel
theorem dX8_hurt_31 : decode cX8_hurt 31 = .ok (.invokevirtual 65, 3) := by decide +kernel
theorem dX8_hurt_34 : decode cX8_hurt 34 = .ok (.ireturn, 1) := by decide +kernel
theorem dX8_hurt_35 : decode cX8_hurt 35 = .ok (.aload_n 0, 1) := by decide +kernel
theorem dX8_hurt_36 : decode cX8_hurt 36 = .ok (.getfield 22, 3) := by decide +kernel
theorem dX8_hurt_39 : decode cX8_hurt 39 = .ok (.aload_n 0, 1) := by decide +kernel
theorem dX8_hurt_40 : decode cX8_hurt 40 = .ok (.getfield 10, 3) := by decide +kernel
theorem dX8_hurt_43 : decode cX8_hurt 43 = .ok (.invokevirtual 69, 3) := by decide +kernel
theorem dX8_hurt_46 : decode cX8_hurt 46 = .ok (.aload_n 0, 1) := by decide +kernel
theorem dX8_hurt_47 : decode cX8_hurt 47 = .ok (.getfield 10, 3) := by decide +kernel
theorem dX8_hurt_50 : decode cX8_hurt 50 = .ok (.dup, 1) := by decide +kernel
theorem dX8_hurt_51 : decode cX8_hurt 51 = .ok (.getfield 103, 3) := by decide +kernel
theorem dX8_hurt_54 : decode cX8_hurt 54 = .ok (.aload_n 0, 1) := by decide +kernel
theorem dX8_hurt_55 : decode cX8_hurt 55 = .ok (.iload_n 1, 1) := by decide +kernel
theorem dX8_hurt_56 : decode cX8_hurt 56 = .ok (.iload_n 2, 1) := by decide +kernel
theorem dX8_hurt_57 : decode cX8_hurt 57 = .ok (.invokevirtual 123, 3) := by decide +kernel
theorem dX8_hurt_60 : decode cX8_hurt 60 = .ok (.ixor, 1) := by decide +kernel
theorem dX8_hurt_61 : decode cX8_hurt 61 = .ok (.putfield 103, 3) := by decide +kernel
theorem dX8_hurt_64 : decode cX8_hurt 64 = .ok (.aload_n 0, 1) := by decide +kernel
theorem dX8_hurt_65 : decode cX8_hurt 65 = .ok (.invokevirtual 112, 3) := by decide +kernel
theorem dX8_hurt_68 : decode cX8_hurt 68 = .ok (.ireturn, 1) := by decide +kernel
theorem dX8_now_0 : decode cX8_now 0 = .ok (.aload_n 0, 1) := by decide +kernel
theorem dX8_now_1 : decode cX8_now 1 = .ok (.getfield 10, 3) := by decide +kernel
theorem dX8_now_4 : decode cX8_now 4 = .ok (.getfield 103, 3) := by decide +kernel
theorem dX8_now_7 : decode cX8_now 7 = .ok (.ireturn, 1) := by decide +kernel
set_option maxRecDepth 20000 in
theorem ggX8_at_X1_hasPlace : GoodIn wsX8_at wsX1_hasPlace := goodIn_r _ [7, 8, 35, 36, 37, 38, 39] (by decide +kernel) (by decide +kernel)
set_option maxRecDepth 20000 in
theorem gX8_at_X1_hasPlace : GoodIn wsX8_at (wsV RX8 115 RX1 yX1_hasPlace wsX1_hasPlace) := goodIn_app (goodIn_of _ (by decide +kernel)) ggX8_at_X1_hasPlace
set_option maxRecDepth 20000 in
theorem ggX8_at_X5_bit : GoodIn wsX8_at wsX5_bit := goodIn_r _ [13, 14, 32, 33, 34] (by decide +kernel) (by decide +kernel)
set_option maxRecDepth 20000 in
theorem gX8_at_X5_bit : GoodIn wsX8_at (wsV RX8 119 RX5 yX5_bit wsX5_bit) := goodIn_app (goodIn_of _ (by decide +kernel)) ggX8_at_X5_bit
set_option maxRecDepth 20000 in
theorem ggX8_at_X8_refuseBad : GoodIn wsX8_at wsX8_refuseBad := goodIn_r _ [19, 20, 21, 22, 23, 24, 25, 26, 27, 28, 29, 30, 31] (by decide +kernel) (by decide +kernel)
set_option maxRecDepth 20000 in
theorem gX8_at_X8_refuseBad : GoodIn wsX8_at (wsV RX8 65 RX8 yX8_refuseBad wsX8_refuseBad) := goodIn_app (goodIn_of _ (by decide +kernel)) ggX8_at_X8_refuseBad
theorem dX8_at_0 : decode cX8_at 0 = .ok (.aload_n 0, 1) := by decide +kernel
theorem dX8_at_1 : decode cX8_at 1 = .ok (.getfield 10, 3) := by decide +kernel
theorem dX8_at_4 : decode cX8_at 4 = .ok (.getfield 73, 3) := by decide +kernel
theorem dX8_at_7 : decode cX8_at 7 = .ok (.iload_n 1, 1) := by decide +kernel
theorem dX8_at_8 : decode cX8_at 8 = .ok (.invokevirtual 115, 3) := by decide +kernel
theorem dX8_at_11 : decode cX8_at 11 = .ok (.ifCond .eq 14, 3) := by decide +kernel
theorem dX8_at_14 : decode cX8_at 14 = .ok (.aload_n 0, 1) := by decide +kernel
theorem dX8_at_15 : decode cX8_at 15 = .ok (.getfield 10, 3) := by decide +kernel
theorem dX8_at_18 : decode cX8_at 18 = .ok (.iload_n 1, 1) := by decide +kernel
theorem dX8_at_19 : decode cX8_at 19 = .ok (.invokevirtual 119, 3) := by decide +kernel
theorem dX8_at_22 : decode cX8_at 22 = .ok (.goto 9, 3) := by decide +kernel
theorem dX8_at_25 : decode cX8_at 25 = .ok (.aload_n 0, 1) := by decide +kernel
theorem dX8_at_26 : decode cX8_at 26 = .ok (.bipush (-2), 2) := by decide +kernel
theorem dX8_at_28 : decode cX8_at 28 = .ok (.invokevirtual 65, 3) := by decide +kernel
theorem dX8_at_31 : decode cX8_at 31 = .ok (.ireturn, 1) := by decide +kernel
set_option maxRecDepth 20000 in
theorem ggX8_weight_J6_bitCount_0f7a4 : GoodIn wsX8_weight wsJ6_bitCount_0f7a4 := goodIn_r _ [6, 7, 8, 9] (by decide +kernel) (by decide +kernel)
set_option maxRecDepth 20000 in
theorem gX8_weight_J6_bitCount_0f7a4 : GoodIn wsX8_weight (va_wsS RX8 127 yJ6_bitCount_0f7a4 wsJ6_bitCount_0f7a4) := goodIn_app (goodIn_of _ (by decide +kernel)) ggX8_weight_J6_bitCount_0f7a4
theorem dX8_weight_0 : decode cX8_weight 0 = .ok (.aload_n 0, 1) := by decide +kernel
theorem dX8_weight_1 : decode cX8_weight 1 = .ok (.getfield 10, 3) := by decide +kernel
theorem dX8_weight_4 : decode cX8_weight 4 = .ok (.getfield 103, 3) := by decide +kernel
theorem dX8_weight_7 : decode cX8_weight 7 = .ok (.invokestatic 127, 3) := by decide +kernel
theorem dX8_weight_10 : decode cX8_weight 10 = .ok (.ireturn, 1) := by decide +kernel
set_option maxRecDepth 20000 in
theorem ggX8_isWord_X1_summed : GoodIn wsX8_isWord wsX1_summed := goodIn_r _ [8, 9, 30, 31, 32, 33, 34] (by decide +kernel) (by decide +kernel)
set_option maxRecDepth 20000 in
theorem gX8_isWord_X1_summed : GoodIn wsX8_isWord (wsV RX8 132 RX1 yX1_summed wsX1_summed) := goodIn_app (goodIn_of _ (by decide +kernel)) ggX8_isWord_X1_summed
set_option maxRecDepth 20000 in
theorem ggX8_isWord_X1_termPlaces : GoodIn wsX8_isWord wsX1_termPlaces := goodIn_r _ [13, 14, 15, 30, 31, 32, 33, 34] (by decide +kernel) (by decide +kernel)
set_option maxRecDepth 20000 in
theorem gX8_isWord_X1_termPlaces : GoodIn wsX8_isWord (wsV RX8 135 RX1 yX1_termPlaces wsX1_termPlaces) := goodIn_app (goodIn_of _ (by decide +kernel)) ggX8_isWord_X1_termPlaces
theorem dX8_isWord_0 : decode cX8_isWord 0 = .ok (.aload_n 0, 1) := by decide +kernel
theorem dX8_isWord_1 : decode cX8_isWord 1 = .ok (.getfield 10, 3) := by decide +kernel
theorem dX8_isWord_4 : decode cX8_isWord 4 = .ok (.getfield 73, 3) := by decide +kernel
theorem dX8_isWord_7 : decode cX8_isWord 7 = .ok (.aload_n 0, 1) := by decide +kernel
theorem dX8_isWord_8 : decode cX8_isWord 8 = .ok (.getfield 10, 3) := by decide +kernel
theorem dX8_isWord_11 : decode cX8_isWord 11 = .ok (.getfield 103, 3) := by decide +kernel
theorem dX8_isWord_14 : decode cX8_isWord 14 = .ok (.invokevirtual 132, 3) := by decide +kernel
theorem dX8_isWord_17 : decode cX8_isWord 17 = .ok (.aload_n 0, 1) := by decide +kernel
theorem dX8_isWord_18 : decode cX8_isWord 18 = .ok (.getfield 10, 3) := by decide +kernel
theorem dX8_isWord_21 : decode cX8_isWord 21 = .ok (.getfield 73, 3) := by decide +kernel
theorem dX8_isWord_24 : decode cX8_isWord 24 = .ok (.invokevirtual 135, 3) := by decide +kernel
theorem dX8_isWord_27 : decode cX8_isWord 27 = .ok (.iconst (-1), 1) := by decide +kernel
theorem dX8_isWord_28 : decode cX8_isWord 28 = .ok (.ixor, 1) := by decide +kernel
theorem dX8_isWord_29 : decode cX8_isWord 29 = .ok (.iand, 1) := by decide +kernel
theorem dX8_isWord_30 : decode cX8_isWord 30 = .ok (.istore_n 1, 1) := by decide +kernel
theorem dX8_isWord_31 : decode cX8_isWord 31 = .ok (.iload_n 1, 1) := by decide +kernel
theorem dX8_isWord_32 : decode cX8_isWord 32 = .ok (.ifCond .ne 7, 3) := by decide +kernel
theorem dX8_isWord_35 : decode cX8_isWord 35 = .ok (.iconst 1, 1) := by decide +kernel
theorem dX8_isWord_36 : decode cX8_isWord 36 = .ok (.goto 4, 3) := by decide +kernel
theorem dX8_isWord_39 : decode cX8_isWord 39 = .ok (.iconst 0, 1) := by decide +kernel
theorem dX8_isWord_40 : decode cX8_isWord 40 = .ok (.ireturn, 1) := by decide +kernel
set_option maxRecDepth 20000 in
theorem ggX8_coefficient_X1_hasPlace : GoodIn wsX8_coefficient wsX1_hasPlace := goodIn_r _ [8, 9, 39, 40, 41, 42, 43] (by decide +kernel) (by decide +kernel)
set_option maxRecDepth 20000 in
theorem gX8_coefficient_X1_hasPlace : GoodIn wsX8_coefficient (wsV RX8 115 RX1 yX1_hasPlace wsX1_hasPlace) := goodIn_app (goodIn_of _ (by decide +kernel)) ggX8_coefficient_X1_hasPlace
set_option maxRecDepth 20000 in
theorem ggX8_coefficient_X8_refuseBad : GoodIn wsX8_coefficient wsX8_refuseBad := goodIn_r _ [14, 15, 25, 26, 27, 28, 29, 30, 31, 32, 33, 34, 35] (by decide +kernel) (by decide +kernel)
set_option maxRecDepth 20000 in
theorem gX8_coefficient_X8_refuseBad : GoodIn wsX8_coefficient (wsV RX8 65 RX8 yX8_refuseBad wsX8_refuseBad) := goodIn_app (goodIn_of _ (by decide +kernel)) ggX8_coefficient_X8_refuseBad
set_option maxRecDepth 20000 in
theorem ggX8_coefficient_X1_summed : GoodIn wsX8_coefficient wsX1_summed := goodIn_r _ [19, 20, 39, 40, 41, 42, 43] (by decide +kernel) (by decide +kernel)
set_option maxRecDepth 20000 in
theorem gX8_coefficient_X1_summed : GoodIn wsX8_coefficient (wsV RX8 132 RX1 yX1_summed wsX1_summed) := goodIn_app (goodIn_of _ (by decide +kernel)) ggX8_coefficient_X1_summed
set_option maxRecDepth 20000 in
theorem ggX8_coefficient_X1_setAt : GoodIn wsX8_coefficient wsX1_setAt := goodIn_r _ [24, 9, 39, 40, 41, 42, 43] (by decide +kernel) (by decide +kernel)
set_option maxRecDepth 20000 in
theorem gX8_coefficient_X1_setAt : GoodIn wsX8_coefficient (wsV RX8 138 RX1 yX1_setAt wsX1_setAt) := goodIn_app (goodIn_of _ (by decide +kernel)) ggX8_coefficient_X1_setAt
theorem dX8_coefficient_0 : decode cX8_coefficient 0 = .ok (.aload_n 0, 1) := by decide +kernel
theorem dX8_coefficient_1 : decode cX8_coefficient 1 = .ok (.getfield 10, 3) := by decide +kernel
theorem dX8_coefficient_4 : decode cX8_coefficient 4 = .ok (.getfield 73, 3) := by decide +kernel
theorem dX8_coefficient_7 : decode cX8_coefficient 7 = .ok (.iload_n 1, 1) := by decide +kernel
theorem dX8_coefficient_8 : decode cX8_coefficient 8 = .ok (.invokevirtual 115, 3) := by decide +kernel
theorem dX8_coefficient_11 : decode cX8_coefficient 11 = .ok (.ifCond .ne 10, 3) := by decide +kernel
theorem dX8_coefficient_14 : decode cX8_coefficient 14 = .ok (.aload_n 0, 1) := by decide +kernel
theorem dX8_coefficient_15 : decode cX8_coefficient 15 = .ok (.bipush (-2), 2) := by decide +kernel
theorem dX8_coefficient_17 : decode cX8_coefficient 17 = .ok (.invokevirtual 65, 3) := by decide +kernel
theorem dX8_coefficient_20 : decode cX8_coefficient 20 = .ok (.ireturn, 1) := by decide +kernel
theorem dX8_coefficient_21 : decode cX8_coefficient 21 = .ok (.aload_n 0, 1) := by decide +kernel
theorem dX8_coefficient_22 : decode cX8_coefficient 22 = .ok (.getfield 10, 3) := by decide +kernel
theorem dX8_coefficient_25 : decode cX8_coefficient 25 = .ok (.getfield 73, 3) := by decide +kernel
theorem dX8_coefficient_28 : decode cX8_coefficient 28 = .ok (.aload_n 0, 1) := by decide +kernel
theorem dX8_coefficient_29 : decode cX8_coefficient 29 = .ok (.getfield 10, 3) := by decide +kernel
theorem dX8_coefficient_32 : decode cX8_coefficient 32 = .ok (.getfield 103, 3) := by decide +kernel
theorem dX8_coefficient_35 : decode cX8_coefficient 35 = .ok (.invokevirtual 132, 3) := by decide +kernel
theorem dX8_coefficient_38 : decode cX8_coefficient 38 = .ok (.aload_n 0, 1) := by decide +kernel
theorem dX8_coefficient_39 : decode cX8_coefficient 39 = .ok (.getfield 10, 3) := by decide +kernel
theorem dX8_coefficient_42 : decode cX8_coefficient 42 = .ok (.getfield 73, 3) := by decide +kernel
theorem dX8_coefficient_45 : decode cX8_coefficient 45 = .ok (.iload_n 1, 1) := by decide +kernel
theorem dX8_coefficient_46 : decode cX8_coefficient 46 = .ok (.invokevirtual 138, 3) := by decide +kernel
theorem dX8_coefficient_49 : decode cX8_coefficient 49 = .ok (.iushr, 1) := by decide +kernel
theorem dX8_coefficient_50 : decode cX8_coefficient 50 = .ok (.iconst 1, 1) := by decide +kernel
theorem dX8_coefficient_51 : decode cX8_coefficient 51 = .ok (.iand, 1) := by decide +kernel
theorem dX8_coefficient_52 : decode cX8_coefficient 52 = .ok (.ireturn, 1) := by decide +kernel
set_option maxRecDepth 20000 in
theorem ggX8_votes_X0_hold : GoodIn wsX8_votes wsX0_hold := goodIn_r _ [10, 11, 12, 13, 14, 15, 16, 17, 18, 19, 9, 20, 21, 22, 23, 24, 25, 26, 27, 28, 29, 30, 31, 32, 33, 34, 35, 36, 37, 38, 39, 40, 41, 42, 43, 44, 45, 46, 47, 48, 49, 50, 65, 66, 67, 68, 69, 70, 71, 72, 73, 74] (by decide +kernel) (by decide +kernel)
set_option maxRecDepth 20000 in
theorem gX8_votes_X0_hold : GoodIn wsX8_votes (wsV RX8 141 RX0 yX0_hold wsX0_hold) := goodIn_app (goodIn_of _ (by decide +kernel)) ggX8_votes_X0_hold
theorem dX8_votes_0 : decode cX8_votes 0 = .ok (.aload_n 0, 1) := by decide +kernel
theorem dX8_votes_1 : decode cX8_votes 1 = .ok (.getfield 36, 3) := by decide +kernel
theorem dX8_votes_4 : decode cX8_votes 4 = .ok (.aload_n 0, 1) := by decide +kernel
theorem dX8_votes_5 : decode cX8_votes 5 = .ok (.getfield 10, 3) := by decide +kernel
theorem dX8_votes_8 : decode cX8_votes 8 = .ok (.getfield 73, 3) := by decide +kernel
theorem dX8_votes_11 : decode cX8_votes 11 = .ok (.aload_n 0, 1) := by decide +kernel
theorem dX8_votes_12 : decode cX8_votes 12 = .ok (.getfield 10, 3) := by decide +kernel
theorem dX8_votes_15 : decode cX8_votes 15 = .ok (.getfield 103, 3) := by decide +kernel
theorem dX8_votes_18 : decode cX8_votes 18 = .ok (.invokevirtual 141, 3) := by decide +kernel
theorem dX8_votes_21 : decode cX8_votes 21 = .ok (.aload_n 0, 1) := by decide +kernel
theorem dX8_votes_22 : decode cX8_votes 22 = .ok (.getfield 36, 3) := by decide +kernel
theorem dX8_votes_25 : decode cX8_votes 25 = .ok (.getfield 145, 3) := by decide +kernel
theorem dX8_votes_28 : decode cX8_votes 28 = .ok (.ireturn, 1) := by decide +kernel
set_option maxRecDepth 20000 in
theorem ggX8_vote_X0_hold : GoodIn wsX8_vote wsX0_hold := goodIn_r _ [13, 14, 15, 16, 17, 18, 19, 20, 21, 22, 12, 23, 24, 25, 26, 27, 28, 29, 30, 31, 32, 33, 34, 35, 36, 37, 38, 39, 40, 41, 42, 43, 44, 45, 46, 47, 48, 49, 50, 51, 52, 53, 73, 74, 75, 76, 77, 78, 79, 80, 81, 82] (by decide +kernel) (by decide +kernel)
set_option maxRecDepth 20000 in
theorem gX8_vote_X0_hold : GoodIn wsX8_vote (wsV RX8 141 RX0 yX0_hold wsX0_hold) := goodIn_app (goodIn_of _ (by decide +kernel)) ggX8_vote_X0_hold
set_option maxRecDepth 20000 in
theorem ggX8_vote_J6_bitCount_0f7a4 : GoodIn wsX8_vote wsJ6_bitCount_0f7a4 := goodIn_r _ [29, 30, 31, 32] (by decide +kernel) (by decide +kernel)
set_option maxRecDepth 20000 in
theorem gX8_vote_J6_bitCount_0f7a4 : GoodIn wsX8_vote (va_wsS RX8 127 yJ6_bitCount_0f7a4 wsJ6_bitCount_0f7a4) := goodIn_app (goodIn_of _ (by decide +kernel)) ggX8_vote_J6_bitCount_0f7a4
set_option maxRecDepth 20000 in
theorem ggX8_vote_X8_refuseBad : GoodIn wsX8_vote wsX8_refuseBad := goodIn_r _ [57, 58, 59, 60, 61, 62, 63, 64, 65, 66, 67, 68, 69] (by decide +kernel) (by decide +kernel)
set_option maxRecDepth 20000 in
theorem gX8_vote_X8_refuseBad : GoodIn wsX8_vote (wsV RX8 65 RX8 yX8_refuseBad wsX8_refuseBad) := goodIn_app (goodIn_of _ (by decide +kernel)) ggX8_vote_X8_refuseBad
theorem dX8_vote_0 : decode cX8_vote 0 = .ok (.aload_n 0, 1) := by decide +kernel
theorem dX8_vote_1 : decode cX8_vote 1 = .ok (.getfield 36, 3) := by decide +kernel
theorem dX8_vote_4 : decode cX8_vote 4 = .ok (.aload_n 0, 1) := by decide +kernel
theorem dX8_vote_5 : decode cX8_vote 5 = .ok (.getfield 10, 3) := by decide +kernel
theorem dX8_vote_8 : decode cX8_vote 8 = .ok (.getfield 73, 3) := by decide +kernel
theorem dX8_vote_11 : decode cX8_vote 11 = .ok (.aload_n 0, 1) := by decide +kernel
theorem dX8_vote_12 : decode cX8_vote 12 = .ok (.getfield 10, 3) := by decide +kernel
theorem dX8_vote_15 : decode cX8_vote 15 = .ok (.getfield 103, 3) := by decide +kernel
theorem dX8_vote_18 : decode cX8_vote 18 = .ok (.invokevirtual 141, 3) := by decide +kernel
theorem dX8_vote_21 : decode cX8_vote 21 = .ok (.iload_n 1, 1) := by decide +kernel
theorem dX8_vote_22 : decode cX8_vote 22 = .ok (.tableswitch 73 0 3 #[30, 49, 57, 65], 30) := by decide +kernel
theorem dX8_vote_52 : decode cX8_vote 52 = .ok (.aload_n 0, 1) := by decide +kernel
theorem dX8_vote_53 : decode cX8_vote 53 = .ok (.getfield 10, 3) := by decide +kernel
theorem dX8_vote_56 : decode cX8_vote 56 = .ok (.getfield 103, 3) := by decide +kernel
theorem dX8_vote_59 : decode cX8_vote 59 = .ok (.aload_n 0, 1) := by decide +kernel
theorem dX8_vote_60 : decode cX8_vote 60 = .ok (.getfield 36, 3) := by decide +kernel
theorem dX8_vote_63 : decode cX8_vote 63 = .ok (.getfield 148, 3) := by decide +kernel
theorem dX8_vote_66 : decode cX8_vote 66 = .ok (.ixor, 1) := by decide +kernel
theorem dX8_vote_67 : decode cX8_vote 67 = .ok (.invokestatic 127, 3) := by decide +kernel
theorem dX8_vote_70 : decode cX8_vote 70 = .ok (.ireturn, 1) := by decide +kernel
theorem dX8_vote_71 : decode cX8_vote 71 = .ok (.aload_n 0, 1) := by decide +kernel
theorem dX8_vote_72 : decode cX8_vote 72 = .ok (.getfield 36, 3) := by decide +kernel
theorem dX8_vote_75 : decode cX8_vote 75 = .ok (.getfield 151, 3) := by decide +kernel
theorem dX8_vote_78 : decode cX8_vote 78 = .ok (.ireturn, 1) := by decide +kernel
theorem dX8_vote_79 : decode cX8_vote 79 = .ok (.aload_n 0, 1) := by decide +kernel
theorem dX8_vote_80 : decode cX8_vote 80 = .ok (.getfield 36, 3) := by decide +kernel
theorem dX8_vote_83 : decode cX8_vote 83 = .ok (.getfield 154, 3) := by decide +kernel
theorem dX8_vote_86 : decode cX8_vote 86 = .ok (.ireturn, 1) := by decide +kernel
theorem dX8_vote_87 : decode cX8_vote 87 = .ok (.aload_n 0, 1) := by decide +kernel
theorem dX8_vote_88 : decode cX8_vote 88 = .ok (.getfield 36, 3) := by decide +kernel
theorem dX8_vote_91 : decode cX8_vote 91 = .ok (.getfield 157, 3) := by decide +kernel
theorem dX8_vote_94 : decode cX8_vote 94 = .ok (.ireturn, 1) := by decide +kernel
theorem dX8_vote_95 : decode cX8_vote 95 = .ok (.aload_n 0, 1) := by decide +kernel
theorem dX8_vote_96 : decode cX8_vote 96 = .ok (.bipush (-2), 2) := by decide +kernel
theorem dX8_vote_98 : decode cX8_vote 98 = .ok (.invokevirtual 65, 3) := by decide +kernel
theorem dX8_vote_101 : decode cX8_vote 101 = .ok (.ireturn, 1) := by decide +kernel
set_option maxRecDepth 20000 in
theorem ggX8_mends_X4_keep : GoodIn wsX8_mends wsX4_keep := goodIn_r _ [11, 12, 13, 14, 15, 16, 17, 18, 19, 20, 21, 22, 23, 24, 25, 26, 27, 28, 29, 30, 31, 32, 33, 34, 35, 36, 37, 38, 39, 40, 41, 42, 43, 44, 45, 46, 47, 48, 49, 105, 106, 107, 97, 98, 99, 108, 109, 110, 111, 112] (by decide +kernel) (by decide +kernel)
set_option maxRecDepth 20000 in
theorem gX8_mends_X4_keep : GoodIn wsX8_mends (wsV RX8 69 RX4 yX4_keep wsX4_keep) := goodIn_app (goodIn_of _ (by decide +kernel)) ggX8_mends_X4_keep
set_option maxRecDepth 20000 in
theorem ggX8_mends_X0_hold : GoodIn wsX8_mends wsX0_hold := goodIn_r _ [54, 55, 56, 57, 58, 59, 60, 61, 62, 63, 53, 64, 65, 66, 67, 44, 45, 46, 47, 48, 49, 68, 69, 70, 71, 72, 73, 74, 17, 75, 76, 77, 78, 79, 80, 81, 82, 83, 84, 36, 85, 39, 100, 101, 102, 103, 104, 108, 109, 110, 111, 112] (by decide +kernel) (by decide +kernel)
set_option maxRecDepth 20000 in
theorem gX8_mends_X0_hold : GoodIn wsX8_mends (wsV RX8 141 RX0 yX0_hold wsX0_hold) := goodIn_app (goodIn_of _ (by decide +kernel)) ggX8_mends_X0_hold
set_option maxRecDepth 20000 in
theorem ggX8_mends_J6_bitCount_0f7a4 : GoodIn wsX8_mends wsJ6_bitCount_0f7a4 := goodIn_r _ [46, 47, 48, 49] (by decide +kernel) (by decide +kernel)
set_option maxRecDepth 20000 in
theorem gX8_mends_J6_bitCount_0f7a4 : GoodIn wsX8_mends (va_wsS RX8 127 yJ6_bitCount_0f7a4 wsJ6_bitCount_0f7a4) := goodIn_app (goodIn_of _ (by decide +kernel)) ggX8_mends_J6_bitCount_0f7a4
theorem dX8_mends_0 : decode cX8_mends 0 = .ok (.aload_n 0, 1) := by decide +kernel
theorem dX8_mends_1 : decode cX8_mends 1 = .ok (.getfield 22, 3) := by decide +kernel
theorem dX8_mends_4 : decode cX8_mends 4 = .ok (.aload_n 0, 1) := by decide +kernel
theorem dX8_mends_5 : decode cX8_mends 5 = .ok (.getfield 10, 3) := by decide +kernel
theorem dX8_mends_8 : decode cX8_mends 8 = .ok (.invokevirtual 69, 3) := by decide +kernel
theorem dX8_mends_11 : decode cX8_mends 11 = .ok (.aload_n 0, 1) := by decide +kernel
theorem dX8_mends_12 : decode cX8_mends 12 = .ok (.getfield 36, 3) := by decide +kernel
theorem dX8_mends_15 : decode cX8_mends 15 = .ok (.aload_n 0, 1) := by decide +kernel
theorem dX8_mends_16 : decode cX8_mends 16 = .ok (.getfield 10, 3) := by decide +kernel
theorem dX8_mends_19 : decode cX8_mends 19 = .ok (.getfield 73, 3) := by decide +kernel
theorem dX8_mends_22 : decode cX8_mends 22 = .ok (.aload_n 0, 1) := by decide +kernel
theorem dX8_mends_23 : decode cX8_mends 23 = .ok (.getfield 10, 3) := by decide +kernel
theorem dX8_mends_26 : decode cX8_mends 26 = .ok (.getfield 103, 3) := by decide +kernel
theorem dX8_mends_29 : decode cX8_mends 29 = .ok (.invokevirtual 141, 3) := by decide +kernel
theorem dX8_mends_32 : decode cX8_mends 32 = .ok (.aload_n 0, 1) := by decide +kernel
theorem dX8_mends_33 : decode cX8_mends 33 = .ok (.getfield 10, 3) := by decide +kernel
theorem dX8_mends_36 : decode cX8_mends 36 = .ok (.getfield 103, 3) := by decide +kernel
theorem dX8_mends_39 : decode cX8_mends 39 = .ok (.aload_n 0, 1) := by decide +kernel
theorem dX8_mends_40 : decode cX8_mends 40 = .ok (.getfield 36, 3) := by decide +kernel
theorem dX8_mends_43 : decode cX8_mends 43 = .ok (.getfield 148, 3) := by decide +kernel
theorem dX8_mends_46 : decode cX8_mends 46 = .ok (.ixor, 1) := by decide +kernel
theorem dX8_mends_47 : decode cX8_mends 47 = .ok (.invokestatic 127, 3) := by decide +kernel
theorem dX8_mends_50 : decode cX8_mends 50 = .ok (.istore_n 1, 1) := by decide +kernel
theorem dX8_mends_51 : decode cX8_mends 51 = .ok (.aload_n 0, 1) := by decide +kernel
theorem dX8_mends_52 : decode cX8_mends 52 = .ok (.getfield 10, 3) := by decide +kernel
theorem dX8_mends_55 : decode cX8_mends 55 = .ok (.aload_n 0, 1) := by decide +kernel
theorem dX8_mends_56 : decode cX8_mends 56 = .ok (.getfield 36, 3) := by decide +kernel
theorem dX8_mends_59 : decode cX8_mends 59 = .ok (.getfield 148, 3) := by decide +kernel
theorem dX8_mends_62 : decode cX8_mends 62 = .ok (.putfield 103, 3) := by decide +kernel
theorem dX8_mends_65 : decode cX8_mends 65 = .ok (.iload_n 1, 1) := by decide +kernel
theorem dX8_mends_66 : decode cX8_mends 66 = .ok (.ireturn, 1) := by decide +kernel
set_option maxRecDepth 20000 in
theorem ggX8_sign_X1_hasPlace : GoodIn wsX8_sign wsX1_hasPlace := goodIn_r _ [7, 8, 50, 51, 52, 53, 54] (by decide +kernel) (by decide +kernel)
set_option maxRecDepth 20000 in
theorem gX8_sign_X1_hasPlace : GoodIn wsX8_sign (wsV RX8 115 RX1 yX1_hasPlace wsX1_hasPlace) := goodIn_app (goodIn_of _ (by decide +kernel)) ggX8_sign_X1_hasPlace
set_option maxRecDepth 20000 in
theorem ggX8_sign_X8_signsFor : GoodIn wsX8_sign wsX8_signsFor := goodIn_r _ [13, 1, 2, 14, 15, 16, 12, 17, 18, 19, 20, 21, 22, 23, 24, 25, 26, 27, 28, 29, 30, 36, 37, 38, 39, 40, 41, 42, 43, 44, 45, 46, 47, 48, 49, 50, 51, 52, 53, 54] (by decide +kernel) (by decide +kernel)
set_option maxRecDepth 20000 in
theorem gX8_sign_X8_signsFor : GoodIn wsX8_sign (wsV RX8 160 RX8 yX8_signsFor wsX8_signsFor) := goodIn_app (goodIn_of _ (by decide +kernel)) ggX8_sign_X8_signsFor
set_option maxRecDepth 20000 in
theorem ggX8_sign_X8_refuseBad : GoodIn wsX8_sign wsX8_refuseBad := goodIn_r _ [34, 35, 36, 37, 38, 39, 40, 41, 42, 43, 44, 45, 46] (by decide +kernel) (by decide +kernel)
set_option maxRecDepth 20000 in
theorem gX8_sign_X8_refuseBad : GoodIn wsX8_sign (wsV RX8 65 RX8 yX8_refuseBad wsX8_refuseBad) := goodIn_app (goodIn_of _ (by decide +kernel)) ggX8_sign_X8_refuseBad
theorem dX8_sign_0 : decode cX8_sign 0 = .ok (.aload_n 0, 1) := by decide +kernel
theorem dX8_sign_1 : decode cX8_sign 1 = .ok (.getfield 10, 3) := by decide +kernel
theorem dX8_sign_4 : decode cX8_sign 4 = .ok (.getfield 73, 3) := by decide +kernel
theorem dX8_sign_7 : decode cX8_sign 7 = .ok (.iload_n 1, 1) := by decide +kernel
theorem dX8_sign_8 : decode cX8_sign 8 = .ok (.invokevirtual 115, 3) := by decide +kernel
theorem dX8_sign_11 : decode cX8_sign 11 = .ok (.ifCond .eq 11, 3) := by decide +kernel
theorem dX8_sign_14 : decode cX8_sign 14 = .ok (.aload_n 0, 1) := by decide +kernel
theorem dX8_sign_15 : decode cX8_sign 15 = .ok (.iload_n 1, 1) := by decide +kernel
theorem dX8_sign_16 : decode cX8_sign 16 = .ok (.invokevirtual 160, 3) := by decide +kernel
theorem dX8_sign_19 : decode cX8_sign 19 = .ok (.goto 10, 3) := by decide +kernel
theorem dX8_sign_22 : decode cX8_sign 22 = .ok (.aload_n 0, 1) := by decide +kernel
theorem dX8_sign_23 : decode cX8_sign 23 = .ok (.sipush 1000, 3) := by decide +kernel
theorem dX8_sign_26 : decode cX8_sign 26 = .ok (.invokevirtual 65, 3) := by decide +kernel
theorem dX8_sign_29 : decode cX8_sign 29 = .ok (.ireturn, 1) := by decide +kernel
set_option maxRecDepth 20000 in
theorem ggX8_best_X8_refuseBad : GoodIn wsX8_best wsX8_refuseBad := goodIn_r _ [12, 13, 34, 35, 36, 37, 38, 39, 40, 41, 42, 43, 44] (by decide +kernel) (by decide +kernel)
set_option maxRecDepth 20000 in
theorem gX8_best_X8_refuseBad : GoodIn wsX8_best (wsV RX8 65 RX8 yX8_refuseBad wsX8_refuseBad) := goodIn_app (goodIn_of _ (by decide +kernel)) ggX8_best_X8_refuseBad
set_option maxRecDepth 20000 in
theorem ggX8_best_X8_signsFor : GoodIn wsX8_best wsX8_signsFor := goodIn_r _ [17, 1, 2, 3, 18, 19, 11, 20, 21, 22, 23, 24, 25, 26, 27, 28, 29, 30, 31, 32, 33, 34, 35, 36, 37, 38, 39, 40, 41, 42, 43, 44, 45, 46, 47, 48, 49, 50, 51, 52] (by decide +kernel) (by decide +kernel)
set_option maxRecDepth 20000 in
theorem gX8_best_X8_signsFor : GoodIn wsX8_best (wsV RX8 160 RX8 yX8_signsFor wsX8_signsFor) := goodIn_app (goodIn_of _ (by decide +kernel)) ggX8_best_X8_signsFor
theorem dX8_best_0 : decode cX8_best 0 = .ok (.iload_n 1, 1) := by decide +kernel
theorem dX8_best_1 : decode cX8_best 1 = .ok (.ifCond .lt 8, 3) := by decide +kernel
theorem dX8_best_4 : decode cX8_best 4 = .ok (.iload_n 1, 1) := by decide +kernel
theorem dX8_best_5 : decode cX8_best 5 = .ok (.iconst 2, 1) := by decide +kernel
theorem dX8_best_6 : decode cX8_best 6 = .ok (.if_icmp .le 10, 3) := by decide +kernel
theorem dX8_best_9 : decode cX8_best 9 = .ok (.aload_n 0, 1) := by decide +kernel
theorem dX8_best_10 : decode cX8_best 10 = .ok (.bipush (-2), 2) := by decide +kernel
theorem dX8_best_12 : decode cX8_best 12 = .ok (.invokevirtual 65, 3) := by decide +kernel
theorem dX8_best_15 : decode cX8_best 15 = .ok (.ireturn, 1) := by decide +kernel
theorem dX8_best_16 : decode cX8_best 16 = .ok (.iconst 0, 1) := by decide +kernel
theorem dX8_best_17 : decode cX8_best 17 = .ok (.istore_n 2, 1) := by decide +kernel
theorem dX8_best_18 : decode cX8_best 18 = .ok (.aload_n 0, 1) := by decide +kernel
theorem dX8_best_19 : decode cX8_best 19 = .ok (.iconst 0, 1) := by decide +kernel
theorem dX8_best_20 : decode cX8_best 20 = .ok (.invokevirtual 160, 3) := by decide +kernel
theorem dX8_best_23 : decode cX8_best 23 = .ok (.istore_n 3, 1) := by decide +kernel
theorem dX8_best_24 : decode cX8_best 24 = .ok (.iconst 1, 1) := by decide +kernel
theorem dX8_best_25 : decode cX8_best 25 = .ok (.istore 4, 2) := by decide +kernel
theorem dX8_best_27 : decode cX8_best 27 = .ok (.iconst 1, 1) := by decide +kernel
theorem dX8_best_28 : decode cX8_best 28 = .ok (.istore 5, 2) := by decide +kernel
theorem dX8_best_30 : decode cX8_best 30 = .ok (.iload 5, 2) := by decide +kernel
theorem dX8_best_32 : decode cX8_best 32 = .ok (.aload_n 0, 1) := by decide +kernel
theorem dX8_best_33 : decode cX8_best 33 = .ok (.getfield 10, 3) := by decide +kernel
theorem dX8_best_36 : decode cX8_best 36 = .ok (.getfield 73, 3) := by decide +kernel
theorem dX8_best_39 : decode cX8_best 39 = .ok (.getfield 93, 3) := by decide +kernel
theorem dX8_best_42 : decode cX8_best 42 = .ok (.if_icmp .ge 56, 3) := by decide +kernel
theorem dX8_best_45 : decode cX8_best 45 = .ok (.aload_n 0, 1) := by decide +kernel
theorem dX8_best_46 : decode cX8_best 46 = .ok (.iload 5, 2) := by decide +kernel
theorem dX8_best_48 : decode cX8_best 48 = .ok (.invokevirtual 160, 3) := by decide +kernel
theorem dX8_best_51 : decode cX8_best 51 = .ok (.istore 6, 2) := by decide +kernel
theorem dX8_best_53 : decode cX8_best 53 = .ok (.iload 6, 2) := by decide +kernel
theorem dX8_best_55 : decode cX8_best 55 = .ok (.invokestatic 163, 3) := by decide +kernel
theorem dX8_best_58 : decode cX8_best 58 = .ok (.iload_n 3, 1) := by decide +kernel
theorem dX8_best_59 : decode cX8_best 59 = .ok (.invokestatic 163, 3) := by decide +kernel
theorem dX8_best_62 : decode cX8_best 62 = .ok (.if_icmp .le 15, 3) := by decide +kernel
theorem dX8_best_65 : decode cX8_best 65 = .ok (.iload 5, 2) := by decide +kernel
theorem dX8_best_67 : decode cX8_best 67 = .ok (.istore_n 2, 1) := by decide +kernel
theorem dX8_best_68 : decode cX8_best 68 = .ok (.iload 6, 2) := by decide +kernel
theorem dX8_best_70 : decode cX8_best 70 = .ok (.istore_n 3, 1) := by decide +kernel
theorem dX8_best_71 : decode cX8_best 71 = .ok (.iconst 1, 1) := by decide +kernel
theorem dX8_best_72 : decode cX8_best 72 = .ok (.istore 4, 2) := by decide +kernel
theorem dX8_best_74 : decode cX8_best 74 = .ok (.goto 18, 3) := by decide +kernel
theorem dX8_best_77 : decode cX8_best 77 = .ok (.iload 6, 2) := by decide +kernel
theorem dX8_best_79 : decode cX8_best 79 = .ok (.invokestatic 163, 3) := by decide +kernel
theorem dX8_best_82 : decode cX8_best 82 = .ok (.iload_n 3, 1) := by decide +kernel
theorem dX8_best_83 : decode cX8_best 83 = .ok (.invokestatic 163, 3) := by decide +kernel
theorem dX8_best_86 : decode cX8_best 86 = .ok (.if_icmp .ne 6, 3) := by decide +kernel
theorem dX8_best_89 : decode cX8_best 89 = .ok (.iinc 4 1, 3) := by decide +kernel
theorem dX8_best_92 : decode cX8_best 92 = .ok (.iinc 5 1, 3) := by decide +kernel
theorem dX8_best_95 : decode cX8_best 95 = .ok (.goto (-65), 3) := by decide +kernel
theorem dX8_best_98 : decode cX8_best 98 = .ok (.iload_n 1, 1) := by decide +kernel
theorem dX8_best_99 : decode cX8_best 99 = .ok (.ifCond .ne 5, 3) := by decide +kernel
theorem dX8_best_102 : decode cX8_best 102 = .ok (.iload_n 2, 1) := by decide +kernel
theorem dX8_best_103 : decode cX8_best 103 = .ok (.ireturn, 1) := by decide +kernel
theorem dX8_best_104 : decode cX8_best 104 = .ok (.iload_n 1, 1) := by decide +kernel
theorem dX8_best_105 : decode cX8_best 105 = .ok (.iconst 1, 1) := by decide +kernel
theorem dX8_best_106 : decode cX8_best 106 = .ok (.if_icmp .ne 7, 3) := by decide +kernel
theorem dX8_best_109 : decode cX8_best 109 = .ok (.iload_n 3, 1) := by decide +kernel
theorem dX8_best_110 : decode cX8_best 110 = .ok (.goto 5, 3) := by decide +kernel
theorem dX8_best_113 : decode cX8_best 113 = .ok (.iload 4, 2) := by decide +kernel
theorem dX8_best_115 : decode cX8_best 115 = .ok (.ireturn, 1) := by decide +kernel
set_option maxRecDepth 20000 in
theorem ggX8_nearest_X8_refuseBad : GoodIn wsX8_nearest wsX8_refuseBad := goodIn_r _ [11, 12, 69, 70, 71, 72, 73, 74, 75, 76, 77, 78, 79] (by decide +kernel) (by decide +kernel)
set_option maxRecDepth 20000 in
theorem gX8_nearest_X8_refuseBad : GoodIn wsX8_nearest (wsV RX8 65 RX8 yX8_refuseBad wsX8_refuseBad) := goodIn_app (goodIn_of _ (by decide +kernel)) ggX8_nearest_X8_refuseBad
set_option maxRecDepth 20000 in
theorem ggX8_nearest_X1_canBeWalked : GoodIn wsX8_nearest wsX1_canBeWalked := goodIn_r _ [17, 18, 89, 90, 91, 92, 93] (by decide +kernel) (by decide +kernel)
set_option maxRecDepth 20000 in
theorem gX8_nearest_X1_canBeWalked : GoodIn wsX8_nearest (wsV RX8 168 RX1 yX1_canBeWalked wsX1_canBeWalked) := goodIn_app (goodIn_of _ (by decide +kernel)) ggX8_nearest_X1_canBeWalked
set_option maxRecDepth 20000 in
theorem ggX8_nearest_X8_refuseNo : GoodIn wsX8_nearest wsX8_refuseNo := goodIn_r _ [22, 23, 69, 70, 71, 72, 73, 74, 75, 76, 77, 78, 79] (by decide +kernel) (by decide +kernel)
set_option maxRecDepth 20000 in
theorem gX8_nearest_X8_refuseNo : GoodIn wsX8_nearest (wsV RX8 172 RX8 yX8_refuseNo wsX8_refuseNo) := goodIn_app (goodIn_of _ (by decide +kernel)) ggX8_nearest_X8_refuseNo
set_option maxRecDepth 20000 in
theorem ggX8_nearest_X7_seek : GoodIn wsX8_nearest wsX7_seek := goodIn_r _ [28, 29, 30, 31, 32, 33, 34, 35, 36, 27, 37, 38, 39, 40, 41, 42, 43, 44, 45, 46, 16, 47, 48, 49, 50, 51, 52, 53, 54, 55, 56, 57, 58, 59, 60, 61, 62, 63, 64, 65, 66, 67, 68, 83, 84, 85, 86, 87, 88, 89, 90, 91, 92, 93] (by decide +kernel) (by decide +kernel)
set_option maxRecDepth 20000 in
theorem gX8_nearest_X7_seek : GoodIn wsX8_nearest (wsV RX8 175 RX7 yX7_seek wsX7_seek) := goodIn_app (goodIn_of _ (by decide +kernel)) ggX8_nearest_X7_seek
theorem dX8_nearest_0 : decode cX8_nearest 0 = .ok (.iload_n 1, 1) := by decide +kernel
theorem dX8_nearest_1 : decode cX8_nearest 1 = .ok (.ifCond .lt 8, 3) := by decide +kernel
theorem dX8_nearest_4 : decode cX8_nearest 4 = .ok (.iload_n 1, 1) := by decide +kernel
theorem dX8_nearest_5 : decode cX8_nearest 5 = .ok (.iconst 1, 1) := by decide +kernel
theorem dX8_nearest_6 : decode cX8_nearest 6 = .ok (.if_icmp .le 10, 3) := by decide +kernel
theorem dX8_nearest_9 : decode cX8_nearest 9 = .ok (.aload_n 0, 1) := by decide +kernel
theorem dX8_nearest_10 : decode cX8_nearest 10 = .ok (.bipush (-2), 2) := by decide +kernel
theorem dX8_nearest_12 : decode cX8_nearest 12 = .ok (.invokevirtual 65, 3) := by decide +kernel
theorem dX8_nearest_15 : decode cX8_nearest 15 = .ok (.ireturn, 1) := by decide +kernel
theorem dX8_nearest_16 : decode cX8_nearest 16 = .ok (.aload_n 0, 1) := by decide +kernel
theorem dX8_nearest_17 : decode cX8_nearest 17 = .ok (.getfield 10, 3) := by decide +kernel
theorem dX8_nearest_20 : decode cX8_nearest 20 = .ok (.getfield 73, 3) := by decide +kernel
theorem dX8_nearest_23 : decode cX8_nearest 23 = .ok (.invokevirtual 168, 3) := by decide +kernel
theorem dX8_nearest_26 : decode cX8_nearest 26 = .ok (.ifCond .ne 10, 3) := by decide +kernel
theorem dX8_nearest_29 : decode cX8_nearest 29 = .ok (.aload_n 0, 1) := by decide +kernel
theorem dX8_nearest_30 : decode cX8_nearest 30 = .ok (.bipush (-3), 2) := by decide +kernel
theorem dX8_nearest_32 : decode cX8_nearest 32 = .ok (.invokevirtual 172, 3) := by decide +kernel
theorem dX8_nearest_35 : decode cX8_nearest 35 = .ok (.ireturn, 1) := by decide +kernel
theorem dX8_nearest_36 : decode cX8_nearest 36 = .ok (.aload_n 0, 1) := by decide +kernel
theorem dX8_nearest_37 : decode cX8_nearest 37 = .ok (.getfield 57, 3) := by decide +kernel
theorem dX8_nearest_40 : decode cX8_nearest 40 = .ok (.aload_n 0, 1) := by decide +kernel
theorem dX8_nearest_41 : decode cX8_nearest 41 = .ok (.getfield 10, 3) := by decide +kernel
theorem dX8_nearest_44 : decode cX8_nearest 44 = .ok (.getfield 73, 3) := by decide +kernel
theorem dX8_nearest_47 : decode cX8_nearest 47 = .ok (.aload_n 0, 1) := by decide +kernel
theorem dX8_nearest_48 : decode cX8_nearest 48 = .ok (.getfield 10, 3) := by decide +kernel
theorem dX8_nearest_51 : decode cX8_nearest 51 = .ok (.getfield 103, 3) := by decide +kernel
theorem dX8_nearest_54 : decode cX8_nearest 54 = .ok (.invokevirtual 175, 3) := by decide +kernel
theorem dX8_nearest_57 : decode cX8_nearest 57 = .ok (.iload_n 1, 1) := by decide +kernel
theorem dX8_nearest_58 : decode cX8_nearest 58 = .ok (.ifCond .ne 13, 3) := by decide +kernel
theorem dX8_nearest_61 : decode cX8_nearest 61 = .ok (.aload_n 0, 1) := by decide +kernel
theorem dX8_nearest_62 : decode cX8_nearest 62 = .ok (.getfield 57, 3) := by decide +kernel
theorem dX8_nearest_65 : decode cX8_nearest 65 = .ok (.getfield 178, 3) := by decide +kernel
theorem dX8_nearest_68 : decode cX8_nearest 68 = .ok (.goto 10, 3) := by decide +kernel
theorem dX8_nearest_71 : decode cX8_nearest 71 = .ok (.aload_n 0, 1) := by decide +kernel
theorem dX8_nearest_72 : decode cX8_nearest 72 = .ok (.getfield 57, 3) := by decide +kernel
theorem dX8_nearest_75 : decode cX8_nearest 75 = .ok (.getfield 181, 3) := by decide +kernel
theorem dX8_nearest_78 : decode cX8_nearest 78 = .ok (.ireturn, 1) := by decide +kernel
set_option maxRecDepth 20000 in
theorem ggX8_near_X1_canBeWalked : GoodIn wsX8_near wsX1_canBeWalked := goodIn_r _ [10, 11, 83, 84, 85, 86, 87] (by decide +kernel) (by decide +kernel)
set_option maxRecDepth 20000 in
theorem gX8_near_X1_canBeWalked : GoodIn wsX8_near (wsV RX8 168 RX1 yX1_canBeWalked wsX1_canBeWalked) := goodIn_app (goodIn_of _ (by decide +kernel)) ggX8_near_X1_canBeWalked
set_option maxRecDepth 20000 in
theorem ggX8_near_X8_refuseNo : GoodIn wsX8_near wsX8_refuseNo := goodIn_r _ [16, 17, 63, 64, 65, 66, 67, 68, 69, 70, 71, 72, 73] (by decide +kernel) (by decide +kernel)
set_option maxRecDepth 20000 in
theorem gX8_near_X8_refuseNo : GoodIn wsX8_near (wsV RX8 172 RX8 yX8_refuseNo wsX8_refuseNo) := goodIn_app (goodIn_of _ (by decide +kernel)) ggX8_near_X8_refuseNo
set_option maxRecDepth 20000 in
theorem ggX8_near_X7_seek : GoodIn wsX8_near wsX7_seek := goodIn_r _ [22, 23, 24, 25, 26, 27, 28, 29, 30, 21, 31, 32, 33, 34, 35, 36, 37, 38, 39, 40, 9, 41, 42, 43, 44, 45, 46, 47, 48, 49, 50, 51, 52, 53, 54, 55, 56, 57, 58, 59, 60, 61, 62, 77, 78, 79, 80, 81, 82, 83, 84, 85, 86, 87] (by decide +kernel) (by decide +kernel)
set_option maxRecDepth 20000 in
theorem gX8_near_X7_seek : GoodIn wsX8_near (wsV RX8 175 RX7 yX7_seek wsX7_seek) := goodIn_app (goodIn_of _ (by decide +kernel)) ggX8_near_X7_seek
theorem dX8_near_0 : decode cX8_near 0 = .ok (.aload_n 0, 1) := by decide +kernel
theorem dX8_near_1 : decode cX8_near 1 = .ok (.getfield 10, 3) := by decide +kernel
theorem dX8_near_4 : decode cX8_near 4 = .ok (.getfield 73, 3) := by decide +kernel
theorem dX8_near_7 : decode cX8_near 7 = .ok (.invokevirtual 168, 3) := by decide +kernel
theorem dX8_near_10 : decode cX8_near 10 = .ok (.ifCond .ne 9, 3) := by decide +kernel
theorem dX8_near_13 : decode cX8_near 13 = .ok (.aload_n 0, 1) := by decide +kernel
theorem dX8_near_14 : decode cX8_near 14 = .ok (.iconst 0, 1) := by decide +kernel
theorem dX8_near_15 : decode cX8_near 15 = .ok (.invokevirtual 172, 3) := by decide +kernel
theorem dX8_near_18 : decode cX8_near 18 = .ok (.ireturn, 1) := by decide +kernel
theorem dX8_near_19 : decode cX8_near 19 = .ok (.aload_n 0, 1) := by decide +kernel
theorem dX8_near_20 : decode cX8_near 20 = .ok (.getfield 57, 3) := by decide +kernel
theorem dX8_near_23 : decode cX8_near 23 = .ok (.aload_n 0, 1) := by decide +kernel
theorem dX8_near_24 : decode cX8_near 24 = .ok (.getfield 10, 3) := by decide +kernel
theorem dX8_near_27 : decode cX8_near 27 = .ok (.getfield 73, 3) := by decide +kernel
theorem dX8_near_30 : decode cX8_near 30 = .ok (.aload_n 0, 1) := by decide +kernel
theorem dX8_near_31 : decode cX8_near 31 = .ok (.getfield 10, 3) := by decide +kernel
theorem dX8_near_34 : decode cX8_near 34 = .ok (.getfield 103, 3) := by decide +kernel
theorem dX8_near_37 : decode cX8_near 37 = .ok (.invokevirtual 175, 3) := by decide +kernel
theorem dX8_near_40 : decode cX8_near 40 = .ok (.aload_n 0, 1) := by decide +kernel
theorem dX8_near_41 : decode cX8_near 41 = .ok (.getfield 57, 3) := by decide +kernel
theorem dX8_near_44 : decode cX8_near 44 = .ok (.getfield 184, 3) := by decide +kernel
theorem dX8_near_47 : decode cX8_near 47 = .ok (.ireturn, 1) := by decide +kernel
set_option maxRecDepth 20000 in
theorem ggX8_soft_X1_hasPlace : GoodIn wsX8_soft wsX1_hasPlace := goodIn_r _ [9, 10, 72, 73, 74, 75, 76] (by decide +kernel) (by decide +kernel)
set_option maxRecDepth 20000 in
theorem gX8_soft_X1_hasPlace : GoodIn wsX8_soft (wsV RX8 115 RX1 yX1_hasPlace wsX1_hasPlace) := goodIn_app (goodIn_of _ (by decide +kernel)) ggX8_soft_X1_hasPlace
set_option maxRecDepth 20000 in
theorem ggX8_soft_X8_refuseBad : GoodIn wsX8_soft wsX8_refuseBad := goodIn_r _ [15, 16, 58, 59, 60, 61, 62, 63, 64, 65, 66, 67, 68] (by decide +kernel) (by decide +kernel)
set_option maxRecDepth 20000 in
theorem gX8_soft_X8_refuseBad : GoodIn wsX8_soft (wsV RX8 65 RX8 yX8_refuseBad wsX8_refuseBad) := goodIn_app (goodIn_of _ (by decide +kernel)) ggX8_soft_X8_refuseBad
set_option maxRecDepth 20000 in
theorem ggX8_soft_X4_keep : GoodIn wsX8_soft wsX4_keep := goodIn_r _ [21, 22, 23, 24, 25, 26, 27, 28, 29, 30, 31, 32, 33, 34, 35, 36, 37, 38, 39, 40, 41, 42, 43, 44, 45, 8, 46, 47, 48, 10, 49, 50, 51, 52, 53, 54, 55, 56, 57, 77, 78, 79, 69, 70, 71, 72, 73, 74, 75, 76] (by decide +kernel) (by decide +kernel)
set_option maxRecDepth 20000 in
theorem gX8_soft_X4_keep : GoodIn wsX8_soft (wsV RX8 69 RX4 yX4_keep wsX4_keep) := goodIn_app (goodIn_of _ (by decide +kernel)) ggX8_soft_X4_keep
theorem dX8_soft_0 : decode cX8_soft 0 = .ok (.aload_n 0, 1) := by decide +kernel
theorem dX8_soft_1 : decode cX8_soft 1 = .ok (.getfield 10, 3) := by decide +kernel
theorem dX8_soft_4 : decode cX8_soft 4 = .ok (.getfield 73, 3) := by decide +kernel
theorem dX8_soft_7 : decode cX8_soft 7 = .ok (.iload_n 1, 1) := by decide +kernel
theorem dX8_soft_8 : decode cX8_soft 8 = .ok (.invokevirtual 115, 3) := by decide +kernel
theorem dX8_soft_11 : decode cX8_soft 11 = .ok (.ifCond .eq 15, 3) := by decide +kernel
theorem dX8_soft_14 : decode cX8_soft 14 = .ok (.iload_n 2, 1) := by decide +kernel
theorem dX8_soft_15 : decode cX8_soft 15 = .ok (.bipush (-99), 2) := by decide +kernel
theorem dX8_soft_17 : decode cX8_soft 17 = .ok (.if_icmp .lt 9, 3) := by decide +kernel
theorem dX8_soft_20 : decode cX8_soft 20 = .ok (.iload_n 2, 1) := by decide +kernel
theorem dX8_soft_21 : decode cX8_soft 21 = .ok (.bipush 99, 2) := by decide +kernel
theorem dX8_soft_23 : decode cX8_soft 23 = .ok (.if_icmp .le 11, 3) := by decide +kernel
theorem dX8_soft_26 : decode cX8_soft 26 = .ok (.aload_n 0, 1) := by decide +kernel
theorem dX8_soft_27 : decode cX8_soft 27 = .ok (.sipush (-1000), 3) := by decide +kernel
theorem dX8_soft_30 : decode cX8_soft 30 = .ok (.invokevirtual 65, 3) := by decide +kernel
theorem dX8_soft_33 : decode cX8_soft 33 = .ok (.ireturn, 1) := by decide +kernel
theorem dX8_soft_34 : decode cX8_soft 34 = .ok (.aload_n 0, 1) := by decide +kernel
theorem dX8_soft_35 : decode cX8_soft 35 = .ok (.getfield 22, 3) := by decide +kernel
theorem dX8_soft_38 : decode cX8_soft 38 = .ok (.aload_n 0, 1) := by decide +kernel
theorem dX8_soft_39 : decode cX8_soft 39 = .ok (.getfield 10, 3) := by decide +kernel
theorem dX8_soft_42 : decode cX8_soft 42 = .ok (.invokevirtual 69, 3) := by decide +kernel
theorem dX8_soft_45 : decode cX8_soft 45 = .ok (.aload_n 0, 1) := by decide +kernel
theorem dX8_soft_46 : decode cX8_soft 46 = .ok (.getfield 10, 3) := by decide +kernel
theorem dX8_soft_49 : decode cX8_soft 49 = .ok (.getfield 187, 3) := by decide +kernel
theorem dX8_soft_52 : decode cX8_soft 52 = .ok (.iload_n 1, 1) := by decide +kernel
theorem dX8_soft_53 : decode cX8_soft 53 = .ok (.iaload, 1) := by decide +kernel
theorem dX8_soft_54 : decode cX8_soft 54 = .ok (.istore_n 3, 1) := by decide +kernel
theorem dX8_soft_55 : decode cX8_soft 55 = .ok (.aload_n 0, 1) := by decide +kernel
theorem dX8_soft_56 : decode cX8_soft 56 = .ok (.getfield 10, 3) := by decide +kernel
theorem dX8_soft_59 : decode cX8_soft 59 = .ok (.getfield 187, 3) := by decide +kernel
theorem dX8_soft_62 : decode cX8_soft 62 = .ok (.iload_n 1, 1) := by decide +kernel
theorem dX8_soft_63 : decode cX8_soft 63 = .ok (.iload_n 2, 1) := by decide +kernel
theorem dX8_soft_64 : decode cX8_soft 64 = .ok (.iastore, 1) := by decide +kernel
theorem dX8_soft_65 : decode cX8_soft 65 = .ok (.iload_n 3, 1) := by decide +kernel
theorem dX8_soft_66 : decode cX8_soft 66 = .ok (.ireturn, 1) := by decide +kernel
set_option maxRecDepth 20000 in
theorem ggX8_harden_X8_refuseBad : GoodIn wsX8_harden wsX8_refuseBad := goodIn_r _ [10, 11, 59, 60, 61, 62, 63, 64, 65, 66, 67, 68, 69] (by decide +kernel) (by decide +kernel)
set_option maxRecDepth 20000 in
theorem gX8_harden_X8_refuseBad : GoodIn wsX8_harden (wsV RX8 65 RX8 yX8_refuseBad wsX8_refuseBad) := goodIn_app (goodIn_of _ (by decide +kernel)) ggX8_harden_X8_refuseBad
set_option maxRecDepth 20000 in
theorem ggX8_harden_X4_keep : GoodIn wsX8_harden wsX4_keep := goodIn_r _ [16, 17, 18, 19, 20, 21, 22, 23, 24, 25, 26, 27, 28, 29, 30, 31, 32, 33, 34, 35, 36, 37, 38, 39, 40, 41, 42, 43, 44, 45, 46, 47, 48, 49, 50, 51, 52, 53, 54, 78, 79, 80, 70, 71, 72, 73, 74, 75, 76, 77] (by decide +kernel) (by decide +kernel)
set_option maxRecDepth 20000 in
theorem gX8_harden_X4_keep : GoodIn wsX8_harden (wsV RX8 69 RX4 yX4_keep wsX4_keep) := goodIn_app (goodIn_of _ (by decide +kernel)) ggX8_harden_X4_keep
set_option maxRecDepth 20000 in
theorem ggX8_harden_X5_bit : GoodIn wsX8_harden wsX5_bit := goodIn_r _ [58, 32, 70, 71, 72] (by decide +kernel) (by decide +kernel)
set_option maxRecDepth 20000 in
theorem gX8_harden_X5_bit : GoodIn wsX8_harden (wsV RX8 119 RX5 yX5_bit wsX5_bit) := goodIn_app (goodIn_of _ (by decide +kernel)) ggX8_harden_X5_bit
theorem dX8_harden_0 : decode cX8_harden 0 = .ok (.iload_n 1, 1) := by decide +kernel
theorem dX8_harden_1 : decode cX8_harden 1 = .ok (.iconst 1, 1) := by decide +kernel
theorem dX8_harden_2 : decode cX8_harden 2 = .ok (.if_icmp .lt 9, 3) := by decide +kernel
theorem dX8_harden_5 : decode cX8_harden 5 = .ok (.iload_n 1, 1) := by decide +kernel
theorem dX8_harden_6 : decode cX8_harden 6 = .ok (.bipush 99, 2) := by decide +kernel
theorem dX8_harden_8 : decode cX8_harden 8 = .ok (.if_icmp .le 10, 3) := by decide +kernel
theorem dX8_harden_11 : decode cX8_harden 11 = .ok (.aload_n 0, 1) := by decide +kernel
theorem dX8_harden_12 : decode cX8_harden 12 = .ok (.bipush (-2), 2) := by decide +kernel
theorem dX8_harden_14 : decode cX8_harden 14 = .ok (.invokevirtual 65, 3) := by decide +kernel
theorem dX8_harden_17 : decode cX8_harden 17 = .ok (.ireturn, 1) := by decide +kernel
theorem dX8_harden_18 : decode cX8_harden 18 = .ok (.aload_n 0, 1) := by decide +kernel
theorem dX8_harden_19 : decode cX8_harden 19 = .ok (.getfield 22, 3) := by decide +kernel
theorem dX8_harden_22 : decode cX8_harden 22 = .ok (.aload_n 0, 1) := by decide +kernel
theorem dX8_harden_23 : decode cX8_harden 23 = .ok (.getfield 10, 3) := by decide +kernel
theorem dX8_harden_26 : decode cX8_harden 26 = .ok (.invokevirtual 69, 3) := by decide +kernel
theorem dX8_harden_29 : decode cX8_harden 29 = .ok (.iconst 0, 1) := by decide +kernel
theorem dX8_harden_30 : decode cX8_harden 30 = .ok (.istore_n 2, 1) := by decide +kernel
theorem dX8_harden_31 : decode cX8_harden 31 = .ok (.iload_n 2, 1) := by decide +kernel
theorem dX8_harden_32 : decode cX8_harden 32 = .ok (.aload_n 0, 1) := by decide +kernel
theorem dX8_harden_33 : decode cX8_harden 33 = .ok (.getfield 10, 3) := by decide +kernel
theorem dX8_harden_36 : decode cX8_harden 36 = .ok (.getfield 73, 3) := by decide +kernel
theorem dX8_harden_39 : decode cX8_harden 39 = .ok (.getfield 93, 3) := by decide +kernel
theorem dX8_harden_42 : decode cX8_harden 42 = .ok (.if_icmp .ge 35, 3) := by decide +kernel
theorem dX8_harden_45 : decode cX8_harden 45 = .ok (.aload_n 0, 1) := by decide +kernel
theorem dX8_harden_46 : decode cX8_harden 46 = .ok (.getfield 10, 3) := by decide +kernel
theorem dX8_harden_49 : decode cX8_harden 49 = .ok (.getfield 187, 3) := by decide +kernel
theorem dX8_harden_52 : decode cX8_harden 52 = .ok (.iload_n 2, 1) := by decide +kernel
theorem dX8_harden_53 : decode cX8_harden 53 = .ok (.aload_n 0, 1) := by decide +kernel
theorem dX8_harden_54 : decode cX8_harden 54 = .ok (.getfield 10, 3) := by decide +kernel
theorem dX8_harden_57 : decode cX8_harden 57 = .ok (.iload_n 2, 1) := by decide +kernel
theorem dX8_harden_58 : decode cX8_harden 58 = .ok (.invokevirtual 119, 3) := by decide +kernel
theorem dX8_harden_61 : decode cX8_harden 61 = .ok (.ifCond .ne 7, 3) := by decide +kernel
theorem dX8_harden_64 : decode cX8_harden 64 = .ok (.iload_n 1, 1) := by decide +kernel
theorem dX8_harden_65 : decode cX8_harden 65 = .ok (.goto 5, 3) := by decide +kernel
theorem dX8_harden_68 : decode cX8_harden 68 = .ok (.iload_n 1, 1) := by decide +kernel
theorem dX8_harden_69 : decode cX8_harden 69 = .ok (.ineg, 1) := by decide +kernel
theorem dX8_harden_70 : decode cX8_harden 70 = .ok (.iastore, 1) := by decide +kernel
theorem dX8_harden_71 : decode cX8_harden 71 = .ok (.iinc 2 1, 3) := by decide +kernel
theorem dX8_harden_74 : decode cX8_harden 74 = .ok (.goto (-43), 3) := by decide +kernel
theorem dX8_harden_77 : decode cX8_harden 77 = .ok (.iload_n 1, 1) := by decide +kernel
theorem dX8_harden_78 : decode cX8_harden 78 = .ok (.ireturn, 1) := by decide +kernel
set_option maxRecDepth 20000 in
theorem ggX8_halves_X2_solve : GoodIn wsX8_halves wsX2_solve := goodIn_r _ [9, 10, 11, 12, 13, 14, 15, 16, 17, 18, 19, 20, 8, 21, 22, 23, 24, 25, 26, 27, 28, 29, 30, 31, 32, 33, 34, 35, 36, 37, 38, 39, 40, 41, 42, 43, 44, 45, 46, 47, 62, 63, 64, 65, 66, 67] (by decide +kernel) (by decide +kernel)
set_option maxRecDepth 20000 in
theorem gX8_halves_X2_solve : GoodIn wsX8_halves (wsV RX8 190 RX2 yX2_solve wsX2_solve) := goodIn_app (goodIn_of _ (by decide +kernel)) ggX8_halves_X2_solve
theorem dX8_halves_0 : decode cX8_halves 0 = .ok (.aload_n 0, 1) := by decide +kernel
theorem dX8_halves_1 : decode cX8_halves 1 = .ok (.getfield 43, 3) := by decide +kernel
theorem dX8_halves_4 : decode cX8_halves 4 = .ok (.aload_n 0, 1) := by decide +kernel
theorem dX8_halves_5 : decode cX8_halves 5 = .ok (.getfield 10, 3) := by decide +kernel
theorem dX8_halves_8 : decode cX8_halves 8 = .ok (.getfield 73, 3) := by decide +kernel
theorem dX8_halves_11 : decode cX8_halves 11 = .ok (.aload_n 0, 1) := by decide +kernel
theorem dX8_halves_12 : decode cX8_halves 12 = .ok (.getfield 10, 3) := by decide +kernel
theorem dX8_halves_15 : decode cX8_halves 15 = .ok (.getfield 187, 3) := by decide +kernel
theorem dX8_halves_18 : decode cX8_halves 18 = .ok (.invokevirtual 190, 3) := by decide +kernel
theorem dX8_halves_21 : decode cX8_halves 21 = .ok (.ireturn, 1) := by decide +kernel
set_option maxRecDepth 20000 in
theorem ggX8_merit_X8_refuseBad : GoodIn wsX8_merit wsX8_refuseBad := goodIn_r _ [11, 12, 119, 120, 121, 122, 123, 124, 125, 126, 127, 128, 129] (by decide +kernel) (by decide +kernel)
set_option maxRecDepth 20000 in
theorem gX8_merit_X8_refuseBad : GoodIn wsX8_merit (wsV RX8 65 RX8 yX8_refuseBad wsX8_refuseBad) := goodIn_app (goodIn_of _ (by decide +kernel)) ggX8_merit_X8_refuseBad
set_option maxRecDepth 20000 in
theorem ggX8_merit_X1_canBeWalked : GoodIn wsX8_merit wsX1_canBeWalked := goodIn_r _ [17, 18, 133, 134, 135, 136, 137] (by decide +kernel) (by decide +kernel)
set_option maxRecDepth 20000 in
theorem gX8_merit_X1_canBeWalked : GoodIn wsX8_merit (wsV RX8 168 RX1 yX1_canBeWalked wsX1_canBeWalked) := goodIn_app (goodIn_of _ (by decide +kernel)) ggX8_merit_X1_canBeWalked
set_option maxRecDepth 20000 in
theorem ggX8_merit_X8_refuseNo : GoodIn wsX8_merit wsX8_refuseNo := goodIn_r _ [22, 23, 119, 120, 121, 122, 123, 124, 125, 126, 127, 128, 129] (by decide +kernel) (by decide +kernel)
set_option maxRecDepth 20000 in
theorem gX8_merit_X8_refuseNo : GoodIn wsX8_merit (wsV RX8 172 RX8 yX8_refuseNo wsX8_refuseNo) := goodIn_app (goodIn_of _ (by decide +kernel)) ggX8_merit_X8_refuseNo
set_option maxRecDepth 20000 in
theorem ggX8_merit_X3_weigh : GoodIn wsX8_merit wsX3_weigh := goodIn_r _ [28, 29, 30, 31, 32, 33, 34, 138] (by decide +kernel) (by decide +kernel)
set_option maxRecDepth 20000 in
theorem gX8_merit_X3_weigh : GoodIn wsX8_merit (wsV RX8 194 RX3 yX3_weigh wsX3_weigh) := goodIn_app (goodIn_of _ (by decide +kernel)) ggX8_merit_X3_weigh
set_option maxRecDepth 20000 in
theorem ggX8_merit_X7_greatest : GoodIn wsX8_merit wsX7_greatest := goodIn_r _ [39, 40, 41, 42, 43, 44, 45, 46, 47, 48, 38, 49, 50, 51, 52, 53, 54, 55, 56, 57, 16, 58, 59, 60, 61, 62, 63, 64, 65, 66, 67, 27, 68, 29, 69, 70, 71, 72, 73, 31, 32, 33, 34, 139, 140, 141, 142, 143, 144, 133, 134, 135, 136, 137, 138] (by decide +kernel) (by decide +kernel)
set_option maxRecDepth 20000 in
theorem gX8_merit_X7_greatest : GoodIn wsX8_merit (wsV RX8 198 RX7 yX7_greatest wsX7_greatest) := goodIn_app (goodIn_of _ (by decide +kernel)) ggX8_merit_X7_greatest
set_option maxRecDepth 20000 in
theorem ggX8_merit_X8_halves : GoodIn wsX8_merit wsX8_halves := goodIn_r _ [77, 78, 1, 2, 4, 79, 80, 81, 82, 83, 84, 85, 86, 87, 88, 89, 90, 91, 92, 93, 94, 95, 96, 97, 98, 99, 100, 10, 101, 102, 103, 104, 105, 106, 107, 108, 109, 110, 111, 44, 112, 113, 52, 53, 114, 115, 116, 117, 119, 120, 121, 122, 123, 124, 125, 126, 127, 128, 129, 130, 131, 132, 145, 133, 134, 135, 136, 137] (by decide +kernel) (by decide +kernel)
set_option maxRecDepth 20000 in
theorem gX8_merit_X8_halves : GoodIn wsX8_merit (wsV RX8 202 RX8 yX8_halves wsX8_halves) := goodIn_app (goodIn_of _ (by decide +kernel)) ggX8_merit_X8_halves
set_option maxRecDepth 20000 in
theorem ggX8_merit_X3_sumFor : GoodIn wsX8_merit wsX3_sumFor := goodIn_r _ [68, 29, 138] (by decide +kernel) (by decide +kernel)
set_option maxRecDepth 20000 in
theorem gX8_merit_X3_sumFor : GoodIn wsX8_merit (wsV RX8 205 RX3 yX3_sumFor wsX3_sumFor) := goodIn_app (goodIn_of _ (by decide +kernel)) ggX8_merit_X3_sumFor
theorem dX8_merit_0 : decode cX8_merit 0 = .ok (.iload_n 1, 1) := by decide +kernel
theorem dX8_merit_1 : decode cX8_merit 1 = .ok (.ifCond .lt 8, 3) := by decide +kernel
theorem dX8_merit_4 : decode cX8_merit 4 = .ok (.iload_n 1, 1) := by decide +kernel
theorem dX8_merit_5 : decode cX8_merit 5 = .ok (.iconst 2, 1) := by decide +kernel
theorem dX8_merit_6 : decode cX8_merit 6 = .ok (.if_icmp .le 10, 3) := by decide +kernel
theorem dX8_merit_9 : decode cX8_merit 9 = .ok (.aload_n 0, 1) := by decide +kernel
theorem dX8_merit_10 : decode cX8_merit 10 = .ok (.bipush (-2), 2) := by decide +kernel
theorem dX8_merit_12 : decode cX8_merit 12 = .ok (.invokevirtual 65, 3) := by decide +kernel
theorem dX8_merit_15 : decode cX8_merit 15 = .ok (.ireturn, 1) := by decide +kernel
theorem dX8_merit_16 : decode cX8_merit 16 = .ok (.iload_n 1, 1) := by decide +kernel
theorem dX8_merit_17 : decode cX8_merit 17 = .ok (.iconst 2, 1) := by decide +kernel
theorem dX8_merit_18 : decode cX8_merit 18 = .ok (.if_icmp .ne 23, 3) := by decide +kernel
theorem dX8_merit_21 : decode cX8_merit 21 = .ok (.aload_n 0, 1) := by decide +kernel
theorem dX8_merit_22 : decode cX8_merit 22 = .ok (.getfield 10, 3) := by decide +kernel
theorem dX8_merit_25 : decode cX8_merit 25 = .ok (.getfield 73, 3) := by decide +kernel
theorem dX8_merit_28 : decode cX8_merit 28 = .ok (.invokevirtual 168, 3) := by decide +kernel
theorem dX8_merit_31 : decode cX8_merit 31 = .ok (.ifCond .ne 10, 3) := by decide +kernel
theorem dX8_merit_34 : decode cX8_merit 34 = .ok (.aload_n 0, 1) := by decide +kernel
theorem dX8_merit_35 : decode cX8_merit 35 = .ok (.bipush (-3), 2) := by decide +kernel
theorem dX8_merit_37 : decode cX8_merit 37 = .ok (.invokevirtual 172, 3) := by decide +kernel
theorem dX8_merit_40 : decode cX8_merit 40 = .ok (.ireturn, 1) := by decide +kernel
theorem dX8_merit_41 : decode cX8_merit 41 = .ok (.aload_n 0, 1) := by decide +kernel
theorem dX8_merit_42 : decode cX8_merit 42 = .ok (.getfield 50, 3) := by decide +kernel
theorem dX8_merit_45 : decode cX8_merit 45 = .ok (.aload_n 0, 1) := by decide +kernel
theorem dX8_merit_46 : decode cX8_merit 46 = .ok (.getfield 10, 3) := by decide +kernel
theorem dX8_merit_49 : decode cX8_merit 49 = .ok (.getfield 187, 3) := by decide +kernel
theorem dX8_merit_52 : decode cX8_merit 52 = .ok (.invokevirtual 194, 3) := by decide +kernel
theorem dX8_merit_55 : decode cX8_merit 55 = .ok (.iload_n 1, 1) := by decide +kernel
theorem dX8_merit_56 : decode cX8_merit 56 = .ok (.iconst 2, 1) := by decide +kernel
theorem dX8_merit_57 : decode cX8_merit 57 = .ok (.if_icmp .ne 22, 3) := by decide +kernel
theorem dX8_merit_60 : decode cX8_merit 60 = .ok (.aload_n 0, 1) := by decide +kernel
theorem dX8_merit_61 : decode cX8_merit 61 = .ok (.getfield 57, 3) := by decide +kernel
theorem dX8_merit_64 : decode cX8_merit 64 = .ok (.aload_n 0, 1) := by decide +kernel
theorem dX8_merit_65 : decode cX8_merit 65 = .ok (.getfield 10, 3) := by decide +kernel
theorem dX8_merit_68 : decode cX8_merit 68 = .ok (.getfield 73, 3) := by decide +kernel
theorem dX8_merit_71 : decode cX8_merit 71 = .ok (.aload_n 0, 1) := by decide +kernel
theorem dX8_merit_72 : decode cX8_merit 72 = .ok (.getfield 50, 3) := by decide +kernel
theorem dX8_merit_75 : decode cX8_merit 75 = .ok (.invokevirtual 198, 3) := by decide +kernel
theorem dX8_merit_78 : decode cX8_merit 78 = .ok (.ireturn, 1) := by decide +kernel
theorem dX8_merit_79 : decode cX8_merit 79 = .ok (.aload_n 0, 1) := by decide +kernel
theorem dX8_merit_80 : decode cX8_merit 80 = .ok (.getfield 50, 3) := by decide +kernel
theorem dX8_merit_83 : decode cX8_merit 83 = .ok (.iload_n 1, 1) := by decide +kernel
theorem dX8_merit_84 : decode cX8_merit 84 = .ok (.ifCond .ne 13, 3) := by decide +kernel
theorem dX8_merit_87 : decode cX8_merit 87 = .ok (.aload_n 0, 1) := by decide +kernel
theorem dX8_merit_88 : decode cX8_merit 88 = .ok (.getfield 10, 3) := by decide +kernel
theorem dX8_merit_91 : decode cX8_merit 91 = .ok (.getfield 103, 3) := by decide +kernel
theorem dX8_merit_94 : decode cX8_merit 94 = .ok (.goto 7, 3) := by decide +kernel
theorem dX8_merit_97 : decode cX8_merit 97 = .ok (.aload_n 0, 1) := by decide +kernel
theorem dX8_merit_98 : decode cX8_merit 98 = .ok (.invokevirtual 202, 3) := by decide +kernel
theorem dX8_merit_101 : decode cX8_merit 101 = .ok (.invokevirtual 205, 3) := by decide +kernel
theorem dX8_merit_104 : decode cX8_merit 104 = .ok (.ireturn, 1) := by decide +kernel
set_option maxRecDepth 20000 in
theorem ggX8_weights_X8_refuseBad : GoodIn wsX8_weights wsX8_refuseBad := goodIn_r _ [8, 9, 63, 64, 65, 66, 67, 68, 69, 70, 71, 72, 73] (by decide +kernel) (by decide +kernel)
set_option maxRecDepth 20000 in
theorem gX8_weights_X8_refuseBad : GoodIn wsX8_weights (wsV RX8 65 RX8 yX8_refuseBad wsX8_refuseBad) := goodIn_app (goodIn_of _ (by decide +kernel)) ggX8_weights_X8_refuseBad
set_option maxRecDepth 20000 in
theorem ggX8_weights_X1_canBeWalked : GoodIn wsX8_weights wsX1_canBeWalked := goodIn_r _ [14, 15, 77, 78, 79, 80, 81] (by decide +kernel) (by decide +kernel)
set_option maxRecDepth 20000 in
theorem gX8_weights_X1_canBeWalked : GoodIn wsX8_weights (wsV RX8 168 RX1 yX1_canBeWalked wsX1_canBeWalked) := goodIn_app (goodIn_of _ (by decide +kernel)) ggX8_weights_X1_canBeWalked
set_option maxRecDepth 20000 in
theorem ggX8_weights_X8_refuseNo : GoodIn wsX8_weights wsX8_refuseNo := goodIn_r _ [19, 20, 63, 64, 65, 66, 67, 68, 69, 70, 71, 72, 73] (by decide +kernel) (by decide +kernel)
set_option maxRecDepth 20000 in
theorem gX8_weights_X8_refuseNo : GoodIn wsX8_weights (wsV RX8 172 RX8 yX8_refuseNo wsX8_refuseNo) := goodIn_app (goodIn_of _ (by decide +kernel)) ggX8_weights_X8_refuseNo
set_option maxRecDepth 20000 in
theorem ggX8_weights_X7_howManyWeigh : GoodIn wsX8_weights wsX7_howManyWeigh := goodIn_r _ [25, 26, 27, 28, 29, 30, 24, 31, 32, 33, 34, 35, 36, 37, 38, 39, 40, 13, 41, 42, 43, 44, 45, 46, 47, 48, 49, 50, 51, 52, 53, 54, 55, 56, 57, 58, 59, 60, 61, 62, 82, 83, 84, 85, 86, 87, 77, 78, 79, 80, 81] (by decide +kernel) (by decide +kernel)
set_option maxRecDepth 20000 in
theorem gX8_weights_X7_howManyWeigh : GoodIn wsX8_weights (wsV RX8 208 RX7 yX7_howManyWeigh wsX7_howManyWeigh) := goodIn_app (goodIn_of _ (by decide +kernel)) ggX8_weights_X7_howManyWeigh
theorem dX8_weights_0 : decode cX8_weights 0 = .ok (.iload_n 1, 1) := by decide +kernel
theorem dX8_weights_1 : decode cX8_weights 1 = .ok (.ifCond .lt 9, 3) := by decide +kernel
theorem dX8_weights_4 : decode cX8_weights 4 = .ok (.iload_n 1, 1) := by decide +kernel
theorem dX8_weights_5 : decode cX8_weights 5 = .ok (.bipush 32, 2) := by decide +kernel
theorem dX8_weights_7 : decode cX8_weights 7 = .ok (.if_icmp .le 10, 3) := by decide +kernel
theorem dX8_weights_10 : decode cX8_weights 10 = .ok (.aload_n 0, 1) := by decide +kernel
theorem dX8_weights_11 : decode cX8_weights 11 = .ok (.bipush (-2), 2) := by decide +kernel
theorem dX8_weights_13 : decode cX8_weights 13 = .ok (.invokevirtual 65, 3) := by decide +kernel
theorem dX8_weights_16 : decode cX8_weights 16 = .ok (.ireturn, 1) := by decide +kernel
theorem dX8_weights_17 : decode cX8_weights 17 = .ok (.aload_n 0, 1) := by decide +kernel
theorem dX8_weights_18 : decode cX8_weights 18 = .ok (.getfield 10, 3) := by decide +kernel
theorem dX8_weights_21 : decode cX8_weights 21 = .ok (.getfield 73, 3) := by decide +kernel
theorem dX8_weights_24 : decode cX8_weights 24 = .ok (.invokevirtual 168, 3) := by decide +kernel
theorem dX8_weights_27 : decode cX8_weights 27 = .ok (.ifCond .ne 10, 3) := by decide +kernel
theorem dX8_weights_30 : decode cX8_weights 30 = .ok (.aload_n 0, 1) := by decide +kernel
theorem dX8_weights_31 : decode cX8_weights 31 = .ok (.bipush (-3), 2) := by decide +kernel
theorem dX8_weights_33 : decode cX8_weights 33 = .ok (.invokevirtual 172, 3) := by decide +kernel
theorem dX8_weights_36 : decode cX8_weights 36 = .ok (.ireturn, 1) := by decide +kernel
theorem dX8_weights_37 : decode cX8_weights 37 = .ok (.aload_n 0, 1) := by decide +kernel
theorem dX8_weights_38 : decode cX8_weights 38 = .ok (.getfield 57, 3) := by decide +kernel
theorem dX8_weights_41 : decode cX8_weights 41 = .ok (.aload_n 0, 1) := by decide +kernel
theorem dX8_weights_42 : decode cX8_weights 42 = .ok (.getfield 10, 3) := by decide +kernel
theorem dX8_weights_45 : decode cX8_weights 45 = .ok (.getfield 73, 3) := by decide +kernel
theorem dX8_weights_48 : decode cX8_weights 48 = .ok (.iload_n 1, 1) := by decide +kernel
theorem dX8_weights_49 : decode cX8_weights 49 = .ok (.invokevirtual 208, 3) := by decide +kernel
theorem dX8_weights_52 : decode cX8_weights 52 = .ok (.ireturn, 1) := by decide +kernel
set_option maxRecDepth 20000 in
theorem ggX8_perpendicular_X1_wordOfTerm : GoodIn wsX8_perpendicular wsX1_wordOfTerm := goodIn_r _ [9, 10, 11, 12, 13, 8, 14, 15, 41, 42, 43, 44, 45] (by decide +kernel) (by decide +kernel)
set_option maxRecDepth 20000 in
theorem gX8_perpendicular_X1_wordOfTerm : GoodIn wsX8_perpendicular (wsV RX8 212 RX1 yX1_wordOfTerm wsX1_wordOfTerm) := goodIn_app (goodIn_of _ (by decide +kernel)) ggX8_perpendicular_X1_wordOfTerm
set_option maxRecDepth 20000 in
theorem ggX8_perpendicular_X8_isOdd : GoodIn wsX8_perpendicular wsX8_isOdd := goodIn_r _ [19, 20, 21, 22, 23, 24, 25, 26] (by decide +kernel) (by decide +kernel)
set_option maxRecDepth 20000 in
theorem gX8_perpendicular_X8_isOdd : GoodIn wsX8_perpendicular (va_wsS RX8 215 yX8_isOdd wsX8_isOdd) := goodIn_app (goodIn_of _ (by decide +kernel)) ggX8_perpendicular_X8_isOdd
theorem dX8_perpendicular_0 : decode cX8_perpendicular 0 = .ok (.iconst 0, 1) := by decide +kernel
theorem dX8_perpendicular_1 : decode cX8_perpendicular 1 = .ok (.istore_n 1, 1) := by decide +kernel
theorem dX8_perpendicular_2 : decode cX8_perpendicular 2 = .ok (.iload_n 1, 1) := by decide +kernel
theorem dX8_perpendicular_3 : decode cX8_perpendicular 3 = .ok (.aload_n 0, 1) := by decide +kernel
theorem dX8_perpendicular_4 : decode cX8_perpendicular 4 = .ok (.getfield 10, 3) := by decide +kernel
theorem dX8_perpendicular_7 : decode cX8_perpendicular 7 = .ok (.getfield 73, 3) := by decide +kernel
theorem dX8_perpendicular_10 : decode cX8_perpendicular 10 = .ok (.getfield 77, 3) := by decide +kernel
theorem dX8_perpendicular_13 : decode cX8_perpendicular 13 = .ok (.if_icmp .ge 36, 3) := by decide +kernel
theorem dX8_perpendicular_16 : decode cX8_perpendicular 16 = .ok (.aload_n 0, 1) := by decide +kernel
theorem dX8_perpendicular_17 : decode cX8_perpendicular 17 = .ok (.getfield 10, 3) := by decide +kernel
theorem dX8_perpendicular_20 : decode cX8_perpendicular 20 = .ok (.getfield 103, 3) := by decide +kernel
theorem dX8_perpendicular_23 : decode cX8_perpendicular 23 = .ok (.aload_n 0, 1) := by decide +kernel
theorem dX8_perpendicular_24 : decode cX8_perpendicular 24 = .ok (.getfield 10, 3) := by decide +kernel
theorem dX8_perpendicular_27 : decode cX8_perpendicular 27 = .ok (.getfield 73, 3) := by decide +kernel
theorem dX8_perpendicular_30 : decode cX8_perpendicular 30 = .ok (.iload_n 1, 1) := by decide +kernel
theorem dX8_perpendicular_31 : decode cX8_perpendicular 31 = .ok (.invokevirtual 212, 3) := by decide +kernel
theorem dX8_perpendicular_34 : decode cX8_perpendicular 34 = .ok (.iand, 1) := by decide +kernel
theorem dX8_perpendicular_35 : decode cX8_perpendicular 35 = .ok (.invokestatic 215, 3) := by decide +kernel
theorem dX8_perpendicular_38 : decode cX8_perpendicular 38 = .ok (.ifCond .eq 5, 3) := by decide +kernel
theorem dX8_perpendicular_41 : decode cX8_perpendicular 41 = .ok (.iconst 0, 1) := by decide +kernel
theorem dX8_perpendicular_42 : decode cX8_perpendicular 42 = .ok (.ireturn, 1) := by decide +kernel
theorem dX8_perpendicular_43 : decode cX8_perpendicular 43 = .ok (.iinc 1 1, 3) := by decide +kernel
theorem dX8_perpendicular_46 : decode cX8_perpendicular 46 = .ok (.goto (-44), 3) := by decide +kernel
theorem dX8_perpendicular_49 : decode cX8_perpendicular 49 = .ok (.iconst 1, 1) := by decide +kernel
theorem dX8_perpendicular_50 : decode cX8_perpendicular 50 = .ok (.ireturn, 1) := by decide +kernel
set_option maxRecDepth 20000 in
theorem ggX8_asked_X1_hasPlace : GoodIn wsX8_asked wsX1_hasPlace := goodIn_r _ [11, 12, 51, 52, 53, 54, 55] (by decide +kernel) (by decide +kernel)
set_option maxRecDepth 20000 in
theorem gX8_asked_X1_hasPlace : GoodIn wsX8_asked (wsV RX8 115 RX1 yX1_hasPlace wsX1_hasPlace) := goodIn_app (goodIn_of _ (by decide +kernel)) ggX8_asked_X1_hasPlace
set_option maxRecDepth 20000 in
theorem ggX8_asked_X8_refuseBad : GoodIn wsX8_asked wsX8_refuseBad := goodIn_r _ [17, 18, 37, 38, 39, 40, 41, 42, 43, 44, 45, 46, 47] (by decide +kernel) (by decide +kernel)
set_option maxRecDepth 20000 in
theorem gX8_asked_X8_refuseBad : GoodIn wsX8_asked (wsV RX8 65 RX8 yX8_refuseBad wsX8_refuseBad) := goodIn_app (goodIn_of _ (by decide +kernel)) ggX8_asked_X8_refuseBad
set_option maxRecDepth 20000 in
theorem ggX8_asked_X8_refuseNo : GoodIn wsX8_asked wsX8_refuseNo := goodIn_r _ [22, 23, 37, 38, 39, 40, 41, 42, 43, 44, 45, 46, 47] (by decide +kernel) (by decide +kernel)
set_option maxRecDepth 20000 in
theorem gX8_asked_X8_refuseNo : GoodIn wsX8_asked (wsV RX8 172 RX8 yX8_refuseNo wsX8_refuseNo) := goodIn_app (goodIn_of _ (by decide +kernel)) ggX8_asked_X8_refuseNo
set_option maxRecDepth 20000 in
theorem ggX8_asked_J6_bitCount_0f7a4 : GoodIn wsX8_asked wsJ6_bitCount_0f7a4 := goodIn_r _ [27, 28, 29, 30] (by decide +kernel) (by decide +kernel)
set_option maxRecDepth 20000 in
theorem gX8_asked_J6_bitCount_0f7a4 : GoodIn wsX8_asked (va_wsS RX8 127 yJ6_bitCount_0f7a4 wsJ6_bitCount_0f7a4) := goodIn_app (goodIn_of _ (by decide +kernel)) ggX8_asked_J6_bitCount_0f7a4
set_option maxRecDepth 20000 in
theorem ggX8_asked_X8_partsOf : GoodIn wsX8_asked wsX8_partsOf := goodIn_r _ [33] (by decide +kernel) (by decide +kernel)
set_option maxRecDepth 20000 in
theorem gX8_asked_X8_partsOf : GoodIn wsX8_asked (va_wsS RX8 218 yX8_partsOf wsX8_partsOf) := goodIn_app (goodIn_of _ (by decide +kernel)) ggX8_asked_X8_partsOf
set_option maxRecDepth 20000 in
theorem ggX8_asked_X8_isOdd : GoodIn wsX8_asked wsX8_isOdd := goodIn_r _ [36, 24, 25, 26, 27, 28, 29, 30] (by decide +kernel) (by decide +kernel)
set_option maxRecDepth 20000 in
theorem gX8_asked_X8_isOdd : GoodIn wsX8_asked (va_wsS RX8 215 yX8_isOdd wsX8_isOdd) := goodIn_app (goodIn_of _ (by decide +kernel)) ggX8_asked_X8_isOdd
theorem dX8_asked_0 : decode cX8_asked 0 = .ok (.aload_n 0, 1) := by decide +kernel
theorem dX8_asked_1 : decode cX8_asked 1 = .ok (.getfield 10, 3) := by decide +kernel
theorem dX8_asked_4 : decode cX8_asked 4 = .ok (.getfield 73, 3) := by decide +kernel
theorem dX8_asked_7 : decode cX8_asked 7 = .ok (.iload_n 1, 1) := by decide +kernel
theorem dX8_asked_8 : decode cX8_asked 8 = .ok (.invokevirtual 115, 3) := by decide +kernel
theorem dX8_asked_11 : decode cX8_asked 11 = .ok (.ifCond .ne 10, 3) := by decide +kernel
theorem dX8_asked_14 : decode cX8_asked 14 = .ok (.aload_n 0, 1) := by decide +kernel
theorem dX8_asked_15 : decode cX8_asked 15 = .ok (.bipush (-2), 2) := by decide +kernel
theorem dX8_asked_17 : decode cX8_asked 17 = .ok (.invokevirtual 65, 3) := by decide +kernel
theorem dX8_asked_20 : decode cX8_asked 20 = .ok (.ireturn, 1) := by decide +kernel
theorem dX8_asked_21 : decode cX8_asked 21 = .ok (.aload_n 0, 1) := by decide +kernel
theorem dX8_asked_22 : decode cX8_asked 22 = .ok (.getfield 10, 3) := by decide +kernel
theorem dX8_asked_25 : decode cX8_asked 25 = .ok (.getfield 73, 3) := by decide +kernel
theorem dX8_asked_28 : decode cX8_asked 28 = .ok (.getfield 83, 3) := by decide +kernel
theorem dX8_asked_31 : decode cX8_asked 31 = .ok (.aload_n 0, 1) := by decide +kernel
theorem dX8_asked_32 : decode cX8_asked 32 = .ok (.getfield 10, 3) := by decide +kernel
theorem dX8_asked_35 : decode cX8_asked 35 = .ok (.getfield 73, 3) := by decide +kernel
theorem dX8_asked_38 : decode cX8_asked 38 = .ok (.getfield 86, 3) := by decide +kernel
theorem dX8_asked_41 : decode cX8_asked 41 = .ok (.if_icmp .ne 10, 3) := by decide +kernel
theorem dX8_asked_44 : decode cX8_asked 44 = .ok (.aload_n 0, 1) := by decide +kernel
theorem dX8_asked_45 : decode cX8_asked 45 = .ok (.bipush (-3), 2) := by decide +kernel
theorem dX8_asked_47 : decode cX8_asked 47 = .ok (.invokevirtual 172, 3) := by decide +kernel
theorem dX8_asked_50 : decode cX8_asked 50 = .ok (.ireturn, 1) := by decide +kernel
theorem dX8_asked_51 : decode cX8_asked 51 = .ok (.iconst 0, 1) := by decide +kernel
theorem dX8_asked_52 : decode cX8_asked 52 = .ok (.istore_n 2, 1) := by decide +kernel
theorem dX8_asked_53 : decode cX8_asked 53 = .ok (.iconst 0, 1) := by decide +kernel
theorem dX8_asked_54 : decode cX8_asked 54 = .ok (.istore_n 3, 1) := by decide +kernel
theorem dX8_asked_55 : decode cX8_asked 55 = .ok (.iload_n 3, 1) := by decide +kernel
theorem dX8_asked_56 : decode cX8_asked 56 = .ok (.aload_n 0, 1) := by decide +kernel
theorem dX8_asked_57 : decode cX8_asked 57 = .ok (.getfield 10, 3) := by decide +kernel
theorem dX8_asked_60 : decode cX8_asked 60 = .ok (.getfield 73, 3) := by decide +kernel
theorem dX8_asked_63 : decode cX8_asked 63 = .ok (.getfield 93, 3) := by decide +kernel
theorem dX8_asked_66 : decode cX8_asked 66 = .ok (.if_icmp .ge 70, 3) := by decide +kernel
theorem dX8_asked_69 : decode cX8_asked 69 = .ok (.iload_n 3, 1) := by decide +kernel
theorem dX8_asked_70 : decode cX8_asked 70 = .ok (.invokestatic 127, 3) := by decide +kernel
theorem dX8_asked_73 : decode cX8_asked 73 = .ok (.aload_n 0, 1) := by decide +kernel
theorem dX8_asked_74 : decode cX8_asked 74 = .ok (.getfield 10, 3) := by decide +kernel
theorem dX8_asked_77 : decode cX8_asked 77 = .ok (.getfield 73, 3) := by decide +kernel
theorem dX8_asked_80 : decode cX8_asked 80 = .ok (.getfield 83, 3) := by decide +kernel
theorem dX8_asked_83 : decode cX8_asked 83 = .ok (.iconst 1, 1) := by decide +kernel
theorem dX8_asked_84 : decode cX8_asked 84 = .ok (.iadd, 1) := by decide +kernel
theorem dX8_asked_85 : decode cX8_asked 85 = .ok (.if_icmp .ne 45, 3) := by decide +kernel
theorem dX8_asked_88 : decode cX8_asked 88 = .ok (.iload_n 3, 1) := by decide +kernel
theorem dX8_asked_89 : decode cX8_asked 89 = .ok (.invokestatic 218, 3) := by decide +kernel
theorem dX8_asked_92 : decode cX8_asked 92 = .ok (.iload_n 1, 1) := by decide +kernel
theorem dX8_asked_93 : decode cX8_asked 93 = .ok (.iload_n 3, 1) := by decide +kernel
theorem dX8_asked_94 : decode cX8_asked 94 = .ok (.iconst (-1), 1) := by decide +kernel
theorem dX8_asked_95 : decode cX8_asked 95 = .ok (.ixor, 1) := by decide +kernel
theorem dX8_asked_96 : decode cX8_asked 96 = .ok (.iand, 1) := by decide +kernel
theorem dX8_asked_97 : decode cX8_asked 97 = .ok (.ishl, 1) := by decide +kernel
theorem dX8_asked_98 : decode cX8_asked 98 = .ok (.iconst 1, 1) := by decide +kernel
theorem dX8_asked_99 : decode cX8_asked 99 = .ok (.iload_n 1, 1) := by decide +kernel
theorem dX8_asked_100 : decode cX8_asked 100 = .ok (.ishl, 1) := by decide +kernel
theorem dX8_asked_101 : decode cX8_asked 101 = .ok (.iconst (-1), 1) := by decide +kernel
theorem dX8_asked_102 : decode cX8_asked 102 = .ok (.ixor, 1) := by decide +kernel
theorem dX8_asked_103 : decode cX8_asked 103 = .ok (.iand, 1) := by decide +kernel
theorem dX8_asked_104 : decode cX8_asked 104 = .ok (.istore 4, 2) := by decide +kernel
theorem dX8_asked_106 : decode cX8_asked 106 = .ok (.iload_n 2, 1) := by decide +kernel
theorem dX8_asked_107 : decode cX8_asked 107 = .ok (.aload_n 0, 1) := by decide +kernel
theorem dX8_asked_108 : decode cX8_asked 108 = .ok (.getfield 10, 3) := by decide +kernel
theorem dX8_asked_111 : decode cX8_asked 111 = .ok (.getfield 103, 3) := by decide +kernel
theorem dX8_asked_114 : decode cX8_asked 114 = .ok (.iload 4, 2) := by decide +kernel
theorem dX8_asked_116 : decode cX8_asked 116 = .ok (.iand, 1) := by decide +kernel
theorem dX8_asked_117 : decode cX8_asked 117 = .ok (.invokestatic 215, 3) := by decide +kernel
theorem dX8_asked_120 : decode cX8_asked 120 = .ok (.ifCond .eq 7, 3) := by decide +kernel
theorem dX8_asked_123 : decode cX8_asked 123 = .ok (.iconst 1, 1) := by decide +kernel
theorem dX8_asked_124 : decode cX8_asked 124 = .ok (.goto 4, 3) := by decide +kernel
theorem dX8_asked_127 : decode cX8_asked 127 = .ok (.iconst (-1), 1) := by decide +kernel
theorem dX8_asked_128 : decode cX8_asked 128 = .ok (.iadd, 1) := by decide +kernel
theorem dX8_asked_129 : decode cX8_asked 129 = .ok (.istore_n 2, 1) := by decide +kernel
theorem dX8_asked_130 : decode cX8_asked 130 = .ok (.iinc 3 1, 3) := by decide +kernel
theorem dX8_asked_133 : decode cX8_asked 133 = .ok (.goto (-78), 3) := by decide +kernel
theorem dX8_asked_136 : decode cX8_asked 136 = .ok (.iload_n 2, 1) := by decide +kernel
theorem dX8_asked_137 : decode cX8_asked 137 = .ok (.ifCond .le 7, 3) := by decide +kernel
theorem dX8_asked_140 : decode cX8_asked 140 = .ok (.iconst 1, 1) := by decide +kernel
theorem dX8_asked_141 : decode cX8_asked 141 = .ok (.goto 4, 3) := by decide +kernel
theorem dX8_asked_144 : decode cX8_asked 144 = .ok (.iconst 0, 1) := by decide +kernel
theorem dX8_asked_145 : decode cX8_asked 145 = .ok (.ireturn, 1) := by decide +kernel
set_option maxRecDepth 20000 in
theorem ggX8_type_X8_refuseBad : GoodIn wsX8_type wsX8_refuseBad := goodIn_r _ [8, 9, 17, 18, 19, 20, 21, 22, 23, 24, 25, 26, 27] (by decide +kernel) (by decide +kernel)
set_option maxRecDepth 20000 in
theorem gX8_type_X8_refuseBad : GoodIn wsX8_type (wsV RX8 65 RX8 yX8_refuseBad wsX8_refuseBad) := goodIn_app (goodIn_of _ (by decide +kernel)) ggX8_type_X8_refuseBad
set_option maxRecDepth 20000 in
theorem ggX8_type_X6_append : GoodIn wsX8_type wsX6_append := goodIn_r _ [14, 15, 16, 28, 29, 30, 31] (by decide +kernel) (by decide +kernel)
set_option maxRecDepth 20000 in
theorem gX8_type_X6_append : GoodIn wsX8_type (wsV RX8 227 RX6 yX6_append wsX6_append) := goodIn_app (goodIn_of _ (by decide +kernel)) ggX8_type_X6_append
theorem dX8_type_0 : decode cX8_type 0 = .ok (.iload_n 1, 1) := by decide +kernel
theorem dX8_type_1 : decode cX8_type 1 = .ok (.ifCond .lt 9, 3) := by decide +kernel
theorem dX8_type_4 : decode cX8_type 4 = .ok (.iload_n 1, 1) := by decide +kernel
theorem dX8_type_5 : decode cX8_type 5 = .ok (.bipush 127, 2) := by decide +kernel
theorem dX8_type_7 : decode cX8_type 7 = .ok (.if_icmp .le 10, 3) := by decide +kernel
theorem dX8_type_10 : decode cX8_type 10 = .ok (.aload_n 0, 1) := by decide +kernel
theorem dX8_type_11 : decode cX8_type 11 = .ok (.bipush (-2), 2) := by decide +kernel
theorem dX8_type_13 : decode cX8_type 13 = .ok (.invokevirtual 65, 3) := by decide +kernel
theorem dX8_type_16 : decode cX8_type 16 = .ok (.ireturn, 1) := by decide +kernel
theorem dX8_type_17 : decode cX8_type 17 = .ok (.aload_n 0, 1) := by decide +kernel
theorem dX8_type_18 : decode cX8_type 18 = .ok (.getfield 29, 3) := by decide +kernel
theorem dX8_type_21 : decode cX8_type 21 = .ok (.getfield 221, 3) := by decide +kernel
theorem dX8_type_24 : decode cX8_type 24 = .ok (.bipush 120, 2) := by decide +kernel
theorem dX8_type_26 : decode cX8_type 26 = .ok (.if_icmp .lt 16, 3) := by decide +kernel
theorem dX8_type_29 : decode cX8_type 29 = .ok (.aload_n 0, 1) := by decide +kernel
theorem dX8_type_30 : decode cX8_type 30 = .ok (.dup, 1) := by decide +kernel
theorem dX8_type_31 : decode cX8_type 31 = .ok (.getfield 224, 3) := by decide +kernel
theorem dX8_type_34 : decode cX8_type 34 = .ok (.iconst 1, 1) := by decide +kernel
theorem dX8_type_35 : decode cX8_type 35 = .ok (.iadd, 1) := by decide +kernel
theorem dX8_type_36 : decode cX8_type 36 = .ok (.putfield 224, 3) := by decide +kernel
theorem dX8_type_39 : decode cX8_type 39 = .ok (.bipush (-4), 2) := by decide +kernel
theorem dX8_type_41 : decode cX8_type 41 = .ok (.ireturn, 1) := by decide +kernel
theorem dX8_type_42 : decode cX8_type 42 = .ok (.aload_n 0, 1) := by decide +kernel
theorem dX8_type_43 : decode cX8_type 43 = .ok (.getfield 29, 3) := by decide +kernel
theorem dX8_type_46 : decode cX8_type 46 = .ok (.iload_n 1, 1) := by decide +kernel
theorem dX8_type_47 : decode cX8_type 47 = .ok (.invokevirtual 227, 3) := by decide +kernel
theorem dX8_type_50 : decode cX8_type 50 = .ok (.aload_n 0, 1) := by decide +kernel
theorem dX8_type_51 : decode cX8_type 51 = .ok (.getfield 29, 3) := by decide +kernel
theorem dX8_type_54 : decode cX8_type 54 = .ok (.getfield 221, 3) := by decide +kernel
theorem dX8_type_57 : decode cX8_type 57 = .ok (.ireturn, 1) := by decide +kernel
theorem dX8_clear_0 : decode cX8_clear 0 = .ok (.aload_n 0, 1) := by decide +kernel
theorem dX8_clear_1 : decode cX8_clear 1 = .ok (.getfield 29, 3) := by decide +kernel
theorem dX8_clear_4 : decode cX8_clear 4 = .ok (.getfield 221, 3) := by decide +kernel
theorem dX8_clear_7 : decode cX8_clear 7 = .ok (.istore_n 1, 1) := by decide +kernel
theorem dX8_clear_8 : decode cX8_clear 8 = .ok (.aload_n 0, 1) := by decide +kernel
theorem dX8_clear_9 : decode cX8_clear 9 = .ok (.getfield 29, 3) := by decide +kernel
theorem dX8_clear_12 : decode cX8_clear 12 = .ok (.iconst 0, 1) := by decide +kernel
theorem dX8_clear_13 : decode cX8_clear 13 = .ok (.putfield 221, 3) := by decide +kernel
theorem dX8_clear_16 : decode cX8_clear 16 = .ok (.iload_n 1, 1) := by decide +kernel
theorem dX8_clear_17 : decode cX8_clear 17 = .ok (.ireturn, 1) := by decide +kernel
set_option maxRecDepth 20000 in
theorem ggX8_does_X5_copy : GoodIn wsX8_does wsX5_copy := goodIn_r _ [10, 11, 12, 13, 14, 15, 16, 17, 18, 19, 20, 21, 22, 23, 24, 25, 26, 27, 28, 29, 30, 31, 32, 33, 34, 35, 36, 306, 307, 308, 309, 310, 311, 312, 313] (by decide +kernel) (by decide +kernel)
set_option maxRecDepth 20000 in
theorem gX8_does_X5_copy : GoodIn wsX8_does (wsV RX8 231 RX5 yX5_copy wsX5_copy) := goodIn_app (goodIn_of _ (by decide +kernel)) ggX8_does_X5_copy
set_option maxRecDepth 20000 in
theorem ggX8_does_X8_carryOutAll : GoodIn wsX8_does wsX8_carryOutAll := goodIn_r _ [41, 3, 4, 42, 43, 44, 45, 46, 47, 48, 49, 50, 51, 40, 52, 2, 53, 54, 55, 56, 57, 58, 59, 60, 61, 62, 63, 64, 65, 66, 67, 68, 69, 70, 71, 72, 73, 74, 75, 76, 77, 78, 79, 80, 81, 82, 83, 84, 85, 86, 87, 88, 89, 90, 91, 92, 93, 94, 95, 96, 97, 98, 99, 100, 101, 102, 103, 104, 105, 106, 107, 108, 109, 110, 111, 112, 113, 114, 115, 116, 117, 118, 119, 120, 121, 122, 123, 124, 125, 126, 127, 128, 129, 130, 131, 132, 133, 134, 135, 136, 137, 138, 139, 140, 141, 142, 143, 144, 145, 146, 147, 148, 149, 150, 151, 152, 153, 154, 155, 156, 157, 158, 159, 160, 161, 162, 163, 164, 165, 166, 167, 168, 169, 170, 171, 172, 173, 174, 175, 9, 176, 11, 14, 15, 20, 21, 22, 23, 24, 25, 26, 27, 28, 29, 30, 31, 32, 33, 34, 35, 36, 177, 178, 179, 180, 181, 182, 183, 184, 185, 186, 187, 188, 189, 190, 191, 192, 193, 194, 195, 196, 197, 198, 199, 200, 201, 202, 203, 204, 205, 206, 207, 208, 209, 210, 211, 212, 213, 214, 215, 216, 217, 218, 219, 220, 221, 222, 223, 224, 225, 226, 227, 228, 229, 230, 231, 232, 233, 234, 235, 236, 237, 238, 239, 240, 241, 242, 243, 244, 245, 246, 247, 248, 249, 250, 251, 252, 253, 254, 255, 256, 17, 18, 19, 257, 258, 259, 260, 261, 262, 263, 264, 265, 266, 267, 268, 269, 270, 271, 272, 273, 274, 275, 276, 277, 278, 279, 280, 291, 292, 293, 294, 295, 296, 297, 298, 299, 300, 301, 302, 303, 304, 305, 306, 307, 308, 309, 310, 311, 312, 313, 314, 315, 316, 317, 318, 319] (by decide +kernel) (by decide +kernel)
set_option maxRecDepth 20000 in
theorem gX8_does_X8_carryOutAll : GoodIn wsX8_does (wsV RX8 234 RX8 yX8_carryOutAll wsX8_carryOutAll) := goodIn_app (goodIn_of _ (by decide +kernel)) ggX8_does_X8_carryOutAll
set_option maxRecDepth 20000 in
theorem ggX8_does_X4_keep : GoodIn wsX8_does wsX4_keep := goodIn_r _ [285, 286, 287, 288, 289, 105, 102, 106, 290, 7, 8, 9, 10, 11, 12, 13, 14, 15, 16, 17, 18, 19, 20, 21, 22, 23, 24, 25, 26, 27, 28, 29, 30, 31, 32, 33, 34, 35, 36, 320, 321, 322, 306, 307, 308, 309, 310, 311, 312, 313] (by decide +kernel) (by decide +kernel)
set_option maxRecDepth 20000 in
theorem gX8_does_X4_keep : GoodIn wsX8_does (wsV RX8 69 RX4 yX4_keep wsX4_keep) := goodIn_app (goodIn_of _ (by decide +kernel)) ggX8_does_X4_keep
theorem dX8_does_0 : decode cX8_does 0 = .ok (.aload_n 0, 1) := by decide +kernel
theorem dX8_does_1 : decode cX8_does 1 = .ok (.getfield 16, 3) := by decide +kernel
theorem dX8_does_4 : decode cX8_does 4 = .ok (.aload_n 0, 1) := by decide +kernel
theorem dX8_does_5 : decode cX8_does 5 = .ok (.getfield 10, 3) := by decide +kernel
theorem dX8_does_8 : decode cX8_does 8 = .ok (.invokevirtual 231, 3) := by decide +kernel
theorem dX8_does_11 : decode cX8_does 11 = .ok (.aload_n 0, 1) := by decide +kernel
theorem dX8_does_12 : decode cX8_does 12 = .ok (.invokevirtual 234, 3) := by decide +kernel
theorem dX8_does_15 : decode cX8_does 15 = .ok (.istore_n 1, 1) := by decide +kernel
theorem dX8_does_16 : decode cX8_does 16 = .ok (.aload_n 0, 1) := by decide +kernel
theorem dX8_does_17 : decode cX8_does 17 = .ok (.getfield 29, 3) := by decide +kernel
theorem dX8_does_20 : decode cX8_does 20 = .ok (.getfield 237, 3) := by decide +kernel
theorem dX8_does_23 : decode cX8_does 23 = .ok (.iconst (-1), 1) := by decide +kernel
theorem dX8_does_24 : decode cX8_does 24 = .ok (.if_icmp .eq 25, 3) := by decide +kernel
theorem dX8_does_27 : decode cX8_does 27 = .ok (.aload_n 0, 1) := by decide +kernel
theorem dX8_does_28 : decode cX8_does 28 = .ok (.getfield 10, 3) := by decide +kernel
theorem dX8_does_31 : decode cX8_does 31 = .ok (.aload_n 0, 1) := by decide +kernel
theorem dX8_does_32 : decode cX8_does 32 = .ok (.getfield 16, 3) := by decide +kernel
theorem dX8_does_35 : decode cX8_does 35 = .ok (.invokevirtual 231, 3) := by decide +kernel
theorem dX8_does_38 : decode cX8_does 38 = .ok (.bipush (-10), 2) := by decide +kernel
theorem dX8_does_40 : decode cX8_does 40 = .ok (.aload_n 0, 1) := by decide +kernel
theorem dX8_does_41 : decode cX8_does 41 = .ok (.getfield 29, 3) := by decide +kernel
theorem dX8_does_44 : decode cX8_does 44 = .ok (.getfield 237, 3) := by decide +kernel
theorem dX8_does_47 : decode cX8_does 47 = .ok (.isub, 1) := by decide +kernel
theorem dX8_does_48 : decode cX8_does 48 = .ok (.ireturn, 1) := by decide +kernel
theorem dX8_does_49 : decode cX8_does 49 = .ok (.aload_n 0, 1) := by decide +kernel
theorem dX8_does_50 : decode cX8_does 50 = .ok (.getfield 22, 3) := by decide +kernel
theorem dX8_does_53 : decode cX8_does 53 = .ok (.aload_n 0, 1) := by decide +kernel
theorem dX8_does_54 : decode cX8_does 54 = .ok (.getfield 16, 3) := by decide +kernel
theorem dX8_does_57 : decode cX8_does 57 = .ok (.invokevirtual 69, 3) := by decide +kernel
theorem dX8_does_60 : decode cX8_does 60 = .ok (.iload_n 1, 1) := by decide +kernel
theorem dX8_does_61 : decode cX8_does 61 = .ok (.ireturn, 1) := by decide +kernel
set_option maxRecDepth 20000 in
theorem ggX8_back_X8_refuseNo : GoodIn wsX8_back wsX8_refuseNo := goodIn_r _ [8, 9, 49, 50, 51, 52, 53, 54, 55, 56, 57, 58, 59] (by decide +kernel) (by decide +kernel)
set_option maxRecDepth 20000 in
theorem gX8_back_X8_refuseNo : GoodIn wsX8_back (wsV RX8 172 RX8 yX8_refuseNo wsX8_refuseNo) := goodIn_app (goodIn_of _ (by decide +kernel)) ggX8_back_X8_refuseNo
set_option maxRecDepth 20000 in
theorem ggX8_back_X4_giveBack : GoodIn wsX8_back wsX4_giveBack := goodIn_r _ [14, 15, 16, 17, 18, 19, 20, 21, 22, 23, 24, 25, 26, 27, 28, 29, 30, 31, 32, 33, 34, 35, 36, 37, 38, 39, 40, 41, 42, 43, 44, 45, 46, 47, 48, 60, 61, 62, 63, 64, 65, 66, 67, 68, 69, 70] (by decide +kernel) (by decide +kernel)
set_option maxRecDepth 20000 in
theorem gX8_back_X4_giveBack : GoodIn wsX8_back (wsV RX8 241 RX4 yX4_giveBack wsX4_giveBack) := goodIn_app (goodIn_of _ (by decide +kernel)) ggX8_back_X4_giveBack
theorem dX8_back_0 : decode cX8_back 0 = .ok (.aload_n 0, 1) := by decide +kernel
theorem dX8_back_1 : decode cX8_back 1 = .ok (.getfield 22, 3) := by decide +kernel
theorem dX8_back_4 : decode cX8_back 4 = .ok (.getfield 240, 3) := by decide +kernel
theorem dX8_back_7 : decode cX8_back 7 = .ok (.ifCond .ne 10, 3) := by decide +kernel
theorem dX8_back_10 : decode cX8_back 10 = .ok (.aload_n 0, 1) := by decide +kernel
theorem dX8_back_11 : decode cX8_back 11 = .ok (.bipush (-3), 2) := by decide +kernel
theorem dX8_back_13 : decode cX8_back 13 = .ok (.invokevirtual 172, 3) := by decide +kernel
theorem dX8_back_16 : decode cX8_back 16 = .ok (.ireturn, 1) := by decide +kernel
theorem dX8_back_17 : decode cX8_back 17 = .ok (.aload_n 0, 1) := by decide +kernel
theorem dX8_back_18 : decode cX8_back 18 = .ok (.getfield 22, 3) := by decide +kernel
theorem dX8_back_21 : decode cX8_back 21 = .ok (.aload_n 0, 1) := by decide +kernel
theorem dX8_back_22 : decode cX8_back 22 = .ok (.getfield 10, 3) := by decide +kernel
theorem dX8_back_25 : decode cX8_back 25 = .ok (.invokevirtual 241, 3) := by decide +kernel
theorem dX8_back_28 : decode cX8_back 28 = .ok (.aload_n 0, 1) := by decide +kernel
theorem dX8_back_29 : decode cX8_back 29 = .ok (.getfield 22, 3) := by decide +kernel
theorem dX8_back_32 : decode cX8_back 32 = .ok (.getfield 240, 3) := by decide +kernel
theorem dX8_back_35 : decode cX8_back 35 = .ok (.ireturn, 1) := by decide +kernel
set_option maxRecDepth 20000 in
theorem ggX8_told_X8_refuseBad : GoodIn wsX8_told wsX8_refuseBad := goodIn_r _ [12, 1, 13, 14, 15, 16, 17, 18, 19, 20, 21, 22, 23] (by decide +kernel) (by decide +kernel)
set_option maxRecDepth 20000 in
theorem gX8_told_X8_refuseBad : GoodIn wsX8_told (wsV RX8 65 RX8 yX8_refuseBad wsX8_refuseBad) := goodIn_app (goodIn_of _ (by decide +kernel)) ggX8_told_X8_refuseBad
theorem dX8_told_0 : decode cX8_told 0 = .ok (.iload_n 1, 1) := by decide +kernel
theorem dX8_told_1 : decode cX8_told 1 = .ok (.tableswitch 66 0 4 #[35, 40, 45, 50, 58], 35) := by decide +kernel
theorem dX8_told_36 : decode cX8_told 36 = .ok (.aload_n 0, 1) := by decide +kernel
theorem dX8_told_37 : decode cX8_told 37 = .ok (.getfield 244, 3) := by decide +kernel
theorem dX8_told_40 : decode cX8_told 40 = .ok (.ireturn, 1) := by decide +kernel
theorem dX8_told_41 : decode cX8_told 41 = .ok (.aload_n 0, 1) := by decide +kernel
theorem dX8_told_42 : decode cX8_told 42 = .ok (.getfield 247, 3) := by decide +kernel
theorem dX8_told_45 : decode cX8_told 45 = .ok (.ireturn, 1) := by decide +kernel
theorem dX8_told_46 : decode cX8_told 46 = .ok (.aload_n 0, 1) := by decide +kernel
theorem dX8_told_47 : decode cX8_told 47 = .ok (.getfield 224, 3) := by decide +kernel
theorem dX8_told_50 : decode cX8_told 50 = .ok (.ireturn, 1) := by decide +kernel
theorem dX8_told_51 : decode cX8_told 51 = .ok (.aload_n 0, 1) := by decide +kernel
theorem dX8_told_52 : decode cX8_told 52 = .ok (.getfield 29, 3) := by decide +kernel
theorem dX8_told_55 : decode cX8_told 55 = .ok (.getfield 221, 3) := by decide +kernel
theorem dX8_told_58 : decode cX8_told 58 = .ok (.ireturn, 1) := by decide +kernel
theorem dX8_told_59 : decode cX8_told 59 = .ok (.aload_n 0, 1) := by decide +kernel
theorem dX8_told_60 : decode cX8_told 60 = .ok (.getfield 22, 3) := by decide +kernel
theorem dX8_told_63 : decode cX8_told 63 = .ok (.getfield 240, 3) := by decide +kernel
theorem dX8_told_66 : decode cX8_told 66 = .ok (.ireturn, 1) := by decide +kernel
theorem dX8_told_67 : decode cX8_told 67 = .ok (.aload_n 0, 1) := by decide +kernel
theorem dX8_told_68 : decode cX8_told 68 = .ok (.bipush (-2), 2) := by decide +kernel
theorem dX8_told_70 : decode cX8_told 70 = .ok (.invokevirtual 65, 3) := by decide +kernel
theorem dX8_told_73 : decode cX8_told 73 = .ok (.ireturn, 1) := by decide +kernel
set_option maxRecDepth 20000 in
theorem ggX8_digest_X8_told : GoodIn wsX8_digest wsX8_told := goodIn_r _ [14, 15, 16, 17, 18, 19, 20, 21, 22, 23, 24, 13, 25, 120, 121, 122, 123, 124, 125, 126, 127, 128, 129, 130, 139, 140, 141, 142, 143, 144, 145] (by decide +kernel) (by decide +kernel)
set_option maxRecDepth 20000 in
theorem gX8_digest_X8_told : GoodIn wsX8_digest (wsV RX8 254 RX8 yX8_told wsX8_told) := goodIn_app (goodIn_of _ (by decide +kernel)) ggX8_digest_X8_told
set_option maxRecDepth 20000 in
theorem ggX8_digest_X8_votes : GoodIn wsX8_digest wsX8_votes := goodIn_r _ [29, 30, 3, 4, 7, 31, 32, 33, 34, 35, 36, 37, 38, 39, 40, 41, 42, 43, 44, 45, 46, 47, 48, 49, 50, 51, 52, 53, 54, 55, 56, 57, 58, 59, 60, 61, 62, 63, 64, 65, 13, 66, 67, 68, 69, 70, 71, 72, 73, 74, 75, 120, 121, 122, 123, 124, 125, 126, 127, 128, 129, 130, 131, 132, 133, 146, 147, 148, 149, 150, 134, 135, 136, 137, 138] (by decide +kernel) (by decide +kernel)
set_option maxRecDepth 20000 in
theorem gX8_digest_X8_votes : GoodIn wsX8_digest (wsV RX8 257 RX8 yX8_votes wsX8_votes) := goodIn_app (goodIn_of _ (by decide +kernel)) ggX8_digest_X8_votes
set_option maxRecDepth 20000 in
theorem ggX8_digest_X8_halves : GoodIn wsX8_digest wsX8_halves := goodIn_r _ [79, 80, 3, 4, 9, 81, 82, 83, 84, 85, 86, 87, 88, 89, 90, 91, 92, 93, 94, 95, 96, 97, 98, 99, 100, 101, 102, 13, 103, 104, 105, 106, 107, 108, 109, 110, 111, 112, 62, 63, 64, 113, 114, 115, 116, 117, 118, 119, 120, 121, 122, 123, 124, 125, 126, 127, 128, 129, 130, 131, 132, 133, 151, 134, 135, 136, 137, 138] (by decide +kernel) (by decide +kernel)
set_option maxRecDepth 20000 in
theorem gX8_digest_X8_halves : GoodIn wsX8_digest (wsV RX8 202 RX8 yX8_halves wsX8_halves) := goodIn_app (goodIn_of _ (by decide +kernel)) ggX8_digest_X8_halves
theorem dX8_digest_0 : decode cX8_digest 0 = .ok (.ldc2_w 250, 3) := by decide +kernel
theorem dX8_digest_3 : decode cX8_digest 3 = .ok (.lstore_n 1, 1) := by decide +kernel
theorem dX8_digest_4 : decode cX8_digest 4 = .ok (.iconst 0, 1) := by decide +kernel
theorem dX8_digest_5 : decode cX8_digest 5 = .ok (.istore_n 3, 1) := by decide +kernel
theorem dX8_digest_6 : decode cX8_digest 6 = .ok (.iload_n 3, 1) := by decide +kernel
theorem dX8_digest_7 : decode cX8_digest 7 = .ok (.iconst 5, 1) := by decide +kernel
theorem dX8_digest_8 : decode cX8_digest 8 = .ok (.if_icmp .ge 22, 3) := by decide +kernel
theorem dX8_digest_11 : decode cX8_digest 11 = .ok (.ldc2_w 252, 3) := by decide +kernel
theorem dX8_digest_14 : decode cX8_digest 14 = .ok (.lload_n 1, 1) := by decide +kernel
theorem dX8_digest_15 : decode cX8_digest 15 = .ok (.lmul, 1) := by decide +kernel
theorem dX8_digest_16 : decode cX8_digest 16 = .ok (.aload_n 0, 1) := by decide +kernel
theorem dX8_digest_17 : decode cX8_digest 17 = .ok (.iload_n 3, 1) := by decide +kernel
theorem dX8_digest_18 : decode cX8_digest 18 = .ok (.invokevirtual 254, 3) := by decide +kernel
theorem dX8_digest_21 : decode cX8_digest 21 = .ok (.i2l, 1) := by decide +kernel
theorem dX8_digest_22 : decode cX8_digest 22 = .ok (.ladd, 1) := by decide +kernel
theorem dX8_digest_23 : decode cX8_digest 23 = .ok (.lstore_n 1, 1) := by decide +kernel
theorem dX8_digest_24 : decode cX8_digest 24 = .ok (.iinc 3 1, 3) := by decide +kernel
theorem dX8_digest_27 : decode cX8_digest 27 = .ok (.goto (-21), 3) := by decide +kernel
theorem dX8_digest_30 : decode cX8_digest 30 = .ok (.ldc2_w 252, 3) := by decide +kernel
theorem dX8_digest_33 : decode cX8_digest 33 = .ok (.lload_n 1, 1) := by decide +kernel
theorem dX8_digest_34 : decode cX8_digest 34 = .ok (.lmul, 1) := by decide +kernel
theorem dX8_digest_35 : decode cX8_digest 35 = .ok (.aload_n 0, 1) := by decide +kernel
theorem dX8_digest_36 : decode cX8_digest 36 = .ok (.getfield 10, 3) := by decide +kernel
theorem dX8_digest_39 : decode cX8_digest 39 = .ok (.getfield 73, 3) := by decide +kernel
theorem dX8_digest_42 : decode cX8_digest 42 = .ok (.getfield 83, 3) := by decide +kernel
theorem dX8_digest_45 : decode cX8_digest 45 = .ok (.i2l, 1) := by decide +kernel
theorem dX8_digest_46 : decode cX8_digest 46 = .ok (.ladd, 1) := by decide +kernel
theorem dX8_digest_47 : decode cX8_digest 47 = .ok (.lstore_n 1, 1) := by decide +kernel
theorem dX8_digest_48 : decode cX8_digest 48 = .ok (.ldc2_w 252, 3) := by decide +kernel
theorem dX8_digest_51 : decode cX8_digest 51 = .ok (.lload_n 1, 1) := by decide +kernel
theorem dX8_digest_52 : decode cX8_digest 52 = .ok (.lmul, 1) := by decide +kernel
theorem dX8_digest_53 : decode cX8_digest 53 = .ok (.aload_n 0, 1) := by decide +kernel
theorem dX8_digest_54 : decode cX8_digest 54 = .ok (.getfield 10, 3) := by decide +kernel
theorem dX8_digest_57 : decode cX8_digest 57 = .ok (.getfield 73, 3) := by decide +kernel
theorem dX8_digest_60 : decode cX8_digest 60 = .ok (.getfield 86, 3) := by decide +kernel
theorem dX8_digest_63 : decode cX8_digest 63 = .ok (.i2l, 1) := by decide +kernel
theorem dX8_digest_64 : decode cX8_digest 64 = .ok (.ladd, 1) := by decide +kernel
theorem dX8_digest_65 : decode cX8_digest 65 = .ok (.lstore_n 1, 1) := by decide +kernel
theorem dX8_digest_66 : decode cX8_digest 66 = .ok (.ldc2_w 252, 3) := by decide +kernel
theorem dX8_digest_69 : decode cX8_digest 69 = .ok (.lload_n 1, 1) := by decide +kernel
theorem dX8_digest_70 : decode cX8_digest 70 = .ok (.lmul, 1) := by decide +kernel
theorem dX8_digest_71 : decode cX8_digest 71 = .ok (.aload_n 0, 1) := by decide +kernel
theorem dX8_digest_72 : decode cX8_digest 72 = .ok (.getfield 10, 3) := by decide +kernel
theorem dX8_digest_75 : decode cX8_digest 75 = .ok (.getfield 103, 3) := by decide +kernel
theorem dX8_digest_78 : decode cX8_digest 78 = .ok (.i2l, 1) := by decide +kernel
theorem dX8_digest_79 : decode cX8_digest 79 = .ok (.ladd, 1) := by decide +kernel
theorem dX8_digest_80 : decode cX8_digest 80 = .ok (.lstore_n 1, 1) := by decide +kernel
theorem dX8_digest_81 : decode cX8_digest 81 = .ok (.iconst 0, 1) := by decide +kernel
theorem dX8_digest_82 : decode cX8_digest 82 = .ok (.istore_n 3, 1) := by decide +kernel
theorem dX8_digest_83 : decode cX8_digest 83 = .ok (.iload_n 3, 1) := by decide +kernel
theorem dX8_digest_84 : decode cX8_digest 84 = .ok (.aload_n 0, 1) := by decide +kernel
theorem dX8_digest_85 : decode cX8_digest 85 = .ok (.getfield 10, 3) := by decide +kernel
theorem dX8_digest_88 : decode cX8_digest 88 = .ok (.getfield 73, 3) := by decide +kernel
theorem dX8_digest_91 : decode cX8_digest 91 = .ok (.getfield 93, 3) := by decide +kernel
theorem dX8_digest_94 : decode cX8_digest 94 = .ok (.if_icmp .ge 26, 3) := by decide +kernel
theorem dX8_digest_97 : decode cX8_digest 97 = .ok (.ldc2_w 252, 3) := by decide +kernel
theorem dX8_digest_100 : decode cX8_digest 100 = .ok (.lload_n 1, 1) := by decide +kernel
theorem dX8_digest_101 : decode cX8_digest 101 = .ok (.lmul, 1) := by decide +kernel
theorem dX8_digest_102 : decode cX8_digest 102 = .ok (.aload_n 0, 1) := by decide +kernel
theorem dX8_digest_103 : decode cX8_digest 103 = .ok (.getfield 10, 3) := by decide +kernel
theorem dX8_digest_106 : decode cX8_digest 106 = .ok (.getfield 187, 3) := by decide +kernel
theorem dX8_digest_109 : decode cX8_digest 109 = .ok (.iload_n 3, 1) := by decide +kernel
theorem dX8_digest_110 : decode cX8_digest 110 = .ok (.iaload, 1) := by decide +kernel
theorem dX8_digest_111 : decode cX8_digest 111 = .ok (.i2l, 1) := by decide +kernel
theorem dX8_digest_112 : decode cX8_digest 112 = .ok (.ladd, 1) := by decide +kernel
theorem dX8_digest_113 : decode cX8_digest 113 = .ok (.lstore_n 1, 1) := by decide +kernel
theorem dX8_digest_114 : decode cX8_digest 114 = .ok (.iinc 3 1, 3) := by decide +kernel
theorem dX8_digest_117 : decode cX8_digest 117 = .ok (.goto (-34), 3) := by decide +kernel
theorem dX8_digest_120 : decode cX8_digest 120 = .ok (.ldc2_w 252, 3) := by decide +kernel
theorem dX8_digest_123 : decode cX8_digest 123 = .ok (.lload_n 1, 1) := by decide +kernel
theorem dX8_digest_124 : decode cX8_digest 124 = .ok (.lmul, 1) := by decide +kernel
theorem dX8_digest_125 : decode cX8_digest 125 = .ok (.aload_n 0, 1) := by decide +kernel
theorem dX8_digest_126 : decode cX8_digest 126 = .ok (.invokevirtual 257, 3) := by decide +kernel
theorem dX8_digest_129 : decode cX8_digest 129 = .ok (.i2l, 1) := by decide +kernel
theorem dX8_digest_130 : decode cX8_digest 130 = .ok (.ladd, 1) := by decide +kernel
theorem dX8_digest_131 : decode cX8_digest 131 = .ok (.lstore_n 1, 1) := by decide +kernel
theorem dX8_digest_132 : decode cX8_digest 132 = .ok (.ldc2_w 252, 3) := by decide +kernel
theorem dX8_digest_135 : decode cX8_digest 135 = .ok (.lload_n 1, 1) := by decide +kernel
theorem dX8_digest_136 : decode cX8_digest 136 = .ok (.lmul, 1) := by decide +kernel
theorem dX8_digest_137 : decode cX8_digest 137 = .ok (.aload_n 0, 1) := by decide +kernel
theorem dX8_digest_138 : decode cX8_digest 138 = .ok (.invokevirtual 202, 3) := by decide +kernel
theorem dX8_digest_141 : decode cX8_digest 141 = .ok (.i2l, 1) := by decide +kernel
theorem dX8_digest_142 : decode cX8_digest 142 = .ok (.ladd, 1) := by decide +kernel
theorem dX8_digest_143 : decode cX8_digest 143 = .ok (.lreturn, 1) := by decide +kernel
theorem dX8_refuseBad_0 : decode cX8_refuseBad 0 = .ok (.aload_n 0, 1) := by decide +kernel
theorem dX8_refuseBad_1 : decode cX8_refuseBad 1 = .ok (.dup, 1) := by decide +kernel
theorem dX8_refuseBad_2 : decode cX8_refuseBad 2 = .ok (.getfield 244, 3) := by decide +kernel
theorem dX8_refuseBad_5 : decode cX8_refuseBad 5 = .ok (.iconst 1, 1) := by decide +kernel
theorem dX8_refuseBad_6 : decode cX8_refuseBad 6 = .ok (.iadd, 1) := by decide +kernel
theorem dX8_refuseBad_7 : decode cX8_refuseBad 7 = .ok (.putfield 244, 3) := by decide +kernel
theorem dX8_refuseBad_10 : decode cX8_refuseBad 10 = .ok (.iload_n 1, 1) := by decide +kernel
theorem dX8_refuseBad_11 : decode cX8_refuseBad 11 = .ok (.ireturn, 1) := by decide +kernel
theorem dX8_refuseNo_0 : decode cX8_refuseNo 0 = .ok (.aload_n 0, 1) := by decide +kernel
theorem dX8_refuseNo_1 : decode cX8_refuseNo 1 = .ok (.dup, 1) := by decide +kernel
theorem dX8_refuseNo_2 : decode cX8_refuseNo 2 = .ok (.getfield 247, 3) := by decide +kernel
theorem dX8_refuseNo_5 : decode cX8_refuseNo 5 = .ok (.iconst 1, 1) := by decide +kernel
theorem dX8_refuseNo_6 : decode cX8_refuseNo 6 = .ok (.iadd, 1) := by decide +kernel
theorem dX8_refuseNo_7 : decode cX8_refuseNo 7 = .ok (.putfield 247, 3) := by decide +kernel
theorem dX8_refuseNo_10 : decode cX8_refuseNo 10 = .ok (.iload_n 1, 1) := by decide +kernel
theorem dX8_refuseNo_11 : decode cX8_refuseNo 11 = .ok (.ireturn, 1) := by decide +kernel
theorem dX8_drawPlaces_0 : decode cX8_drawPlaces 0 = .ok (.aload_n 0, 1) := by decide +kernel
theorem dX8_drawPlaces_1 : decode cX8_drawPlaces 1 = .ok (.getfield 10, 3) := by decide +kernel
theorem dX8_drawPlaces_4 : decode cX8_drawPlaces 4 = .ok (.getfield 73, 3) := by decide +kernel
theorem dX8_drawPlaces_7 : decode cX8_drawPlaces 7 = .ok (.getfield 93, 3) := by decide +kernel
theorem dX8_drawPlaces_10 : decode cX8_drawPlaces 10 = .ok (.iconst 1, 1) := by decide +kernel
theorem dX8_drawPlaces_11 : decode cX8_drawPlaces 11 = .ok (.isub, 1) := by decide +kernel
theorem dX8_drawPlaces_12 : decode cX8_drawPlaces 12 = .ok (.istore_n 3, 1) := by decide +kernel
theorem dX8_drawPlaces_13 : decode cX8_drawPlaces 13 = .ok (.iconst 0, 1) := by decide +kernel
theorem dX8_drawPlaces_14 : decode cX8_drawPlaces 14 = .ok (.istore 4, 2) := by decide +kernel
theorem dX8_drawPlaces_16 : decode cX8_drawPlaces 16 = .ok (.iload_n 1, 1) := by decide +kernel
theorem dX8_drawPlaces_17 : decode cX8_drawPlaces 17 = .ok (.i2l, 1) := by decide +kernel
theorem dX8_drawPlaces_18 : decode cX8_drawPlaces 18 = .ok (.lstore 5, 2) := by decide +kernel
theorem dX8_drawPlaces_20 : decode cX8_drawPlaces 20 = .ok (.iconst 0, 1) := by decide +kernel
theorem dX8_drawPlaces_21 : decode cX8_drawPlaces 21 = .ok (.istore 7, 2) := by decide +kernel
theorem dX8_drawPlaces_23 : decode cX8_drawPlaces 23 = .ok (.iload 7, 2) := by decide +kernel
theorem dX8_drawPlaces_25 : decode cX8_drawPlaces 25 = .ok (.iload_n 2, 1) := by decide +kernel
theorem dX8_drawPlaces_26 : decode cX8_drawPlaces 26 = .ok (.if_icmp .ge 78, 3) := by decide +kernel
theorem dX8_drawPlaces_29 : decode cX8_drawPlaces 29 = .ok (.lload 5, 2) := by decide +kernel
theorem dX8_drawPlaces_31 : decode cX8_drawPlaces 31 = .ok (.ldc2_w 260, 3) := by decide +kernel
theorem dX8_drawPlaces_34 : decode cX8_drawPlaces 34 = .ok (.lmul, 1) := by decide +kernel
theorem dX8_drawPlaces_35 : decode cX8_drawPlaces 35 = .ok (.ldc2_w 262, 3) := by decide +kernel
theorem dX8_drawPlaces_38 : decode cX8_drawPlaces 38 = .ok (.ladd, 1) := by decide +kernel
theorem dX8_drawPlaces_39 : decode cX8_drawPlaces 39 = .ok (.ldc2_w 264, 3) := by decide +kernel
theorem dX8_drawPlaces_42 : decode cX8_drawPlaces 42 = .ok (.land, 1) := by decide +kernel
theorem dX8_drawPlaces_43 : decode cX8_drawPlaces 43 = .ok (.lstore 5, 2) := by decide +kernel
theorem dX8_drawPlaces_45 : decode cX8_drawPlaces 45 = .ok (.lload 5, 2) := by decide +kernel
theorem dX8_drawPlaces_47 : decode cX8_drawPlaces 47 = .ok (.bipush 16, 2) := by decide +kernel
theorem dX8_drawPlaces_49 : decode cX8_drawPlaces 49 = .ok (.lushr, 1) := by decide +kernel
theorem dX8_drawPlaces_50 : decode cX8_drawPlaces 50 = .ok (.l2i, 1) := by decide +kernel
theorem dX8_drawPlaces_51 : decode cX8_drawPlaces 51 = .ok (.iload_n 3, 1) := by decide +kernel
theorem dX8_drawPlaces_52 : decode cX8_drawPlaces 52 = .ok (.iand, 1) := by decide +kernel
theorem dX8_drawPlaces_53 : decode cX8_drawPlaces 53 = .ok (.istore 8, 2) := by decide +kernel
theorem dX8_drawPlaces_55 : decode cX8_drawPlaces 55 = .ok (.iconst 0, 1) := by decide +kernel
theorem dX8_drawPlaces_56 : decode cX8_drawPlaces 56 = .ok (.istore 9, 2) := by decide +kernel
theorem dX8_drawPlaces_58 : decode cX8_drawPlaces 58 = .ok (.iload 9, 2) := by decide +kernel
theorem dX8_drawPlaces_60 : decode cX8_drawPlaces 60 = .ok (.iload_n 3, 1) := by decide +kernel
theorem dX8_drawPlaces_61 : decode cX8_drawPlaces 61 = .ok (.if_icmp .ge 28, 3) := by decide +kernel
theorem dX8_drawPlaces_64 : decode cX8_drawPlaces 64 = .ok (.iload 4, 2) := by decide +kernel
theorem dX8_drawPlaces_66 : decode cX8_drawPlaces 66 = .ok (.iload 8, 2) := by decide +kernel
theorem dX8_drawPlaces_68 : decode cX8_drawPlaces 68 = .ok (.iushr, 1) := by decide +kernel
theorem dX8_drawPlaces_69 : decode cX8_drawPlaces 69 = .ok (.iconst 1, 1) := by decide +kernel
theorem dX8_drawPlaces_70 : decode cX8_drawPlaces 70 = .ok (.iand, 1) := by decide +kernel
theorem dX8_drawPlaces_71 : decode cX8_drawPlaces 71 = .ok (.iconst 1, 1) := by decide +kernel
theorem dX8_drawPlaces_72 : decode cX8_drawPlaces 72 = .ok (.if_icmp .ne 17, 3) := by decide +kernel
theorem dX8_drawPlaces_75 : decode cX8_drawPlaces 75 = .ok (.iload 8, 2) := by decide +kernel
theorem dX8_drawPlaces_77 : decode cX8_drawPlaces 77 = .ok (.iconst 1, 1) := by decide +kernel
theorem dX8_drawPlaces_78 : decode cX8_drawPlaces 78 = .ok (.iadd, 1) := by decide +kernel
theorem dX8_drawPlaces_79 : decode cX8_drawPlaces 79 = .ok (.iload_n 3, 1) := by decide +kernel
theorem dX8_drawPlaces_80 : decode cX8_drawPlaces 80 = .ok (.iand, 1) := by decide +kernel
theorem dX8_drawPlaces_81 : decode cX8_drawPlaces 81 = .ok (.istore 8, 2) := by decide +kernel
theorem dX8_drawPlaces_83 : decode cX8_drawPlaces 83 = .ok (.iinc 9 1, 3) := by decide +kernel
theorem dX8_drawPlaces_86 : decode cX8_drawPlaces 86 = .ok (.goto (-28), 3) := by decide +kernel
theorem dX8_drawPlaces_89 : decode cX8_drawPlaces 89 = .ok (.iload 4, 2) := by decide +kernel
theorem dX8_drawPlaces_91 : decode cX8_drawPlaces 91 = .ok (.iconst 1, 1) := by decide +kernel
theorem dX8_drawPlaces_92 : decode cX8_drawPlaces 92 = .ok (.iload 8, 2) := by decide +kernel
theorem dX8_drawPlaces_94 : decode cX8_drawPlaces 94 = .ok (.ishl, 1) := by decide +kernel
theorem dX8_drawPlaces_95 : decode cX8_drawPlaces 95 = .ok (.ior, 1) := by decide +kernel
theorem dX8_drawPlaces_96 : decode cX8_drawPlaces 96 = .ok (.istore 4, 2) := by decide +kernel
theorem dX8_drawPlaces_98 : decode cX8_drawPlaces 98 = .ok (.iinc 7 1, 3) := by decide +kernel
theorem dX8_drawPlaces_101 : decode cX8_drawPlaces 101 = .ok (.goto (-78), 3) := by decide +kernel
theorem dX8_drawPlaces_104 : decode cX8_drawPlaces 104 = .ok (.iload 4, 2) := by decide +kernel
theorem dX8_drawPlaces_106 : decode cX8_drawPlaces 106 = .ok (.ireturn, 1) := by decide +kernel
set_option maxRecDepth 20000 in
theorem ggX8_signsFor_X8_isOdd : GoodIn wsX8_signsFor wsX8_isOdd := goodIn_r _ [7, 8, 9, 10, 11, 12, 13, 14] (by decide +kernel) (by decide +kernel)
set_option maxRecDepth 20000 in
theorem gX8_signsFor_X8_isOdd : GoodIn wsX8_signsFor (va_wsS RX8 215 yX8_isOdd wsX8_isOdd) := goodIn_app (goodIn_of _ (by decide +kernel)) ggX8_signsFor_X8_isOdd
set_option maxRecDepth 20000 in
theorem ggX8_signsFor_X5_bit : GoodIn wsX8_signsFor wsX5_bit := goodIn_r _ [19, 20, 32, 33, 34] (by decide +kernel) (by decide +kernel)
set_option maxRecDepth 20000 in
theorem gX8_signsFor_X5_bit : GoodIn wsX8_signsFor (wsV RX8 119 RX5 yX5_bit wsX5_bit) := goodIn_app (goodIn_of _ (by decide +kernel)) ggX8_signsFor_X5_bit
theorem dX8_signsFor_0 : decode cX8_signsFor 0 = .ok (.iconst 0, 1) := by decide +kernel
theorem dX8_signsFor_1 : decode cX8_signsFor 1 = .ok (.istore_n 2, 1) := by decide +kernel
theorem dX8_signsFor_2 : decode cX8_signsFor 2 = .ok (.iconst 0, 1) := by decide +kernel
theorem dX8_signsFor_3 : decode cX8_signsFor 3 = .ok (.istore_n 3, 1) := by decide +kernel
theorem dX8_signsFor_4 : decode cX8_signsFor 4 = .ok (.iload_n 3, 1) := by decide +kernel
theorem dX8_signsFor_5 : decode cX8_signsFor 5 = .ok (.aload_n 0, 1) := by decide +kernel
theorem dX8_signsFor_6 : decode cX8_signsFor 6 = .ok (.getfield 10, 3) := by decide +kernel
theorem dX8_signsFor_9 : decode cX8_signsFor 9 = .ok (.getfield 73, 3) := by decide +kernel
theorem dX8_signsFor_12 : decode cX8_signsFor 12 = .ok (.getfield 93, 3) := by decide +kernel
theorem dX8_signsFor_15 : decode cX8_signsFor 15 = .ok (.if_icmp .ge 46, 3) := by decide +kernel
theorem dX8_signsFor_18 : decode cX8_signsFor 18 = .ok (.iload_n 1, 1) := by decide +kernel
theorem dX8_signsFor_19 : decode cX8_signsFor 19 = .ok (.iload_n 3, 1) := by decide +kernel
theorem dX8_signsFor_20 : decode cX8_signsFor 20 = .ok (.iand, 1) := by decide +kernel
theorem dX8_signsFor_21 : decode cX8_signsFor 21 = .ok (.invokestatic 215, 3) := by decide +kernel
theorem dX8_signsFor_24 : decode cX8_signsFor 24 = .ok (.ifCond .eq 7, 3) := by decide +kernel
theorem dX8_signsFor_27 : decode cX8_signsFor 27 = .ok (.iconst 1, 1) := by decide +kernel
theorem dX8_signsFor_28 : decode cX8_signsFor 28 = .ok (.goto 4, 3) := by decide +kernel
theorem dX8_signsFor_31 : decode cX8_signsFor 31 = .ok (.iconst 0, 1) := by decide +kernel
theorem dX8_signsFor_32 : decode cX8_signsFor 32 = .ok (.istore 4, 2) := by decide +kernel
theorem dX8_signsFor_34 : decode cX8_signsFor 34 = .ok (.iload_n 2, 1) := by decide +kernel
theorem dX8_signsFor_35 : decode cX8_signsFor 35 = .ok (.aload_n 0, 1) := by decide +kernel
theorem dX8_signsFor_36 : decode cX8_signsFor 36 = .ok (.getfield 10, 3) := by decide +kernel
theorem dX8_signsFor_39 : decode cX8_signsFor 39 = .ok (.iload_n 3, 1) := by decide +kernel
theorem dX8_signsFor_40 : decode cX8_signsFor 40 = .ok (.invokevirtual 119, 3) := by decide +kernel
theorem dX8_signsFor_43 : decode cX8_signsFor 43 = .ok (.iload 4, 2) := by decide +kernel
theorem dX8_signsFor_45 : decode cX8_signsFor 45 = .ok (.if_icmp .ne 7, 3) := by decide +kernel
theorem dX8_signsFor_48 : decode cX8_signsFor 48 = .ok (.iconst 1, 1) := by decide +kernel
theorem dX8_signsFor_49 : decode cX8_signsFor 49 = .ok (.goto 4, 3) := by decide +kernel
theorem dX8_signsFor_52 : decode cX8_signsFor 52 = .ok (.iconst (-1), 1) := by decide +kernel
theorem dX8_signsFor_53 : decode cX8_signsFor 53 = .ok (.iadd, 1) := by decide +kernel
theorem dX8_signsFor_54 : decode cX8_signsFor 54 = .ok (.istore_n 2, 1) := by decide +kernel
theorem dX8_signsFor_55 : decode cX8_signsFor 55 = .ok (.iinc 3 1, 3) := by decide +kernel
theorem dX8_signsFor_58 : decode cX8_signsFor 58 = .ok (.goto (-54), 3) := by decide +kernel
theorem dX8_signsFor_61 : decode cX8_signsFor 61 = .ok (.iload_n 2, 1) := by decide +kernel
theorem dX8_signsFor_62 : decode cX8_signsFor 62 = .ok (.ireturn, 1) := by decide +kernel
set_option maxRecDepth 20000 in
theorem ggX8_carryOutAll_X6_rewind : GoodIn wsX8_carryOutAll wsX6_rewind := goodIn_r _ [7, 8, 9, 279, 280, 281, 282] (by decide +kernel) (by decide +kernel)
set_option maxRecDepth 20000 in
theorem gX8_carryOutAll_X6_rewind : GoodIn wsX8_carryOutAll (wsV RX8 266 RX6 yX6_rewind wsX6_rewind) := goodIn_app (goodIn_of _ (by decide +kernel)) ggX8_carryOutAll_X6_rewind
set_option maxRecDepth 20000 in
theorem ggX8_carryOutAll_X8_carryOutNext : GoodIn wsX8_carryOutAll wsX8_carryOutNext := goodIn_r _ [14, 1, 15, 16, 17, 18, 19, 20, 21, 22, 23, 6, 24, 25, 8, 26, 27, 28, 29, 30, 31, 32, 33, 34, 35, 36, 37, 38, 39, 40, 41, 42, 43, 44, 45, 46, 47, 48, 49, 50, 51, 52, 53, 54, 55, 56, 57, 58, 59, 60, 61, 62, 63, 64, 65, 66, 67, 68, 69, 70, 71, 72, 73, 74, 75, 76, 77, 78, 79, 80, 81, 82, 83, 84, 85, 86, 87, 88, 89, 90, 91, 92, 93, 94, 95, 96, 97, 98, 99, 100, 101, 102, 103, 104, 105, 106, 107, 108, 109, 110, 111, 112, 113, 114, 115, 116, 117, 118, 119, 120, 121, 122, 123, 124, 125, 126, 127, 9, 128, 129, 130, 13, 131, 132, 133, 134, 135, 136, 137, 138, 139, 140, 141, 142, 143, 144, 145, 146, 147, 148, 149, 150, 151, 152, 153, 154, 155, 156, 157, 158, 159, 160, 161, 162, 163, 164, 165, 166, 167, 168, 169, 170, 171, 172, 173, 174, 175, 176, 177, 178, 179, 180, 181, 182, 183, 184, 185, 186, 187, 188, 189, 190, 191, 192, 193, 194, 195, 196, 197, 198, 199, 200, 201, 202, 203, 204, 205, 206, 207, 208, 209, 210, 211, 212, 213, 214, 215, 216, 217, 218, 219, 220, 221, 222, 223, 224, 225, 226, 227, 228, 229, 230, 231, 232, 233, 234, 235, 236, 237, 238, 239, 240, 241, 242, 243, 244, 245, 246, 247, 248, 249, 250, 251, 252, 253, 254, 255, 256, 257, 258, 259, 260, 261, 262, 263, 264, 265, 266, 268, 269, 270, 271, 272, 273, 274, 275, 276, 277, 278, 283, 284, 285, 286, 287, 288, 289, 290, 279, 280, 281, 282, 291, 292, 293, 294, 295, 296] (by decide +kernel) (by decide +kernel)
set_option maxRecDepth 20000 in
theorem gX8_carryOutAll_X8_carryOutNext : GoodIn wsX8_carryOutAll (wsV RX8 269 RX8 yX8_carryOutNext wsX8_carryOutNext) := goodIn_app (goodIn_of _ (by decide +kernel)) ggX8_carryOutAll_X8_carryOutNext
set_option maxRecDepth 20000 in
theorem ggX8_carryOutAll_X6_isAtEnd : GoodIn wsX8_carryOutAll wsX6_isAtEnd := goodIn_r _ [29, 8, 30, 31, 32, 33, 6, 34, 25, 279, 280, 281, 282] (by decide +kernel) (by decide +kernel)
set_option maxRecDepth 20000 in
theorem gX8_carryOutAll_X6_isAtEnd : GoodIn wsX8_carryOutAll (wsV RX8 272 RX6 yX6_isAtEnd wsX6_isAtEnd) := goodIn_app (goodIn_of _ (by decide +kernel)) ggX8_carryOutAll_X6_isAtEnd
theorem dX8_carryOutAll_0 : decode cX8_carryOutAll 0 = .ok (.aload_n 0, 1) := by decide +kernel
theorem dX8_carryOutAll_1 : decode cX8_carryOutAll 1 = .ok (.getfield 29, 3) := by decide +kernel
theorem dX8_carryOutAll_4 : decode cX8_carryOutAll 4 = .ok (.invokevirtual 266, 3) := by decide +kernel
theorem dX8_carryOutAll_7 : decode cX8_carryOutAll 7 = .ok (.iconst 1, 1) := by decide +kernel
theorem dX8_carryOutAll_8 : decode cX8_carryOutAll 8 = .ok (.istore_n 1, 1) := by decide +kernel
theorem dX8_carryOutAll_9 : decode cX8_carryOutAll 9 = .ok (.iload_n 1, 1) := by decide +kernel
theorem dX8_carryOutAll_10 : decode cX8_carryOutAll 10 = .ok (.bipush 120, 2) := by decide +kernel
theorem dX8_carryOutAll_12 : decode cX8_carryOutAll 12 = .ok (.if_icmp .gt 36, 3) := by decide +kernel
theorem dX8_carryOutAll_15 : decode cX8_carryOutAll 15 = .ok (.aload_n 0, 1) := by decide +kernel
theorem dX8_carryOutAll_16 : decode cX8_carryOutAll 16 = .ok (.invokevirtual 269, 3) := by decide +kernel
theorem dX8_carryOutAll_19 : decode cX8_carryOutAll 19 = .ok (.aload_n 0, 1) := by decide +kernel
theorem dX8_carryOutAll_20 : decode cX8_carryOutAll 20 = .ok (.getfield 29, 3) := by decide +kernel
theorem dX8_carryOutAll_23 : decode cX8_carryOutAll 23 = .ok (.getfield 237, 3) := by decide +kernel
theorem dX8_carryOutAll_26 : decode cX8_carryOutAll 26 = .ok (.iconst (-1), 1) := by decide +kernel
theorem dX8_carryOutAll_27 : decode cX8_carryOutAll 27 = .ok (.if_icmp .ne 13, 3) := by decide +kernel
theorem dX8_carryOutAll_30 : decode cX8_carryOutAll 30 = .ok (.aload_n 0, 1) := by decide +kernel
theorem dX8_carryOutAll_31 : decode cX8_carryOutAll 31 = .ok (.getfield 29, 3) := by decide +kernel
theorem dX8_carryOutAll_34 : decode cX8_carryOutAll 34 = .ok (.invokevirtual 272, 3) := by decide +kernel
theorem dX8_carryOutAll_37 : decode cX8_carryOutAll 37 = .ok (.ifCond .eq 5, 3) := by decide +kernel
theorem dX8_carryOutAll_40 : decode cX8_carryOutAll 40 = .ok (.iload_n 1, 1) := by decide +kernel
theorem dX8_carryOutAll_41 : decode cX8_carryOutAll 41 = .ok (.ireturn, 1) := by decide +kernel
theorem dX8_carryOutAll_42 : decode cX8_carryOutAll 42 = .ok (.iinc 1 1, 3) := by decide +kernel
theorem dX8_carryOutAll_45 : decode cX8_carryOutAll 45 = .ok (.goto (-36), 3) := by decide +kernel
theorem dX8_carryOutAll_48 : decode cX8_carryOutAll 48 = .ok (.bipush 120, 2) := by decide +kernel
theorem dX8_carryOutAll_50 : decode cX8_carryOutAll 50 = .ok (.ireturn, 1) := by decide +kernel
set_option maxRecDepth 20000 in
theorem ggX8_carryOutNext_X6_readOneOf : GoodIn wsX8_carryOutNext wsX6_readOneOf := goodIn_r _ [12, 13, 14, 15, 16, 17, 11, 18, 19, 20, 21, 22, 23, 24, 25, 26, 27, 28, 29, 30, 31, 32, 33, 34, 35, 36, 37, 38, 39, 40, 41, 42, 43, 44, 45, 46, 47, 48, 49, 50, 51, 52, 53, 54, 55, 56, 57, 58, 59, 60, 61, 62, 63, 64, 65, 66, 67, 68, 69, 70, 71, 72, 73, 74, 75, 76, 77, 78, 79, 80, 81, 82, 83, 84, 85, 86, 87, 88, 89, 90, 91, 92, 93, 94, 95, 96, 97, 98, 99, 100, 101, 102, 103, 104, 105, 106, 107, 108, 109, 110, 111, 112, 113, 114, 115, 116, 117, 277, 278, 279, 280] (by decide +kernel) (by decide +kernel)
set_option maxRecDepth 20000 in
theorem gX8_carryOutNext_X6_readOneOf : GoodIn wsX8_carryOutNext (wsV RX8 277 RX6 yX6_readOneOf wsX6_readOneOf) := goodIn_app (goodIn_of _ (by decide +kernel)) ggX8_carryOutNext_X6_readOneOf
set_option maxRecDepth 20000 in
theorem ggX8_carryOutNext_X8_orderCode : GoodIn wsX8_carryOutNext wsX8_orderCode := goodIn_r _ [122, 1, 2, 123, 124, 125, 11, 126, 14, 19, 13, 20, 21, 22, 23, 113, 114, 115, 116, 117, 127, 128, 129, 130, 131, 132, 133, 134, 135, 136, 137, 138, 139, 140, 141, 142, 143, 144, 145, 146, 147, 148, 149, 150, 151, 152, 153, 154, 155, 258, 259, 260, 261, 262, 263, 264, 265, 266, 267, 268, 277, 278, 279, 280, 269, 270, 271, 272, 273, 274, 275, 276] (by decide +kernel) (by decide +kernel)
set_option maxRecDepth 20000 in
theorem gX8_carryOutNext_X8_orderCode : GoodIn wsX8_carryOutNext (wsV RX8 281 RX8 yX8_orderCode wsX8_orderCode) := goodIn_app (goodIn_of _ (by decide +kernel)) ggX8_carryOutNext_X8_orderCode
set_option maxRecDepth 20000 in
theorem ggX8_carryOutNext_X1_allTerms : GoodIn wsX8_carryOutNext wsX1_allTerms := goodIn_r _ [159, 143, 160, 121, 161, 272, 273, 274, 275, 276] (by decide +kernel) (by decide +kernel)
set_option maxRecDepth 20000 in
theorem gX8_carryOutNext_X1_allTerms : GoodIn wsX8_carryOutNext (wsV RX8 106 RX1 yX1_allTerms wsX1_allTerms) := goodIn_app (goodIn_of _ (by decide +kernel)) ggX8_carryOutNext_X1_allTerms
set_option maxRecDepth 20000 in
theorem ggX8_carryOutNext_X6_readHex : GoodIn wsX8_carryOutNext wsX6_readHex := goodIn_r _ [165, 14, 19, 13, 20, 21, 22, 11, 23, 166, 167, 168, 113, 114, 115, 116, 117, 277, 278, 279, 280] (by decide +kernel) (by decide +kernel)
set_option maxRecDepth 20000 in
theorem gX8_carryOutNext_X6_readHex : GoodIn wsX8_carryOutNext (wsV RX8 284 RX6 yX6_readHex wsX6_readHex) := goodIn_app (goodIn_of _ (by decide +kernel)) ggX8_carryOutNext_X6_readHex
set_option maxRecDepth 20000 in
theorem ggX8_carryOutNext_X1_wordOf : GoodIn wsX8_carryOutNext wsX1_wordOf := goodIn_r _ [172, 143, 144, 173, 174, 175, 138, 176, 141, 272, 273, 274, 275, 276] (by decide +kernel) (by decide +kernel)
set_option maxRecDepth 20000 in
theorem gX8_carryOutNext_X1_wordOf : GoodIn wsX8_carryOutNext (wsV RX8 109 RX1 yX1_wordOf wsX1_wordOf) := goodIn_app (goodIn_of _ (by decide +kernel)) ggX8_carryOutNext_X1_wordOf
set_option maxRecDepth 20000 in
theorem ggX8_carryOutNext_X1_allPlaces : GoodIn wsX8_carryOutNext wsX1_allPlaces := goodIn_r _ [180, 142, 160, 121, 161, 272, 273, 274, 275, 276] (by decide +kernel) (by decide +kernel)
set_option maxRecDepth 20000 in
theorem gX8_carryOutNext_X1_allPlaces : GoodIn wsX8_carryOutNext (wsV RX8 100 RX1 yX1_allPlaces wsX1_allPlaces) := goodIn_app (goodIn_of _ (by decide +kernel)) ggX8_carryOutNext_X1_allPlaces
set_option maxRecDepth 20000 in
theorem ggX8_carryOutNext_X6_readNumber : GoodIn wsX8_carryOutNext wsX6_readNumber := goodIn_r _ [126, 14, 19, 13, 20, 21, 22, 11, 23, 113, 114, 115, 116, 117, 277, 278, 279, 280] (by decide +kernel) (by decide +kernel)
set_option maxRecDepth 20000 in
theorem gX8_carryOutNext_X6_readNumber : GoodIn wsX8_carryOutNext (wsV RX8 287 RX6 yX6_readNumber wsX6_readNumber) := goodIn_app (goodIn_of _ (by decide +kernel)) ggX8_carryOutNext_X6_readNumber
set_option maxRecDepth 20000 in
theorem ggX8_carryOutNext_X8_orderVotes : GoodIn wsX8_carryOutNext wsX8_orderVotes := goodIn_r _ [184, 185, 2, 3, 4, 186, 187, 188, 189, 190, 191, 192, 193, 194, 195, 196, 197, 198, 199, 200, 201, 202, 203, 204, 146, 147, 148, 149, 150, 151, 205, 206, 207, 208, 209, 210, 211, 54, 212, 213, 121, 214, 215, 216, 217, 218, 174, 175, 138, 176, 141, 258, 259, 260, 261, 262, 263, 264, 265, 266, 267, 268, 269, 270, 271, 281, 282, 283, 284, 285, 272, 273, 274, 275, 276] (by decide +kernel) (by decide +kernel)
set_option maxRecDepth 20000 in
theorem gX8_carryOutNext_X8_orderVotes : GoodIn wsX8_carryOutNext (wsV RX8 290 RX8 yX8_orderVotes wsX8_orderVotes) := goodIn_app (goodIn_of _ (by decide +kernel)) ggX8_carryOutNext_X8_orderVotes
set_option maxRecDepth 20000 in
theorem ggX8_carryOutNext_X8_orderSoft : GoodIn wsX8_carryOutNext wsX8_orderSoft := goodIn_r _ [222, 1, 2, 3, 5, 7, 123, 124, 125, 11, 126, 14, 19, 13, 20, 21, 22, 23, 113, 114, 115, 116, 117, 258, 259, 260, 261, 262, 263, 264, 265, 266, 267, 268, 269, 270, 271, 272, 273, 274, 275, 276, 277, 278, 279, 280] (by decide +kernel) (by decide +kernel)
set_option maxRecDepth 20000 in
theorem gX8_carryOutNext_X8_orderSoft : GoodIn wsX8_carryOutNext (wsV RX8 293 RX8 yX8_orderSoft wsX8_orderSoft) := goodIn_app (goodIn_of _ (by decide +kernel)) ggX8_carryOutNext_X8_orderSoft
set_option maxRecDepth 20000 in
theorem ggX8_carryOutNext_X2_solve : GoodIn wsX8_carryOutNext wsX2_solve := goodIn_r _ [227, 228, 229, 230, 231, 232, 233, 234, 235, 236, 237, 238, 226, 239, 240, 241, 242, 243, 160, 121, 161, 244, 245, 246, 247, 248, 249, 250, 251, 252, 211, 54, 212, 253, 57, 58, 254, 255, 256, 257, 286, 272, 273, 274, 275, 276] (by decide +kernel) (by decide +kernel)
set_option maxRecDepth 20000 in
theorem gX8_carryOutNext_X2_solve : GoodIn wsX8_carryOutNext (wsV RX8 190 RX2 yX2_solve wsX2_solve) := goodIn_app (goodIn_of _ (by decide +kernel)) ggX8_carryOutNext_X2_solve
theorem dX8_carryOutNext_0 : decode cX8_carryOutNext 0 = .ok (.aload_n 0, 1) := by decide +kernel
theorem dX8_carryOutNext_1 : decode cX8_carryOutNext 1 = .ok (.getfield 29, 3) := by decide +kernel
theorem dX8_carryOutNext_4 : decode cX8_carryOutNext 4 = .ok (.ldc_w 275, 3) := by decide +kernel
theorem dX8_carryOutNext_7 : decode cX8_carryOutNext 7 = .ok (.invokevirtual 277, 3) := by decide +kernel
theorem dX8_carryOutNext_10 : decode cX8_carryOutNext 10 = .ok (.tableswitch 251 99 119 #[98, 251, 251, 169, 251, 220, 251, 251, 251, 251, 105, 251, 251, 251, 251, 251, 213, 251, 251, 206, 142], 98) := by decide +kernel
theorem dX8_carryOutNext_108 : decode cX8_carryOutNext 108 = .ok (.aload_n 0, 1) := by decide +kernel
theorem dX8_carryOutNext_109 : decode cX8_carryOutNext 109 = .ok (.invokevirtual 281, 3) := by decide +kernel
theorem dX8_carryOutNext_112 : decode cX8_carryOutNext 112 = .ok (.goto 150, 3) := by decide +kernel
theorem dX8_carryOutNext_115 : decode cX8_carryOutNext 115 = .ok (.aload_n 0, 1) := by decide +kernel
theorem dX8_carryOutNext_116 : decode cX8_carryOutNext 116 = .ok (.getfield 10, 3) := by decide +kernel
theorem dX8_carryOutNext_119 : decode cX8_carryOutNext 119 = .ok (.aload_n 0, 1) := by decide +kernel
theorem dX8_carryOutNext_120 : decode cX8_carryOutNext 120 = .ok (.getfield 10, 3) := by decide +kernel
theorem dX8_carryOutNext_123 : decode cX8_carryOutNext 123 = .ok (.getfield 73, 3) := by decide +kernel
theorem dX8_carryOutNext_126 : decode cX8_carryOutNext 126 = .ok (.aload_n 0, 1) := by decide +kernel
theorem dX8_carryOutNext_127 : decode cX8_carryOutNext 127 = .ok (.getfield 29, 3) := by decide +kernel
theorem dX8_carryOutNext_130 : decode cX8_carryOutNext 130 = .ok (.aload_n 0, 1) := by decide +kernel
theorem dX8_carryOutNext_131 : decode cX8_carryOutNext 131 = .ok (.getfield 10, 3) := by decide +kernel
theorem dX8_carryOutNext_134 : decode cX8_carryOutNext 134 = .ok (.getfield 73, 3) := by decide +kernel
theorem dX8_carryOutNext_137 : decode cX8_carryOutNext 137 = .ok (.invokevirtual 106, 3) := by decide +kernel
theorem dX8_carryOutNext_140 : decode cX8_carryOutNext 140 = .ok (.invokevirtual 284, 3) := by decide +kernel
theorem dX8_carryOutNext_143 : decode cX8_carryOutNext 143 = .ok (.invokevirtual 109, 3) := by decide +kernel
theorem dX8_carryOutNext_146 : decode cX8_carryOutNext 146 = .ok (.putfield 103, 3) := by decide +kernel
theorem dX8_carryOutNext_149 : decode cX8_carryOutNext 149 = .ok (.goto 113, 3) := by decide +kernel
theorem dX8_carryOutNext_152 : decode cX8_carryOutNext 152 = .ok (.aload_n 0, 1) := by decide +kernel
theorem dX8_carryOutNext_153 : decode cX8_carryOutNext 153 = .ok (.getfield 10, 3) := by decide +kernel
theorem dX8_carryOutNext_156 : decode cX8_carryOutNext 156 = .ok (.aload_n 0, 1) := by decide +kernel
theorem dX8_carryOutNext_157 : decode cX8_carryOutNext 157 = .ok (.getfield 29, 3) := by decide +kernel
theorem dX8_carryOutNext_160 : decode cX8_carryOutNext 160 = .ok (.aload_n 0, 1) := by decide +kernel
theorem dX8_carryOutNext_161 : decode cX8_carryOutNext 161 = .ok (.getfield 10, 3) := by decide +kernel
theorem dX8_carryOutNext_164 : decode cX8_carryOutNext 164 = .ok (.getfield 73, 3) := by decide +kernel
theorem dX8_carryOutNext_167 : decode cX8_carryOutNext 167 = .ok (.invokevirtual 100, 3) := by decide +kernel
theorem dX8_carryOutNext_170 : decode cX8_carryOutNext 170 = .ok (.invokevirtual 284, 3) := by decide +kernel
theorem dX8_carryOutNext_173 : decode cX8_carryOutNext 173 = .ok (.putfield 103, 3) := by decide +kernel
theorem dX8_carryOutNext_176 : decode cX8_carryOutNext 176 = .ok (.goto 86, 3) := by decide +kernel
theorem dX8_carryOutNext_179 : decode cX8_carryOutNext 179 = .ok (.aload_n 0, 1) := by decide +kernel
theorem dX8_carryOutNext_180 : decode cX8_carryOutNext 180 = .ok (.getfield 10, 3) := by decide +kernel
theorem dX8_carryOutNext_183 : decode cX8_carryOutNext 183 = .ok (.dup, 1) := by decide +kernel
theorem dX8_carryOutNext_184 : decode cX8_carryOutNext 184 = .ok (.getfield 103, 3) := by decide +kernel
theorem dX8_carryOutNext_187 : decode cX8_carryOutNext 187 = .ok (.iconst 1, 1) := by decide +kernel
theorem dX8_carryOutNext_188 : decode cX8_carryOutNext 188 = .ok (.aload_n 0, 1) := by decide +kernel
theorem dX8_carryOutNext_189 : decode cX8_carryOutNext 189 = .ok (.getfield 29, 3) := by decide +kernel
theorem dX8_carryOutNext_192 : decode cX8_carryOutNext 192 = .ok (.iconst 0, 1) := by decide +kernel
theorem dX8_carryOutNext_193 : decode cX8_carryOutNext 193 = .ok (.aload_n 0, 1) := by decide +kernel
theorem dX8_carryOutNext_194 : decode cX8_carryOutNext 194 = .ok (.getfield 10, 3) := by decide +kernel
theorem dX8_carryOutNext_197 : decode cX8_carryOutNext 197 = .ok (.getfield 73, 3) := by decide +kernel
theorem dX8_carryOutNext_200 : decode cX8_carryOutNext 200 = .ok (.getfield 93, 3) := by decide +kernel
theorem dX8_carryOutNext_203 : decode cX8_carryOutNext 203 = .ok (.iconst 1, 1) := by decide +kernel
theorem dX8_carryOutNext_204 : decode cX8_carryOutNext 204 = .ok (.isub, 1) := by decide +kernel
theorem dX8_carryOutNext_205 : decode cX8_carryOutNext 205 = .ok (.invokevirtual 287, 3) := by decide +kernel
theorem dX8_carryOutNext_208 : decode cX8_carryOutNext 208 = .ok (.ishl, 1) := by decide +kernel
theorem dX8_carryOutNext_209 : decode cX8_carryOutNext 209 = .ok (.ixor, 1) := by decide +kernel
theorem dX8_carryOutNext_210 : decode cX8_carryOutNext 210 = .ok (.putfield 103, 3) := by decide +kernel
theorem dX8_carryOutNext_213 : decode cX8_carryOutNext 213 = .ok (.goto 49, 3) := by decide +kernel
theorem dX8_carryOutNext_216 : decode cX8_carryOutNext 216 = .ok (.aload_n 0, 1) := by decide +kernel
theorem dX8_carryOutNext_217 : decode cX8_carryOutNext 217 = .ok (.invokevirtual 290, 3) := by decide +kernel
theorem dX8_carryOutNext_220 : decode cX8_carryOutNext 220 = .ok (.goto 42, 3) := by decide +kernel
theorem dX8_carryOutNext_223 : decode cX8_carryOutNext 223 = .ok (.aload_n 0, 1) := by decide +kernel
theorem dX8_carryOutNext_224 : decode cX8_carryOutNext 224 = .ok (.invokevirtual 293, 3) := by decide +kernel
theorem dX8_carryOutNext_227 : decode cX8_carryOutNext 227 = .ok (.goto 35, 3) := by decide +kernel
theorem dX8_carryOutNext_230 : decode cX8_carryOutNext 230 = .ok (.aload_n 0, 1) := by decide +kernel
theorem dX8_carryOutNext_231 : decode cX8_carryOutNext 231 = .ok (.getfield 10, 3) := by decide +kernel
theorem dX8_carryOutNext_234 : decode cX8_carryOutNext 234 = .ok (.aload_n 0, 1) := by decide +kernel
theorem dX8_carryOutNext_235 : decode cX8_carryOutNext 235 = .ok (.getfield 43, 3) := by decide +kernel
theorem dX8_carryOutNext_238 : decode cX8_carryOutNext 238 = .ok (.aload_n 0, 1) := by decide +kernel
theorem dX8_carryOutNext_239 : decode cX8_carryOutNext 239 = .ok (.getfield 10, 3) := by decide +kernel
theorem dX8_carryOutNext_242 : decode cX8_carryOutNext 242 = .ok (.getfield 73, 3) := by decide +kernel
theorem dX8_carryOutNext_245 : decode cX8_carryOutNext 245 = .ok (.aload_n 0, 1) := by decide +kernel
theorem dX8_carryOutNext_246 : decode cX8_carryOutNext 246 = .ok (.getfield 10, 3) := by decide +kernel
theorem dX8_carryOutNext_249 : decode cX8_carryOutNext 249 = .ok (.getfield 187, 3) := by decide +kernel
theorem dX8_carryOutNext_252 : decode cX8_carryOutNext 252 = .ok (.invokevirtual 190, 3) := by decide +kernel
theorem dX8_carryOutNext_255 : decode cX8_carryOutNext 255 = .ok (.putfield 103, 3) := by decide +kernel
theorem dX8_carryOutNext_258 : decode cX8_carryOutNext 258 = .ok (.goto 4, 3) := by decide +kernel
theorem dX8_carryOutNext_261 : decode cX8_carryOutNext 261 = .ok (.return_, 1) := by decide +kernel
theorem dX8_carryOutNext_262 : decode cX8_carryOutNext 262 = .ok (.aload_n 0, 1) := by decide +kernel
theorem dX8_carryOutNext_263 : decode cX8_carryOutNext 263 = .ok (.getfield 29, 3) := by decide +kernel
theorem dX8_carryOutNext_266 : decode cX8_carryOutNext 266 = .ok (.ldc_w 296, 3) := by decide +kernel
theorem dX8_carryOutNext_269 : decode cX8_carryOutNext 269 = .ok (.invokevirtual 277, 3) := by decide +kernel
theorem dX8_carryOutNext_272 : decode cX8_carryOutNext 272 = .ok (.pop, 1) := by decide +kernel
theorem dX8_carryOutNext_273 : decode cX8_carryOutNext 273 = .ok (.return_, 1) := by decide +kernel
set_option maxRecDepth 20000 in
theorem ggX8_orderCode_X6_readNumber : GoodIn wsX8_orderCode wsX6_readNumber := goodIn_r _ [7, 8, 9, 10, 11, 12, 13, 6, 14, 15, 16, 17, 18, 19, 60, 61, 62, 63] (by decide +kernel) (by decide +kernel)
set_option maxRecDepth 20000 in
theorem gX8_orderCode_X6_readNumber : GoodIn wsX8_orderCode (wsV RX8 287 RX6 yX6_readNumber wsX6_readNumber) := goodIn_app (goodIn_of _ (by decide +kernel)) ggX8_orderCode_X6_readNumber
set_option maxRecDepth 20000 in
theorem ggX8_orderCode_X5_start : GoodIn wsX8_orderCode wsX5_start := goodIn_r _ [24, 25, 26, 27, 28, 29, 30, 31, 32, 33, 34, 35, 36, 37, 38, 39, 40, 41, 42, 43, 44, 45, 46, 47, 48, 64, 65, 66, 67, 68, 69, 70, 71] (by decide +kernel) (by decide +kernel)
set_option maxRecDepth 20000 in
theorem gX8_orderCode_X5_start : GoodIn wsX8_orderCode (wsV RX8 61 RX5 yX5_start wsX5_start) := goodIn_app (goodIn_of _ (by decide +kernel)) ggX8_orderCode_X5_start
theorem dX8_orderCode_0 : decode cX8_orderCode 0 = .ok (.aload_n 0, 1) := by decide +kernel
theorem dX8_orderCode_1 : decode cX8_orderCode 1 = .ok (.getfield 29, 3) := by decide +kernel
theorem dX8_orderCode_4 : decode cX8_orderCode 4 = .ok (.iconst 0, 1) := by decide +kernel
theorem dX8_orderCode_5 : decode cX8_orderCode 5 = .ok (.iconst 5, 1) := by decide +kernel
theorem dX8_orderCode_6 : decode cX8_orderCode 6 = .ok (.invokevirtual 287, 3) := by decide +kernel
theorem dX8_orderCode_9 : decode cX8_orderCode 9 = .ok (.istore_n 1, 1) := by decide +kernel
theorem dX8_orderCode_10 : decode cX8_orderCode 10 = .ok (.aload_n 0, 1) := by decide +kernel
theorem dX8_orderCode_11 : decode cX8_orderCode 11 = .ok (.getfield 29, 3) := by decide +kernel
theorem dX8_orderCode_14 : decode cX8_orderCode 14 = .ok (.iload_n 1, 1) := by decide +kernel
theorem dX8_orderCode_15 : decode cX8_orderCode 15 = .ok (.iconst 5, 1) := by decide +kernel
theorem dX8_orderCode_16 : decode cX8_orderCode 16 = .ok (.invokevirtual 287, 3) := by decide +kernel
theorem dX8_orderCode_19 : decode cX8_orderCode 19 = .ok (.istore_n 2, 1) := by decide +kernel
theorem dX8_orderCode_20 : decode cX8_orderCode 20 = .ok (.aload_n 0, 1) := by decide +kernel
theorem dX8_orderCode_21 : decode cX8_orderCode 21 = .ok (.getfield 10, 3) := by decide +kernel
theorem dX8_orderCode_24 : decode cX8_orderCode 24 = .ok (.iload_n 1, 1) := by decide +kernel
theorem dX8_orderCode_25 : decode cX8_orderCode 25 = .ok (.iload_n 2, 1) := by decide +kernel
theorem dX8_orderCode_26 : decode cX8_orderCode 26 = .ok (.invokevirtual 61, 3) := by decide +kernel
theorem dX8_orderCode_29 : decode cX8_orderCode 29 = .ok (.return_, 1) := by decide +kernel
set_option maxRecDepth 20000 in
theorem ggX8_orderVotes_X0_hold : GoodIn wsX8_orderVotes wsX0_hold := goodIn_r _ [10, 11, 12, 13, 14, 15, 16, 17, 18, 19, 9, 20, 21, 22, 23, 24, 25, 26, 27, 28, 29, 30, 31, 32, 33, 34, 35, 36, 37, 38, 39, 40, 41, 42, 43, 44, 45, 46, 47, 48, 49, 50, 65, 66, 67, 68, 69, 70, 71, 72, 73, 74] (by decide +kernel) (by decide +kernel)
set_option maxRecDepth 20000 in
theorem gX8_orderVotes_X0_hold : GoodIn wsX8_orderVotes (wsV RX8 141 RX0 yX0_hold wsX0_hold) := goodIn_app (goodIn_of _ (by decide +kernel)) ggX8_orderVotes_X0_hold
theorem dX8_orderVotes_0 : decode cX8_orderVotes 0 = .ok (.aload_n 0, 1) := by decide +kernel
theorem dX8_orderVotes_1 : decode cX8_orderVotes 1 = .ok (.getfield 36, 3) := by decide +kernel
theorem dX8_orderVotes_4 : decode cX8_orderVotes 4 = .ok (.aload_n 0, 1) := by decide +kernel
theorem dX8_orderVotes_5 : decode cX8_orderVotes 5 = .ok (.getfield 10, 3) := by decide +kernel
theorem dX8_orderVotes_8 : decode cX8_orderVotes 8 = .ok (.getfield 73, 3) := by decide +kernel
theorem dX8_orderVotes_11 : decode cX8_orderVotes 11 = .ok (.aload_n 0, 1) := by decide +kernel
theorem dX8_orderVotes_12 : decode cX8_orderVotes 12 = .ok (.getfield 10, 3) := by decide +kernel
theorem dX8_orderVotes_15 : decode cX8_orderVotes 15 = .ok (.getfield 103, 3) := by decide +kernel
theorem dX8_orderVotes_18 : decode cX8_orderVotes 18 = .ok (.invokevirtual 141, 3) := by decide +kernel
theorem dX8_orderVotes_21 : decode cX8_orderVotes 21 = .ok (.aload_n 0, 1) := by decide +kernel
theorem dX8_orderVotes_22 : decode cX8_orderVotes 22 = .ok (.getfield 10, 3) := by decide +kernel
theorem dX8_orderVotes_25 : decode cX8_orderVotes 25 = .ok (.aload_n 0, 1) := by decide +kernel
theorem dX8_orderVotes_26 : decode cX8_orderVotes 26 = .ok (.getfield 36, 3) := by decide +kernel
theorem dX8_orderVotes_29 : decode cX8_orderVotes 29 = .ok (.getfield 148, 3) := by decide +kernel
theorem dX8_orderVotes_32 : decode cX8_orderVotes 32 = .ok (.putfield 103, 3) := by decide +kernel
theorem dX8_orderVotes_35 : decode cX8_orderVotes 35 = .ok (.return_, 1) := by decide +kernel
set_option maxRecDepth 20000 in
theorem ggX8_orderSoft_X6_readNumber : GoodIn wsX8_orderSoft wsX6_readNumber := goodIn_r _ [10, 11, 12, 13, 14, 15, 16, 9, 17, 18, 19, 20, 21, 22, 42, 43, 44, 45] (by decide +kernel) (by decide +kernel)
set_option maxRecDepth 20000 in
theorem gX8_orderSoft_X6_readNumber : GoodIn wsX8_orderSoft (wsV RX8 287 RX6 yX6_readNumber wsX6_readNumber) := goodIn_app (goodIn_of _ (by decide +kernel)) ggX8_orderSoft_X6_readNumber
theorem dX8_orderSoft_0 : decode cX8_orderSoft 0 = .ok (.aload_n 0, 1) := by decide +kernel
theorem dX8_orderSoft_1 : decode cX8_orderSoft 1 = .ok (.getfield 29, 3) := by decide +kernel
theorem dX8_orderSoft_4 : decode cX8_orderSoft 4 = .ok (.iconst 0, 1) := by decide +kernel
theorem dX8_orderSoft_5 : decode cX8_orderSoft 5 = .ok (.aload_n 0, 1) := by decide +kernel
theorem dX8_orderSoft_6 : decode cX8_orderSoft 6 = .ok (.getfield 10, 3) := by decide +kernel
theorem dX8_orderSoft_9 : decode cX8_orderSoft 9 = .ok (.getfield 73, 3) := by decide +kernel
theorem dX8_orderSoft_12 : decode cX8_orderSoft 12 = .ok (.getfield 93, 3) := by decide +kernel
theorem dX8_orderSoft_15 : decode cX8_orderSoft 15 = .ok (.iconst 1, 1) := by decide +kernel
theorem dX8_orderSoft_16 : decode cX8_orderSoft 16 = .ok (.isub, 1) := by decide +kernel
theorem dX8_orderSoft_17 : decode cX8_orderSoft 17 = .ok (.invokevirtual 287, 3) := by decide +kernel
theorem dX8_orderSoft_20 : decode cX8_orderSoft 20 = .ok (.istore_n 1, 1) := by decide +kernel
theorem dX8_orderSoft_21 : decode cX8_orderSoft 21 = .ok (.aload_n 0, 1) := by decide +kernel
theorem dX8_orderSoft_22 : decode cX8_orderSoft 22 = .ok (.getfield 10, 3) := by decide +kernel
theorem dX8_orderSoft_25 : decode cX8_orderSoft 25 = .ok (.getfield 187, 3) := by decide +kernel
theorem dX8_orderSoft_28 : decode cX8_orderSoft 28 = .ok (.iload_n 1, 1) := by decide +kernel
theorem dX8_orderSoft_29 : decode cX8_orderSoft 29 = .ok (.aload_n 0, 1) := by decide +kernel
theorem dX8_orderSoft_30 : decode cX8_orderSoft 30 = .ok (.getfield 29, 3) := by decide +kernel
theorem dX8_orderSoft_33 : decode cX8_orderSoft 33 = .ok (.bipush (-99), 2) := by decide +kernel
theorem dX8_orderSoft_35 : decode cX8_orderSoft 35 = .ok (.bipush 99, 2) := by decide +kernel
theorem dX8_orderSoft_37 : decode cX8_orderSoft 37 = .ok (.invokevirtual 287, 3) := by decide +kernel
theorem dX8_orderSoft_40 : decode cX8_orderSoft 40 = .ok (.iastore, 1) := by decide +kernel
theorem dX8_orderSoft_41 : decode cX8_orderSoft 41 = .ok (.return_, 1) := by decide +kernel
set_option maxRecDepth 20000 in
theorem ggX8_isOdd_J6_bitCount_0f7a4 : GoodIn wsX8_isOdd wsJ6_bitCount_0f7a4 := goodIn_r _ [4, 5, 6, 7] (by decide +kernel) (by decide +kernel)
set_option maxRecDepth 20000 in
theorem gX8_isOdd_J6_bitCount_0f7a4 : GoodIn wsX8_isOdd (va_wsS RX8 127 yJ6_bitCount_0f7a4 wsJ6_bitCount_0f7a4) := goodIn_app (goodIn_of _ (by decide +kernel)) ggX8_isOdd_J6_bitCount_0f7a4
theorem dX8_isOdd_0 : decode cX8_isOdd 0 = .ok (.iload_n 0, 1) := by decide +kernel
theorem dX8_isOdd_1 : decode cX8_isOdd 1 = .ok (.invokestatic 127, 3) := by decide +kernel
theorem dX8_isOdd_4 : decode cX8_isOdd 4 = .ok (.iconst 1, 1) := by decide +kernel
theorem dX8_isOdd_5 : decode cX8_isOdd 5 = .ok (.iand, 1) := by decide +kernel
theorem dX8_isOdd_6 : decode cX8_isOdd 6 = .ok (.iconst 1, 1) := by decide +kernel
theorem dX8_isOdd_7 : decode cX8_isOdd 7 = .ok (.if_icmp .ne 7, 3) := by decide +kernel
theorem dX8_isOdd_10 : decode cX8_isOdd 10 = .ok (.iconst 1, 1) := by decide +kernel
theorem dX8_isOdd_11 : decode cX8_isOdd 11 = .ok (.goto 4, 3) := by decide +kernel
theorem dX8_isOdd_14 : decode cX8_isOdd 14 = .ok (.iconst 0, 1) := by decide +kernel
theorem dX8_isOdd_15 : decode cX8_isOdd 15 = .ok (.ireturn, 1) := by decide +kernel
theorem dX8_partsOf_0 : decode cX8_partsOf 0 = .ok (.iconst 1, 1) := by decide +kernel
theorem dX8_partsOf_1 : decode cX8_partsOf 1 = .ok (.istore_n 1, 1) := by decide +kernel
theorem dX8_partsOf_2 : decode cX8_partsOf 2 = .ok (.iconst 0, 1) := by decide +kernel
theorem dX8_partsOf_3 : decode cX8_partsOf 3 = .ok (.istore_n 2, 1) := by decide +kernel
theorem dX8_partsOf_4 : decode cX8_partsOf 4 = .ok (.iload_n 2, 1) := by decide +kernel
theorem dX8_partsOf_5 : decode cX8_partsOf 5 = .ok (.iconst 5, 1) := by decide +kernel
theorem dX8_partsOf_6 : decode cX8_partsOf 6 = .ok (.if_icmp .ge 26, 3) := by decide +kernel
theorem dX8_partsOf_9 : decode cX8_partsOf 9 = .ok (.iload_n 0, 1) := by decide +kernel
theorem dX8_partsOf_10 : decode cX8_partsOf 10 = .ok (.iload_n 2, 1) := by decide +kernel
theorem dX8_partsOf_11 : decode cX8_partsOf 11 = .ok (.iushr, 1) := by decide +kernel
theorem dX8_partsOf_12 : decode cX8_partsOf 12 = .ok (.iconst 1, 1) := by decide +kernel
theorem dX8_partsOf_13 : decode cX8_partsOf 13 = .ok (.iand, 1) := by decide +kernel
theorem dX8_partsOf_14 : decode cX8_partsOf 14 = .ok (.iconst 1, 1) := by decide +kernel
theorem dX8_partsOf_15 : decode cX8_partsOf 15 = .ok (.if_icmp .ne 11, 3) := by decide +kernel
theorem dX8_partsOf_18 : decode cX8_partsOf 18 = .ok (.iload_n 1, 1) := by decide +kernel
theorem dX8_partsOf_19 : decode cX8_partsOf 19 = .ok (.iload_n 1, 1) := by decide +kernel
theorem dX8_partsOf_20 : decode cX8_partsOf 20 = .ok (.iconst 1, 1) := by decide +kernel
theorem dX8_partsOf_21 : decode cX8_partsOf 21 = .ok (.iload_n 2, 1) := by decide +kernel
theorem dX8_partsOf_22 : decode cX8_partsOf 22 = .ok (.ishl, 1) := by decide +kernel
theorem dX8_partsOf_23 : decode cX8_partsOf 23 = .ok (.ishl, 1) := by decide +kernel
theorem dX8_partsOf_24 : decode cX8_partsOf 24 = .ok (.ior, 1) := by decide +kernel
theorem dX8_partsOf_25 : decode cX8_partsOf 25 = .ok (.istore_n 1, 1) := by decide +kernel
theorem dX8_partsOf_26 : decode cX8_partsOf 26 = .ok (.iinc 2 1, 3) := by decide +kernel
theorem dX8_partsOf_29 : decode cX8_partsOf 29 = .ok (.goto (-25), 3) := by decide +kernel
theorem dX8_partsOf_32 : decode cX8_partsOf 32 = .ok (.iload_n 1, 1) := by decide +kernel
theorem dX8_partsOf_33 : decode cX8_partsOf 33 = .ok (.ireturn, 1) := by decide +kernel
theorem dX8_lowest_0 : decode cX8_lowest 0 = .ok (.iconst (-1), 1) := by decide +kernel
theorem dX8_lowest_1 : decode cX8_lowest 1 = .ok (.bipush 32, 2) := by decide +kernel
theorem dX8_lowest_3 : decode cX8_lowest 3 = .ok (.iload_n 0, 1) := by decide +kernel
theorem dX8_lowest_4 : decode cX8_lowest 4 = .ok (.isub, 1) := by decide +kernel
theorem dX8_lowest_5 : decode cX8_lowest 5 = .ok (.iushr, 1) := by decide +kernel
theorem dX8_lowest_6 : decode cX8_lowest 6 = .ok (.ireturn, 1) := by decide +kernel
theorem dJ11_isValidCodePoint_9a6ad_0 : decode cJ11_isValidCodePoint_9a6ad 0 = .ok (.iload_n 0, 1) := by decide +kernel
theorem dJ11_isValidCodePoint_9a6ad_1 : decode cJ11_isValidCodePoint_9a6ad 1 = .ok (.bipush 16, 2) := by decide +kernel
theorem dJ11_isValidCodePoint_9a6ad_3 : decode cJ11_isValidCodePoint_9a6ad 3 = .ok (.iushr, 1) := by decide +kernel
theorem dJ11_isValidCodePoint_9a6ad_4 : decode cJ11_isValidCodePoint_9a6ad 4 = .ok (.istore_n 1, 1) := by decide +kernel
theorem dJ11_isValidCodePoint_9a6ad_5 : decode cJ11_isValidCodePoint_9a6ad 5 = .ok (.iload_n 1, 1) := by decide +kernel
theorem dJ11_isValidCodePoint_9a6ad_6 : decode cJ11_isValidCodePoint_9a6ad 6 = .ok (.bipush 17, 2) := by decide +kernel
theorem dJ11_isValidCodePoint_9a6ad_8 : decode cJ11_isValidCodePoint_9a6ad 8 = .ok (.if_icmp .ge 7, 3) := by decide +kernel
theorem dJ11_isValidCodePoint_9a6ad_11 : decode cJ11_isValidCodePoint_9a6ad 11 = .ok (.iconst 1, 1) := by decide +kernel
theorem dJ11_isValidCodePoint_9a6ad_12 : decode cJ11_isValidCodePoint_9a6ad 12 = .ok (.goto 4, 3) := by decide +kernel
theorem dJ11_isValidCodePoint_9a6ad_15 : decode cJ11_isValidCodePoint_9a6ad 15 = .ok (.iconst 0, 1) := by decide +kernel
theorem dJ11_isValidCodePoint_9a6ad_16 : decode cJ11_isValidCodePoint_9a6ad 16 = .ok (.ireturn, 1) := by decide +kernel
theorem dJ11_highSurrogate_5068e_0 : decode cJ11_highSurrogate_5068e 0 = .ok (.iload_n 0, 1) := by decide +kernel
theorem dJ11_highSurrogate_5068e_1 : decode cJ11_highSurrogate_5068e 1 = .ok (.bipush 10, 2) := by decide +kernel
theorem dJ11_highSurrogate_5068e_3 : decode cJ11_highSurrogate_5068e 3 = .ok (.iushr, 1) := by decide +kernel
theorem dJ11_highSurrogate_5068e_4 : decode cJ11_highSurrogate_5068e 4 = .ok (.ldc 110, 2) := by decide +kernel
theorem dJ11_highSurrogate_5068e_6 : decode cJ11_highSurrogate_5068e 6 = .ok (.iadd, 1) := by decide +kernel
theorem dJ11_highSurrogate_5068e_7 : decode cJ11_highSurrogate_5068e 7 = .ok (.i2c, 1) := by decide +kernel
theorem dJ11_highSurrogate_5068e_8 : decode cJ11_highSurrogate_5068e 8 = .ok (.ireturn, 1) := by decide +kernel
theorem dJ11_lowSurrogate_5068e_0 : decode cJ11_lowSurrogate_5068e 0 = .ok (.iload_n 0, 1) := by decide +kernel
theorem dJ11_lowSurrogate_5068e_1 : decode cJ11_lowSurrogate_5068e 1 = .ok (.sipush 1023, 3) := by decide +kernel
theorem dJ11_lowSurrogate_5068e_4 : decode cJ11_lowSurrogate_5068e 4 = .ok (.iand, 1) := by decide +kernel
theorem dJ11_lowSurrogate_5068e_5 : decode cJ11_lowSurrogate_5068e 5 = .ok (.ldc 76, 2) := by decide +kernel
theorem dJ11_lowSurrogate_5068e_7 : decode cJ11_lowSurrogate_5068e 7 = .ok (.iadd, 1) := by decide +kernel
theorem dJ11_lowSurrogate_5068e_8 : decode cJ11_lowSurrogate_5068e 8 = .ok (.i2c, 1) := by decide +kernel
theorem dJ11_lowSurrogate_5068e_9 : decode cJ11_lowSurrogate_5068e 9 = .ok (.ireturn, 1) := by decide +kernel
theorem dJ6_numberOfTrailingZeros_0f7a4_0 : decode cJ6_numberOfTrailingZeros_0f7a4 0 = .ok (.iload_n 0, 1) := by decide +kernel
theorem dJ6_numberOfTrailingZeros_0f7a4_1 : decode cJ6_numberOfTrailingZeros_0f7a4 1 = .ok (.iconst (-1), 1) := by decide +kernel
theorem dJ6_numberOfTrailingZeros_0f7a4_2 : decode cJ6_numberOfTrailingZeros_0f7a4 2 = .ok (.ixor, 1) := by decide +kernel
theorem dJ6_numberOfTrailingZeros_0f7a4_3 : decode cJ6_numberOfTrailingZeros_0f7a4 3 = .ok (.iload_n 0, 1) := by decide +kernel
theorem dJ6_numberOfTrailingZeros_0f7a4_4 : decode cJ6_numberOfTrailingZeros_0f7a4 4 = .ok (.iconst 1, 1) := by decide +kernel
theorem dJ6_numberOfTrailingZeros_0f7a4_5 : decode cJ6_numberOfTrailingZeros_0f7a4 5 = .ok (.isub, 1) := by decide +kernel
theorem dJ6_numberOfTrailingZeros_0f7a4_6 : decode cJ6_numberOfTrailingZeros_0f7a4 6 = .ok (.iand, 1) := by decide +kernel
theorem dJ6_numberOfTrailingZeros_0f7a4_7 : decode cJ6_numberOfTrailingZeros_0f7a4 7 = .ok (.istore_n 0, 1) := by decide +kernel
theorem dJ6_numberOfTrailingZeros_0f7a4_8 : decode cJ6_numberOfTrailingZeros_0f7a4 8 = .ok (.iload_n 0, 1) := by decide +kernel
theorem dJ6_numberOfTrailingZeros_0f7a4_9 : decode cJ6_numberOfTrailingZeros_0f7a4 9 = .ok (.ifCond .gt 8, 3) := by decide +kernel
theorem dJ6_numberOfTrailingZeros_0f7a4_12 : decode cJ6_numberOfTrailingZeros_0f7a4 12 = .ok (.iload_n 0, 1) := by decide +kernel
theorem dJ6_numberOfTrailingZeros_0f7a4_13 : decode cJ6_numberOfTrailingZeros_0f7a4 13 = .ok (.bipush 32, 2) := by decide +kernel
theorem dJ6_numberOfTrailingZeros_0f7a4_15 : decode cJ6_numberOfTrailingZeros_0f7a4 15 = .ok (.iand, 1) := by decide +kernel
theorem dJ6_numberOfTrailingZeros_0f7a4_16 : decode cJ6_numberOfTrailingZeros_0f7a4 16 = .ok (.ireturn, 1) := by decide +kernel
theorem dJ6_numberOfTrailingZeros_0f7a4_17 : decode cJ6_numberOfTrailingZeros_0f7a4 17 = .ok (.iconst 1, 1) := by decide +kernel
theorem dJ6_numberOfTrailingZeros_0f7a4_18 : decode cJ6_numberOfTrailingZeros_0f7a4 18 = .ok (.istore_n 1, 1) := by decide +kernel
theorem dJ6_numberOfTrailingZeros_0f7a4_19 : decode cJ6_numberOfTrailingZeros_0f7a4 19 = .ok (.iload_n 0, 1) := by decide +kernel
theorem dJ6_numberOfTrailingZeros_0f7a4_20 : decode cJ6_numberOfTrailingZeros_0f7a4 20 = .ok (.ldc_w 264, 3) := by decide +kernel
theorem dJ6_numberOfTrailingZeros_0f7a4_23 : decode cJ6_numberOfTrailingZeros_0f7a4 23 = .ok (.if_icmp .le 11, 3) := by decide +kernel
theorem dJ6_numberOfTrailingZeros_0f7a4_26 : decode cJ6_numberOfTrailingZeros_0f7a4 26 = .ok (.iinc 1 16, 3) := by decide +kernel
theorem dJ6_numberOfTrailingZeros_0f7a4_29 : decode cJ6_numberOfTrailingZeros_0f7a4 29 = .ok (.iload_n 0, 1) := by decide +kernel
theorem dJ6_numberOfTrailingZeros_0f7a4_30 : decode cJ6_numberOfTrailingZeros_0f7a4 30 = .ok (.bipush 16, 2) := by decide +kernel
theorem dJ6_numberOfTrailingZeros_0f7a4_32 : decode cJ6_numberOfTrailingZeros_0f7a4 32 = .ok (.iushr, 1) := by decide +kernel
theorem dJ6_numberOfTrailingZeros_0f7a4_33 : decode cJ6_numberOfTrailingZeros_0f7a4 33 = .ok (.istore_n 0, 1) := by decide +kernel
theorem dJ6_numberOfTrailingZeros_0f7a4_34 : decode cJ6_numberOfTrailingZeros_0f7a4 34 = .ok (.iload_n 0, 1) := by decide +kernel
theorem dJ6_numberOfTrailingZeros_0f7a4_35 : decode cJ6_numberOfTrailingZeros_0f7a4 35 = .ok (.sipush 256, 3) := by decide +kernel
theorem dJ6_numberOfTrailingZeros_0f7a4_38 : decode cJ6_numberOfTrailingZeros_0f7a4 38 = .ok (.if_icmp .le 11, 3) := by decide +kernel
theorem dJ6_numberOfTrailingZeros_0f7a4_41 : decode cJ6_numberOfTrailingZeros_0f7a4 41 = .ok (.iinc 1 8, 3) := by decide +kernel
theorem dJ6_numberOfTrailingZeros_0f7a4_44 : decode cJ6_numberOfTrailingZeros_0f7a4 44 = .ok (.iload_n 0, 1) := by decide +kernel
theorem dJ6_numberOfTrailingZeros_0f7a4_45 : decode cJ6_numberOfTrailingZeros_0f7a4 45 = .ok (.bipush 8, 2) := by decide +kernel
theorem dJ6_numberOfTrailingZeros_0f7a4_47 : decode cJ6_numberOfTrailingZeros_0f7a4 47 = .ok (.iushr, 1) := by decide +kernel
theorem dJ6_numberOfTrailingZeros_0f7a4_48 : decode cJ6_numberOfTrailingZeros_0f7a4 48 = .ok (.istore_n 0, 1) := by decide +kernel
theorem dJ6_numberOfTrailingZeros_0f7a4_49 : decode cJ6_numberOfTrailingZeros_0f7a4 49 = .ok (.iload_n 0, 1) := by decide +kernel
theorem dJ6_numberOfTrailingZeros_0f7a4_50 : decode cJ6_numberOfTrailingZeros_0f7a4 50 = .ok (.bipush 16, 2) := by decide +kernel
theorem dJ6_numberOfTrailingZeros_0f7a4_52 : decode cJ6_numberOfTrailingZeros_0f7a4 52 = .ok (.if_icmp .le 10, 3) := by decide +kernel
theorem dJ6_numberOfTrailingZeros_0f7a4_55 : decode cJ6_numberOfTrailingZeros_0f7a4 55 = .ok (.iinc 1 4, 3) := by decide +kernel
theorem dJ6_numberOfTrailingZeros_0f7a4_58 : decode cJ6_numberOfTrailingZeros_0f7a4 58 = .ok (.iload_n 0, 1) := by decide +kernel
theorem dJ6_numberOfTrailingZeros_0f7a4_59 : decode cJ6_numberOfTrailingZeros_0f7a4 59 = .ok (.iconst 4, 1) := by decide +kernel
theorem dJ6_numberOfTrailingZeros_0f7a4_60 : decode cJ6_numberOfTrailingZeros_0f7a4 60 = .ok (.iushr, 1) := by decide +kernel
theorem dJ6_numberOfTrailingZeros_0f7a4_61 : decode cJ6_numberOfTrailingZeros_0f7a4 61 = .ok (.istore_n 0, 1) := by decide +kernel
theorem dJ6_numberOfTrailingZeros_0f7a4_62 : decode cJ6_numberOfTrailingZeros_0f7a4 62 = .ok (.iload_n 0, 1) := by decide +kernel
theorem dJ6_numberOfTrailingZeros_0f7a4_63 : decode cJ6_numberOfTrailingZeros_0f7a4 63 = .ok (.iconst 4, 1) := by decide +kernel
theorem dJ6_numberOfTrailingZeros_0f7a4_64 : decode cJ6_numberOfTrailingZeros_0f7a4 64 = .ok (.if_icmp .le 10, 3) := by decide +kernel
theorem dJ6_numberOfTrailingZeros_0f7a4_67 : decode cJ6_numberOfTrailingZeros_0f7a4 67 = .ok (.iinc 1 2, 3) := by decide +kernel
theorem dJ6_numberOfTrailingZeros_0f7a4_70 : decode cJ6_numberOfTrailingZeros_0f7a4 70 = .ok (.iload_n 0, 1) := by decide +kernel
theorem dJ6_numberOfTrailingZeros_0f7a4_71 : decode cJ6_numberOfTrailingZeros_0f7a4 71 = .ok (.iconst 2, 1) := by decide +kernel
theorem dJ6_numberOfTrailingZeros_0f7a4_72 : decode cJ6_numberOfTrailingZeros_0f7a4 72 = .ok (.iushr, 1) := by decide +kernel
theorem dJ6_numberOfTrailingZeros_0f7a4_73 : decode cJ6_numberOfTrailingZeros_0f7a4 73 = .ok (.istore_n 0, 1) := by decide +kernel
theorem dJ6_numberOfTrailingZeros_0f7a4_74 : decode cJ6_numberOfTrailingZeros_0f7a4 74 = .ok (.iload_n 1, 1) := by decide +kernel
theorem dJ6_numberOfTrailingZeros_0f7a4_75 : decode cJ6_numberOfTrailingZeros_0f7a4 75 = .ok (.iload_n 0, 1) := by decide +kernel
theorem dJ6_numberOfTrailingZeros_0f7a4_76 : decode cJ6_numberOfTrailingZeros_0f7a4 76 = .ok (.iconst 1, 1) := by decide +kernel
theorem dJ6_numberOfTrailingZeros_0f7a4_77 : decode cJ6_numberOfTrailingZeros_0f7a4 77 = .ok (.iushr, 1) := by decide +kernel
theorem dJ6_numberOfTrailingZeros_0f7a4_78 : decode cJ6_numberOfTrailingZeros_0f7a4 78 = .ok (.iadd, 1) := by decide +kernel
theorem dJ6_numberOfTrailingZeros_0f7a4_79 : decode cJ6_numberOfTrailingZeros_0f7a4 79 = .ok (.ireturn, 1) := by decide +kernel
theorem dJ6_bitCount_0f7a4_0 : decode cJ6_bitCount_0f7a4 0 = .ok (.iload_n 0, 1) := by decide +kernel
theorem dJ6_bitCount_0f7a4_1 : decode cJ6_bitCount_0f7a4 1 = .ok (.iload_n 0, 1) := by decide +kernel
theorem dJ6_bitCount_0f7a4_2 : decode cJ6_bitCount_0f7a4 2 = .ok (.iconst 1, 1) := by decide +kernel
theorem dJ6_bitCount_0f7a4_3 : decode cJ6_bitCount_0f7a4 3 = .ok (.iushr, 1) := by decide +kernel
theorem dJ6_bitCount_0f7a4_4 : decode cJ6_bitCount_0f7a4 4 = .ok (.ldc_w 265, 3) := by decide +kernel
theorem dJ6_bitCount_0f7a4_7 : decode cJ6_bitCount_0f7a4 7 = .ok (.iand, 1) := by decide +kernel
theorem dJ6_bitCount_0f7a4_8 : decode cJ6_bitCount_0f7a4 8 = .ok (.isub, 1) := by decide +kernel
theorem dJ6_bitCount_0f7a4_9 : decode cJ6_bitCount_0f7a4 9 = .ok (.istore_n 0, 1) := by decide +kernel
theorem dJ6_bitCount_0f7a4_10 : decode cJ6_bitCount_0f7a4 10 = .ok (.iload_n 0, 1) := by decide +kernel
theorem dJ6_bitCount_0f7a4_11 : decode cJ6_bitCount_0f7a4 11 = .ok (.ldc_w 266, 3) := by decide +kernel
theorem dJ6_bitCount_0f7a4_14 : decode cJ6_bitCount_0f7a4 14 = .ok (.iand, 1) := by decide +kernel
theorem dJ6_bitCount_0f7a4_15 : decode cJ6_bitCount_0f7a4 15 = .ok (.iload_n 0, 1) := by decide +kernel
theorem dJ6_bitCount_0f7a4_16 : decode cJ6_bitCount_0f7a4 16 = .ok (.iconst 2, 1) := by decide +kernel
theorem dJ6_bitCount_0f7a4_17 : decode cJ6_bitCount_0f7a4 17 = .ok (.iushr, 1) := by decide +kernel
theorem dJ6_bitCount_0f7a4_18 : decode cJ6_bitCount_0f7a4 18 = .ok (.ldc_w 266, 3) := by decide +kernel
theorem dJ6_bitCount_0f7a4_21 : decode cJ6_bitCount_0f7a4 21 = .ok (.iand, 1) := by decide +kernel
theorem dJ6_bitCount_0f7a4_22 : decode cJ6_bitCount_0f7a4 22 = .ok (.iadd, 1) := by decide +kernel
theorem dJ6_bitCount_0f7a4_23 : decode cJ6_bitCount_0f7a4 23 = .ok (.istore_n 0, 1) := by decide +kernel
theorem dJ6_bitCount_0f7a4_24 : decode cJ6_bitCount_0f7a4 24 = .ok (.iload_n 0, 1) := by decide +kernel
theorem dJ6_bitCount_0f7a4_25 : decode cJ6_bitCount_0f7a4 25 = .ok (.iload_n 0, 1) := by decide +kernel
theorem dJ6_bitCount_0f7a4_26 : decode cJ6_bitCount_0f7a4 26 = .ok (.iconst 4, 1) := by decide +kernel
theorem dJ6_bitCount_0f7a4_27 : decode cJ6_bitCount_0f7a4 27 = .ok (.iushr, 1) := by decide +kernel
theorem dJ6_bitCount_0f7a4_28 : decode cJ6_bitCount_0f7a4 28 = .ok (.iadd, 1) := by decide +kernel
theorem dJ6_bitCount_0f7a4_29 : decode cJ6_bitCount_0f7a4 29 = .ok (.ldc_w 267, 3) := by decide +kernel
theorem dJ6_bitCount_0f7a4_32 : decode cJ6_bitCount_0f7a4 32 = .ok (.iand, 1) := by decide +kernel
theorem dJ6_bitCount_0f7a4_33 : decode cJ6_bitCount_0f7a4 33 = .ok (.istore_n 0, 1) := by decide +kernel
theorem dJ6_bitCount_0f7a4_34 : decode cJ6_bitCount_0f7a4 34 = .ok (.iload_n 0, 1) := by decide +kernel
theorem dJ6_bitCount_0f7a4_35 : decode cJ6_bitCount_0f7a4 35 = .ok (.iload_n 0, 1) := by decide +kernel
theorem dJ6_bitCount_0f7a4_36 : decode cJ6_bitCount_0f7a4 36 = .ok (.bipush 8, 2) := by decide +kernel
theorem dJ6_bitCount_0f7a4_38 : decode cJ6_bitCount_0f7a4 38 = .ok (.iushr, 1) := by decide +kernel
theorem dJ6_bitCount_0f7a4_39 : decode cJ6_bitCount_0f7a4 39 = .ok (.iadd, 1) := by decide +kernel
theorem dJ6_bitCount_0f7a4_40 : decode cJ6_bitCount_0f7a4 40 = .ok (.istore_n 0, 1) := by decide +kernel
theorem dJ6_bitCount_0f7a4_41 : decode cJ6_bitCount_0f7a4 41 = .ok (.iload_n 0, 1) := by decide +kernel
theorem dJ6_bitCount_0f7a4_42 : decode cJ6_bitCount_0f7a4 42 = .ok (.iload_n 0, 1) := by decide +kernel
theorem dJ6_bitCount_0f7a4_43 : decode cJ6_bitCount_0f7a4 43 = .ok (.bipush 16, 2) := by decide +kernel
theorem dJ6_bitCount_0f7a4_45 : decode cJ6_bitCount_0f7a4 45 = .ok (.iushr, 1) := by decide +kernel
theorem dJ6_bitCount_0f7a4_46 : decode cJ6_bitCount_0f7a4 46 = .ok (.iadd, 1) := by decide +kernel
theorem dJ6_bitCount_0f7a4_47 : decode cJ6_bitCount_0f7a4 47 = .ok (.istore_n 0, 1) := by decide +kernel
theorem dJ6_bitCount_0f7a4_48 : decode cJ6_bitCount_0f7a4 48 = .ok (.iload_n 0, 1) := by decide +kernel
theorem dJ6_bitCount_0f7a4_49 : decode cJ6_bitCount_0f7a4 49 = .ok (.bipush 63, 2) := by decide +kernel
theorem dJ6_bitCount_0f7a4_51 : decode cJ6_bitCount_0f7a4 51 = .ok (.iand, 1) := by decide +kernel
theorem dJ6_bitCount_0f7a4_52 : decode cJ6_bitCount_0f7a4 52 = .ok (.ireturn, 1) := by decide +kernel
theorem dJ9_abs_0f7a4_0 : decode cJ9_abs_0f7a4 0 = .ok (.iload_n 0, 1) := by decide +kernel
theorem dJ9_abs_0f7a4_1 : decode cJ9_abs_0f7a4 1 = .ok (.ifCond .ge 8, 3) := by decide +kernel
theorem dJ9_abs_0f7a4_4 : decode cJ9_abs_0f7a4 4 = .ok (.iload_n 0, 1) := by decide +kernel
theorem dJ9_abs_0f7a4_5 : decode cJ9_abs_0f7a4 5 = .ok (.ineg, 1) := by decide +kernel
theorem dJ9_abs_0f7a4_6 : decode cJ9_abs_0f7a4 6 = .ok (.goto 4, 3) := by decide +kernel
theorem dJ9_abs_0f7a4_9 : decode cJ9_abs_0f7a4 9 = .ok (.iload_n 0, 1) := by decide +kernel
theorem dJ9_abs_0f7a4_10 : decode cJ9_abs_0f7a4 10 = .ok (.ireturn, 1) := by decide +kernel
theorem dJ9_max_7cf53_0 : decode cJ9_max_7cf53 0 = .ok (.iload_n 0, 1) := by decide +kernel
theorem dJ9_max_7cf53_1 : decode cJ9_max_7cf53 1 = .ok (.iload_n 1, 1) := by decide +kernel
theorem dJ9_max_7cf53_2 : decode cJ9_max_7cf53 2 = .ok (.if_icmp .lt 7, 3) := by decide +kernel
theorem dJ9_max_7cf53_5 : decode cJ9_max_7cf53 5 = .ok (.iload_n 0, 1) := by decide +kernel
theorem dJ9_max_7cf53_6 : decode cJ9_max_7cf53 6 = .ok (.goto 4, 3) := by decide +kernel
theorem dJ9_max_7cf53_9 : decode cJ9_max_7cf53 9 = .ok (.iload_n 1, 1) := by decide +kernel
theorem dJ9_max_7cf53_10 : decode cJ9_max_7cf53 10 = .ok (.ireturn, 1) := by decide +kernel
theorem dJ9_min_7cf53_0 : decode cJ9_min_7cf53 0 = .ok (.iload_n 0, 1) := by decide +kernel
theorem dJ9_min_7cf53_1 : decode cJ9_min_7cf53 1 = .ok (.iload_n 1, 1) := by decide +kernel
theorem dJ9_min_7cf53_2 : decode cJ9_min_7cf53 2 = .ok (.if_icmp .gt 7, 3) := by decide +kernel
theorem dJ9_min_7cf53_5 : decode cJ9_min_7cf53 5 = .ok (.iload_n 0, 1) := by decide +kernel
theorem dJ9_min_7cf53_6 : decode cJ9_min_7cf53 6 = .ok (.goto 4, 3) := by decide +kernel
theorem dJ9_min_7cf53_9 : decode cJ9_min_7cf53 9 = .ok (.iload_n 1, 1) := by decide +kernel
theorem dJ9_min_7cf53_10 : decode cJ9_min_7cf53 10 = .ok (.ireturn, 1) := by decide +kernel
set_option maxRecDepth 20000 in
theorem ggJ0_length_8abf5_J0_coder_7d493 : GoodIn wsJ0_length_8abf5 wsJ0_coder_7d493 := goodIn_r _ [6, 7, 8] (by decide +kernel) (by decide +kernel)
set_option maxRecDepth 20000 in
theorem gJ0_length_8abf5_J0_coder_7d493 : GoodIn wsJ0_length_8abf5 (wsV RJ0 335 RJ0 yJ0_coder_7d493 wsJ0_coder_7d493) := goodIn_app (goodIn_of _ (by decide +kernel)) ggJ0_length_8abf5_J0_coder_7d493
theorem dJ0_length_8abf5_0 : decode cJ0_length_8abf5 0 = .ok (.aload_n 0, 1) := by decide +kernel
theorem dJ0_length_8abf5_1 : decode cJ0_length_8abf5 1 = .ok (.getfield 9, 3) := by decide +kernel
theorem dJ0_length_8abf5_4 : decode cJ0_length_8abf5 4 = .ok (.arraylength, 1) := by decide +kernel
theorem dJ0_length_8abf5_5 : decode cJ0_length_8abf5 5 = .ok (.aload_n 0, 1) := by decide +kernel
theorem dJ0_length_8abf5_6 : decode cJ0_length_8abf5 6 = .ok (.invokevirtual 335, 3) := by decide +kernel
theorem dJ0_length_8abf5_9 : decode cJ0_length_8abf5 9 = .ok (.ishr, 1) := by decide +kernel
theorem dJ0_length_8abf5_10 : decode cJ0_length_8abf5 10 = .ok (.ireturn, 1) := by decide +kernel
set_option maxRecDepth 20000 in
theorem ggJ0_indexOf_0f7a4_J0_indexOf_7cf53 : GoodIn wsJ0_indexOf_0f7a4 wsJ0_indexOf_7cf53 := goodIn_r _ [5, 6, 7, 8, 9, 4, 10, 11, 12, 13, 14, 15, 16, 17, 18, 19, 20, 21, 22, 23, 24, 25, 26, 27, 28, 29, 30, 31, 32, 33, 34, 35, 36, 37, 38, 39, 40, 41, 42, 43, 44, 45, 46, 47, 48, 49, 50, 51, 52, 53, 54, 55, 56, 57, 58, 59, 60, 61, 62, 63, 64, 65, 66, 67, 68, 69, 70, 71, 72, 73, 74, 75, 76, 77, 78, 79, 80, 81, 82, 83, 84, 85] (by decide +kernel) (by decide +kernel)
set_option maxRecDepth 20000 in
theorem gJ0_indexOf_0f7a4_J0_indexOf_7cf53 : GoodIn wsJ0_indexOf_0f7a4 (wsV RJ0 633 RJ0 yJ0_indexOf_7cf53 wsJ0_indexOf_7cf53) := goodIn_app (goodIn_of _ (by decide +kernel)) ggJ0_indexOf_0f7a4_J0_indexOf_7cf53
theorem dJ0_indexOf_0f7a4_0 : decode cJ0_indexOf_0f7a4 0 = .ok (.aload_n 0, 1) := by decide +kernel
theorem dJ0_indexOf_0f7a4_1 : decode cJ0_indexOf_0f7a4 1 = .ok (.iload_n 1, 1) := by decide +kernel
theorem dJ0_indexOf_0f7a4_2 : decode cJ0_indexOf_0f7a4 2 = .ok (.iconst 0, 1) := by decide +kernel
theorem dJ0_indexOf_0f7a4_3 : decode cJ0_indexOf_0f7a4 3 = .ok (.invokevirtual 633, 3) := by decide +kernel
theorem dJ0_indexOf_0f7a4_6 : decode cJ0_indexOf_0f7a4 6 = .ok (.ireturn, 1) := by decide +kernel
set_option maxRecDepth 20000 in
theorem ggJ0_indexOf_7cf53_J0_isLatin1_aae02 : GoodIn wsJ0_indexOf_7cf53 wsJ0_isLatin1_aae02 := goodIn_r _ [6, 7, 8] (by decide +kernel) (by decide +kernel)
set_option maxRecDepth 20000 in
theorem gJ0_indexOf_7cf53_J0_isLatin1_aae02 : GoodIn wsJ0_indexOf_7cf53 (wsV RJ0 492 RJ0 yJ0_isLatin1_aae02 wsJ0_isLatin1_aae02) := goodIn_app (goodIn_of _ (by decide +kernel)) ggJ0_indexOf_7cf53_J0_isLatin1_aae02
set_option maxRecDepth 20000 in
theorem ggJ0_indexOf_7cf53_J0_length_8abf5 : GoodIn wsJ0_indexOf_7cf53 wsJ0_length_8abf5 := goodIn_r _ [12, 1, 13, 14, 15, 5, 16, 7, 8] (by decide +kernel) (by decide +kernel)
set_option maxRecDepth 20000 in
theorem gJ0_indexOf_7cf53_J0_length_8abf5 : GoodIn wsJ0_indexOf_7cf53 (wsV RJ0 505 RJ0 yJ0_length_8abf5 wsJ0_length_8abf5) := goodIn_app (goodIn_of _ (by decide +kernel)) ggJ0_indexOf_7cf53_J0_length_8abf5
set_option maxRecDepth 20000 in
theorem ggJ0_indexOf_7cf53_J1_indexOf_4cfef : GoodIn wsJ0_indexOf_7cf53 wsJ1_indexOf_4cfef := goodIn_r _ [20, 21, 22, 23, 24, 25, 26, 27, 28, 29, 19, 30, 31, 32, 33] (by decide +kernel) (by decide +kernel)
set_option maxRecDepth 20000 in
theorem gJ0_indexOf_7cf53_J1_indexOf_4cfef : GoodIn wsJ0_indexOf_7cf53 (va_wsS RJ0 637 yJ1_indexOf_4cfef wsJ1_indexOf_4cfef) := goodIn_app (goodIn_of _ (by decide +kernel)) ggJ0_indexOf_7cf53_J1_indexOf_4cfef
set_option maxRecDepth 20000 in
theorem ggJ0_indexOf_7cf53_J2_indexOf_4cfef : GoodIn wsJ0_indexOf_7cf53 wsJ2_indexOf_4cfef := goodIn_r _ [37, 38, 22, 23, 24, 39, 26, 27, 40, 41, 42, 36, 43, 44, 45, 46, 47, 48, 49, 50, 51, 5, 52, 53, 54, 55, 56, 57, 58, 59, 60, 61, 62, 63, 64, 65, 66, 67, 68, 69, 70, 71, 72, 73, 74, 75, 76, 77, 78, 79, 80, 81] (by decide +kernel) (by decide +kernel)
set_option maxRecDepth 20000 in
theorem gJ0_indexOf_7cf53_J2_indexOf_4cfef : GoodIn wsJ0_indexOf_7cf53 (va_wsS RJ0 640 yJ2_indexOf_4cfef wsJ2_indexOf_4cfef) := goodIn_app (goodIn_of _ (by decide +kernel)) ggJ0_indexOf_7cf53_J2_indexOf_4cfef
theorem dJ0_indexOf_7cf53_0 : decode cJ0_indexOf_7cf53 0 = .ok (.aload_n 0, 1) := by decide +kernel
theorem dJ0_indexOf_7cf53_1 : decode cJ0_indexOf_7cf53 1 = .ok (.invokevirtual 492, 3) := by decide +kernel
theorem dJ0_indexOf_7cf53_4 : decode cJ0_indexOf_7cf53 4 = .ok (.ifCond .eq 19, 3) := by decide +kernel
theorem dJ0_indexOf_7cf53_7 : decode cJ0_indexOf_7cf53 7 = .ok (.aload_n 0, 1) := by decide +kernel
theorem dJ0_indexOf_7cf53_8 : decode cJ0_indexOf_7cf53 8 = .ok (.getfield 9, 3) := by decide +kernel
theorem dJ0_indexOf_7cf53_11 : decode cJ0_indexOf_7cf53 11 = .ok (.iload_n 1, 1) := by decide +kernel
theorem dJ0_indexOf_7cf53_12 : decode cJ0_indexOf_7cf53 12 = .ok (.iload_n 2, 1) := by decide +kernel
theorem dJ0_indexOf_7cf53_13 : decode cJ0_indexOf_7cf53 13 = .ok (.aload_n 0, 1) := by decide +kernel
theorem dJ0_indexOf_7cf53_14 : decode cJ0_indexOf_7cf53 14 = .ok (.invokevirtual 505, 3) := by decide +kernel
theorem dJ0_indexOf_7cf53_17 : decode cJ0_indexOf_7cf53 17 = .ok (.invokestatic 637, 3) := by decide +kernel
theorem dJ0_indexOf_7cf53_20 : decode cJ0_indexOf_7cf53 20 = .ok (.goto 16, 3) := by decide +kernel
theorem dJ0_indexOf_7cf53_23 : decode cJ0_indexOf_7cf53 23 = .ok (.aload_n 0, 1) := by decide +kernel
theorem dJ0_indexOf_7cf53_24 : decode cJ0_indexOf_7cf53 24 = .ok (.getfield 9, 3) := by decide +kernel
theorem dJ0_indexOf_7cf53_27 : decode cJ0_indexOf_7cf53 27 = .ok (.iload_n 1, 1) := by decide +kernel
theorem dJ0_indexOf_7cf53_28 : decode cJ0_indexOf_7cf53 28 = .ok (.iload_n 2, 1) := by decide +kernel
theorem dJ0_indexOf_7cf53_29 : decode cJ0_indexOf_7cf53 29 = .ok (.aload_n 0, 1) := by decide +kernel
theorem dJ0_indexOf_7cf53_30 : decode cJ0_indexOf_7cf53 30 = .ok (.invokevirtual 505, 3) := by decide +kernel
theorem dJ0_indexOf_7cf53_33 : decode cJ0_indexOf_7cf53 33 = .ok (.invokestatic 640, 3) := by decide +kernel
theorem dJ0_indexOf_7cf53_36 : decode cJ0_indexOf_7cf53 36 = .ok (.ireturn, 1) := by decide +kernel
theorem dJ0_coder_7d493_0 : decode cJ0_coder_7d493 0 = .ok (.getstatic 38, 3) := by decide +kernel
theorem dJ0_coder_7d493_3 : decode cJ0_coder_7d493 3 = .ok (.ifCond .eq 10, 3) := by decide +kernel
theorem dJ0_coder_7d493_6 : decode cJ0_coder_7d493 6 = .ok (.aload_n 0, 1) := by decide +kernel
theorem dJ0_coder_7d493_7 : decode cJ0_coder_7d493 7 = .ok (.getfield 15, 3) := by decide +kernel
theorem dJ0_coder_7d493_10 : decode cJ0_coder_7d493 10 = .ok (.goto 4, 3) := by decide +kernel
theorem dJ0_coder_7d493_13 : decode cJ0_coder_7d493 13 = .ok (.iconst 1, 1) := by decide +kernel
theorem dJ0_coder_7d493_14 : decode cJ0_coder_7d493 14 = .ok (.ireturn, 1) := by decide +kernel
theorem dJ0_isLatin1_aae02_0 : decode cJ0_isLatin1_aae02 0 = .ok (.getstatic 38, 3) := by decide +kernel
theorem dJ0_isLatin1_aae02_3 : decode cJ0_isLatin1_aae02 3 = .ok (.ifCond .eq 14, 3) := by decide +kernel
theorem dJ0_isLatin1_aae02_6 : decode cJ0_isLatin1_aae02 6 = .ok (.aload_n 0, 1) := by decide +kernel
theorem dJ0_isLatin1_aae02_7 : decode cJ0_isLatin1_aae02 7 = .ok (.getfield 15, 3) := by decide +kernel
theorem dJ0_isLatin1_aae02_10 : decode cJ0_isLatin1_aae02 10 = .ok (.ifCond .ne 7, 3) := by decide +kernel
theorem dJ0_isLatin1_aae02_13 : decode cJ0_isLatin1_aae02 13 = .ok (.iconst 1, 1) := by decide +kernel
theorem dJ0_isLatin1_aae02_14 : decode cJ0_isLatin1_aae02 14 = .ok (.goto 4, 3) := by decide +kernel
theorem dJ0_isLatin1_aae02_17 : decode cJ0_isLatin1_aae02 17 = .ok (.iconst 0, 1) := by decide +kernel
theorem dJ0_isLatin1_aae02_18 : decode cJ0_isLatin1_aae02 18 = .ok (.ireturn, 1) := by decide +kernel
set_option maxRecDepth 20000 in
theorem ggJ0_checkBoundsBeginEnd_23922_J3_checkFromToIndex_8c36e : GoodIn wsJ0_checkBoundsBeginEnd_23922 wsJ3_checkFromToIndex_8c36e := goodIn_r _ [5] (by decide +kernel) (by decide +kernel)
set_option maxRecDepth 20000 in
theorem gJ0_checkBoundsBeginEnd_23922_J3_checkFromToIndex_8c36e : GoodIn wsJ0_checkBoundsBeginEnd_23922 (va_wsS RJ0 1062 yJ3_checkFromToIndex_8c36e wsJ3_checkFromToIndex_8c36e) := goodIn_app (goodIn_of _ (by decide +kernel)) ggJ0_checkBoundsBeginEnd_23922_J3_checkFromToIndex_8c36e
theorem dJ0_checkBoundsBeginEnd_23922_0 : decode cJ0_checkBoundsBeginEnd_23922 0 = .ok (.iload_n 0, 1) := by decide +kernel
theorem dJ0_checkBoundsBeginEnd_23922_1 : decode cJ0_checkBoundsBeginEnd_23922 1 = .ok (.iload_n 1, 1) := by decide +kernel
theorem dJ0_checkBoundsBeginEnd_23922_2 : decode cJ0_checkBoundsBeginEnd_23922 2 = .ok (.iload_n 2, 1) := by decide +kernel
theorem dJ0_checkBoundsBeginEnd_23922_3 : decode cJ0_checkBoundsBeginEnd_23922 3 = .ok (.getstatic 1053, 3) := by decide +kernel
theorem dJ0_checkBoundsBeginEnd_23922_6 : decode cJ0_checkBoundsBeginEnd_23922 6 = .ok (.invokestatic 1062, 3) := by decide +kernel
theorem dJ0_checkBoundsBeginEnd_23922_9 : decode cJ0_checkBoundsBeginEnd_23922 9 = .ok (.pop, 1) := by decide +kernel
theorem dJ0_checkBoundsBeginEnd_23922_10 : decode cJ0_checkBoundsBeginEnd_23922 10 = .ok (.return_, 1) := by decide +kernel
theorem dJ1_canEncode_9a6ad_0 : decode cJ1_canEncode_9a6ad 0 = .ok (.iload_n 0, 1) := by decide +kernel
theorem dJ1_canEncode_9a6ad_1 : decode cJ1_canEncode_9a6ad 1 = .ok (.ifCond .lt 14, 3) := by decide +kernel
theorem dJ1_canEncode_9a6ad_4 : decode cJ1_canEncode_9a6ad 4 = .ok (.iload_n 0, 1) := by decide +kernel
theorem dJ1_canEncode_9a6ad_5 : decode cJ1_canEncode_9a6ad 5 = .ok (.sipush 255, 3) := by decide +kernel
theorem dJ1_canEncode_9a6ad_8 : decode cJ1_canEncode_9a6ad 8 = .ok (.if_icmp .gt 7, 3) := by decide +kernel
theorem dJ1_canEncode_9a6ad_11 : decode cJ1_canEncode_9a6ad 11 = .ok (.iconst 1, 1) := by decide +kernel
theorem dJ1_canEncode_9a6ad_12 : decode cJ1_canEncode_9a6ad 12 = .ok (.goto 4, 3) := by decide +kernel
theorem dJ1_canEncode_9a6ad_15 : decode cJ1_canEncode_9a6ad 15 = .ok (.iconst 0, 1) := by decide +kernel
theorem dJ1_canEncode_9a6ad_16 : decode cJ1_canEncode_9a6ad 16 = .ok (.ireturn, 1) := by decide +kernel
set_option maxRecDepth 20000 in
theorem ggJ1_indexOf_4cfef_J1_canEncode_9a6ad : GoodIn wsJ1_indexOf_4cfef wsJ1_canEncode_9a6ad := goodIn_r _ [11] (by decide +kernel) (by decide +kernel)
set_option maxRecDepth 20000 in
theorem gJ1_indexOf_4cfef_J1_canEncode_9a6ad : GoodIn wsJ1_indexOf_4cfef (va_wsS RJ1 88 yJ1_canEncode_9a6ad wsJ1_canEncode_9a6ad) := goodIn_app (goodIn_of _ (by decide +kernel)) ggJ1_indexOf_4cfef_J1_canEncode_9a6ad
set_option maxRecDepth 20000 in
theorem ggJ1_indexOf_4cfef_J1_indexOfChar_4cfef : GoodIn wsJ1_indexOf_4cfef wsJ1_indexOfChar_4cfef := goodIn_r _ [14] (by decide +kernel) (by decide +kernel)
set_option maxRecDepth 20000 in
theorem gJ1_indexOf_4cfef_J1_indexOfChar_4cfef : GoodIn wsJ1_indexOf_4cfef (va_wsS RJ1 95 yJ1_indexOfChar_4cfef wsJ1_indexOfChar_4cfef) := goodIn_app (goodIn_of _ (by decide +kernel)) ggJ1_indexOf_4cfef_J1_indexOfChar_4cfef
theorem dJ1_indexOf_4cfef_0 : decode cJ1_indexOf_4cfef 0 = .ok (.iload_n 1, 1) := by decide +kernel
theorem dJ1_indexOf_4cfef_1 : decode cJ1_indexOf_4cfef 1 = .ok (.invokestatic 88, 3) := by decide +kernel
theorem dJ1_indexOf_4cfef_4 : decode cJ1_indexOf_4cfef 4 = .ok (.ifCond .ne 5, 3) := by decide +kernel
theorem dJ1_indexOf_4cfef_7 : decode cJ1_indexOf_4cfef 7 = .ok (.iconst (-1), 1) := by decide +kernel
theorem dJ1_indexOf_4cfef_8 : decode cJ1_indexOf_4cfef 8 = .ok (.ireturn, 1) := by decide +kernel
theorem dJ1_indexOf_4cfef_9 : decode cJ1_indexOf_4cfef 9 = .ok (.iload_n 2, 1) := by decide +kernel
theorem dJ1_indexOf_4cfef_10 : decode cJ1_indexOf_4cfef 10 = .ok (.iconst 0, 1) := by decide +kernel
theorem dJ1_indexOf_4cfef_11 : decode cJ1_indexOf_4cfef 11 = .ok (.invokestatic 92, 3) := by decide +kernel
theorem dJ1_indexOf_4cfef_14 : decode cJ1_indexOf_4cfef 14 = .ok (.istore_n 2, 1) := by decide +kernel
theorem dJ1_indexOf_4cfef_15 : decode cJ1_indexOf_4cfef 15 = .ok (.iload_n 3, 1) := by decide +kernel
theorem dJ1_indexOf_4cfef_16 : decode cJ1_indexOf_4cfef 16 = .ok (.aload_n 0, 1) := by decide +kernel
theorem dJ1_indexOf_4cfef_17 : decode cJ1_indexOf_4cfef 17 = .ok (.arraylength, 1) := by decide +kernel
theorem dJ1_indexOf_4cfef_18 : decode cJ1_indexOf_4cfef 18 = .ok (.invokestatic 38, 3) := by decide +kernel
theorem dJ1_indexOf_4cfef_21 : decode cJ1_indexOf_4cfef 21 = .ok (.istore_n 3, 1) := by decide +kernel
theorem dJ1_indexOf_4cfef_22 : decode cJ1_indexOf_4cfef 22 = .ok (.iload_n 2, 1) := by decide +kernel
theorem dJ1_indexOf_4cfef_23 : decode cJ1_indexOf_4cfef 23 = .ok (.iload_n 3, 1) := by decide +kernel
theorem dJ1_indexOf_4cfef_24 : decode cJ1_indexOf_4cfef 24 = .ok (.if_icmp .lt 5, 3) := by decide +kernel
theorem dJ1_indexOf_4cfef_27 : decode cJ1_indexOf_4cfef 27 = .ok (.iconst (-1), 1) := by decide +kernel
theorem dJ1_indexOf_4cfef_28 : decode cJ1_indexOf_4cfef 28 = .ok (.ireturn, 1) := by decide +kernel
theorem dJ1_indexOf_4cfef_29 : decode cJ1_indexOf_4cfef 29 = .ok (.aload_n 0, 1) := by decide +kernel
theorem dJ1_indexOf_4cfef_30 : decode cJ1_indexOf_4cfef 30 = .ok (.iload_n 1, 1) := by decide +kernel
theorem dJ1_indexOf_4cfef_31 : decode cJ1_indexOf_4cfef 31 = .ok (.iload_n 2, 1) := by decide +kernel
theorem dJ1_indexOf_4cfef_32 : decode cJ1_indexOf_4cfef 32 = .ok (.iload_n 3, 1) := by decide +kernel
theorem dJ1_indexOf_4cfef_33 : decode cJ1_indexOf_4cfef 33 = .ok (.invokestatic 95, 3) := by decide +kernel
theorem dJ1_indexOf_4cfef_36 : decode cJ1_indexOf_4cfef 36 = .ok (.ireturn, 1) := by decide +kernel
theorem dJ1_indexOfChar_4cfef_0 : decode cJ1_indexOfChar_4cfef 0 = .ok (.iload_n 1, 1) := by decide +kernel
theorem dJ1_indexOfChar_4cfef_1 : decode cJ1_indexOfChar_4cfef 1 = .ok (.i2b, 1) := by decide +kernel
theorem dJ1_indexOfChar_4cfef_2 : decode cJ1_indexOfChar_4cfef 2 = .ok (.istore 4, 2) := by decide +kernel
theorem dJ1_indexOfChar_4cfef_4 : decode cJ1_indexOfChar_4cfef 4 = .ok (.iload_n 2, 1) := by decide +kernel
theorem dJ1_indexOfChar_4cfef_5 : decode cJ1_indexOfChar_4cfef 5 = .ok (.istore 5, 2) := by decide +kernel
theorem dJ1_indexOfChar_4cfef_7 : decode cJ1_indexOfChar_4cfef 7 = .ok (.iload 5, 2) := by decide +kernel
theorem dJ1_indexOfChar_4cfef_9 : decode cJ1_indexOfChar_4cfef 9 = .ok (.iload_n 3, 1) := by decide +kernel
theorem dJ1_indexOfChar_4cfef_10 : decode cJ1_indexOfChar_4cfef 10 = .ok (.if_icmp .ge 21, 3) := by decide +kernel
theorem dJ1_indexOfChar_4cfef_13 : decode cJ1_indexOfChar_4cfef 13 = .ok (.aload_n 0, 1) := by decide +kernel
theorem dJ1_indexOfChar_4cfef_14 : decode cJ1_indexOfChar_4cfef 14 = .ok (.iload 5, 2) := by decide +kernel
theorem dJ1_indexOfChar_4cfef_16 : decode cJ1_indexOfChar_4cfef 16 = .ok (.baload, 1) := by decide +kernel
theorem dJ1_indexOfChar_4cfef_17 : decode cJ1_indexOfChar_4cfef 17 = .ok (.iload 4, 2) := by decide +kernel
theorem dJ1_indexOfChar_4cfef_19 : decode cJ1_indexOfChar_4cfef 19 = .ok (.if_icmp .ne 6, 3) := by decide +kernel
theorem dJ1_indexOfChar_4cfef_22 : decode cJ1_indexOfChar_4cfef 22 = .ok (.iload 5, 2) := by decide +kernel
theorem dJ1_indexOfChar_4cfef_24 : decode cJ1_indexOfChar_4cfef 24 = .ok (.ireturn, 1) := by decide +kernel
theorem dJ1_indexOfChar_4cfef_25 : decode cJ1_indexOfChar_4cfef 25 = .ok (.iinc 5 1, 3) := by decide +kernel
theorem dJ1_indexOfChar_4cfef_28 : decode cJ1_indexOfChar_4cfef 28 = .ok (.goto (-21), 3) := by decide +kernel
theorem dJ1_indexOfChar_4cfef_31 : decode cJ1_indexOfChar_4cfef 31 = .ok (.iconst (-1), 1) := by decide +kernel
theorem dJ1_indexOfChar_4cfef_32 : decode cJ1_indexOfChar_4cfef 32 = .ok (.ireturn, 1) := by decide +kernel
set_option maxRecDepth 20000 in
theorem ggJ2_getChar_3b067_J2_length_9d52b : GoodIn wsJ2_getChar_3b067 wsJ2_length_9d52b := goodIn_r _ [7] (by decide +kernel) (by decide +kernel)
set_option maxRecDepth 20000 in
theorem gJ2_getChar_3b067_J2_length_9d52b : GoodIn wsJ2_getChar_3b067 (va_wsS RJ2 48 yJ2_length_9d52b wsJ2_length_9d52b) := goodIn_app (goodIn_of _ (by decide +kernel)) ggJ2_getChar_3b067_J2_length_9d52b
theorem dJ2_getChar_3b067_0 : decode cJ2_getChar_3b067 0 = .ok (.getstatic 44, 3) := by decide +kernel
theorem dJ2_getChar_3b067_3 : decode cJ2_getChar_3b067 3 = .ok (.ifCond .ne 25, 3) := by decide +kernel
theorem dJ2_getChar_3b067_6 : decode cJ2_getChar_3b067 6 = .ok (.iload_n 1, 1) := by decide +kernel
theorem dJ2_getChar_3b067_7 : decode cJ2_getChar_3b067 7 = .ok (.ifCond .lt 11, 3) := by decide +kernel
theorem dJ2_getChar_3b067_10 : decode cJ2_getChar_3b067 10 = .ok (.iload_n 1, 1) := by decide +kernel
theorem dJ2_getChar_3b067_11 : decode cJ2_getChar_3b067 11 = .ok (.aload_n 0, 1) := by decide +kernel
theorem dJ2_getChar_3b067_12 : decode cJ2_getChar_3b067 12 = .ok (.invokestatic 48, 3) := by decide +kernel
theorem dJ2_getChar_3b067_15 : decode cJ2_getChar_3b067 15 = .ok (.if_icmp .lt 13, 3) := by decide +kernel
theorem dJ2_getChar_3b067_18 : decode cJ2_getChar_3b067 18 = .ok (.new 52, 3) := by decide +kernel
theorem dJ2_getChar_3b067_21 : decode cJ2_getChar_3b067 21 = .ok (.dup, 1) := by decide +kernel
theorem dJ2_getChar_3b067_22 : decode cJ2_getChar_3b067 22 = .ok (.ldc 54, 2) := by decide +kernel
theorem dJ2_getChar_3b067_24 : decode cJ2_getChar_3b067 24 = .ok (.invokespecial 56, 3) := by decide +kernel
theorem dJ2_getChar_3b067_27 : decode cJ2_getChar_3b067 27 = .ok (.athrow, 1) := by decide +kernel
theorem dJ2_getChar_3b067_28 : decode cJ2_getChar_3b067 28 = .ok (.iload_n 1, 1) := by decide +kernel
theorem dJ2_getChar_3b067_29 : decode cJ2_getChar_3b067 29 = .ok (.iconst 1, 1) := by decide +kernel
theorem dJ2_getChar_3b067_30 : decode cJ2_getChar_3b067 30 = .ok (.ishl, 1) := by decide +kernel
theorem dJ2_getChar_3b067_31 : decode cJ2_getChar_3b067 31 = .ok (.istore_n 1, 1) := by decide +kernel
theorem dJ2_getChar_3b067_32 : decode cJ2_getChar_3b067 32 = .ok (.aload_n 0, 1) := by decide +kernel
theorem dJ2_getChar_3b067_33 : decode cJ2_getChar_3b067 33 = .ok (.iload_n 1, 1) := by decide +kernel
theorem dJ2_getChar_3b067_34 : decode cJ2_getChar_3b067 34 = .ok (.iinc 1 1, 3) := by decide +kernel
theorem dJ2_getChar_3b067_37 : decode cJ2_getChar_3b067 37 = .ok (.baload, 1) := by decide +kernel
theorem dJ2_getChar_3b067_38 : decode cJ2_getChar_3b067 38 = .ok (.sipush 255, 3) := by decide +kernel
theorem dJ2_getChar_3b067_41 : decode cJ2_getChar_3b067 41 = .ok (.iand, 1) := by decide +kernel
theorem dJ2_getChar_3b067_42 : decode cJ2_getChar_3b067 42 = .ok (.getstatic 59, 3) := by decide +kernel
theorem dJ2_getChar_3b067_45 : decode cJ2_getChar_3b067 45 = .ok (.ishl, 1) := by decide +kernel
theorem dJ2_getChar_3b067_46 : decode cJ2_getChar_3b067 46 = .ok (.aload_n 0, 1) := by decide +kernel
theorem dJ2_getChar_3b067_47 : decode cJ2_getChar_3b067 47 = .ok (.iload_n 1, 1) := by decide +kernel
theorem dJ2_getChar_3b067_48 : decode cJ2_getChar_3b067 48 = .ok (.baload, 1) := by decide +kernel
theorem dJ2_getChar_3b067_49 : decode cJ2_getChar_3b067 49 = .ok (.sipush 255, 3) := by decide +kernel
theorem dJ2_getChar_3b067_52 : decode cJ2_getChar_3b067 52 = .ok (.iand, 1) := by decide +kernel
theorem dJ2_getChar_3b067_53 : decode cJ2_getChar_3b067 53 = .ok (.getstatic 63, 3) := by decide +kernel
theorem dJ2_getChar_3b067_56 : decode cJ2_getChar_3b067 56 = .ok (.ishl, 1) := by decide +kernel
theorem dJ2_getChar_3b067_57 : decode cJ2_getChar_3b067 57 = .ok (.ior, 1) := by decide +kernel
theorem dJ2_getChar_3b067_58 : decode cJ2_getChar_3b067 58 = .ok (.i2c, 1) := by decide +kernel
theorem dJ2_getChar_3b067_59 : decode cJ2_getChar_3b067 59 = .ok (.ireturn, 1) := by decide +kernel
theorem dJ2_length_9d52b_0 : decode cJ2_length_9d52b 0 = .ok (.aload_n 0, 1) := by decide +kernel
theorem dJ2_length_9d52b_1 : decode cJ2_length_9d52b 1 = .ok (.arraylength, 1) := by decide +kernel
theorem dJ2_length_9d52b_2 : decode cJ2_length_9d52b 2 = .ok (.iconst 1, 1) := by decide +kernel
theorem dJ2_length_9d52b_3 : decode cJ2_length_9d52b 3 = .ok (.ishr, 1) := by decide +kernel
theorem dJ2_length_9d52b_4 : decode cJ2_length_9d52b 4 = .ok (.ireturn, 1) := by decide +kernel
set_option maxRecDepth 20000 in
theorem ggJ2_indexOf_4cfef_J2_indexOfChar_4cfef : GoodIn wsJ2_indexOf_4cfef wsJ2_indexOfChar_4cfef := goodIn_r _ [12, 13, 14, 11, 15, 16, 17, 18, 19, 20, 21, 22, 23, 24, 25, 26, 27, 28, 29, 30, 31, 32, 33, 34, 35, 36] (by decide +kernel) (by decide +kernel)
set_option maxRecDepth 20000 in
theorem gJ2_indexOf_4cfef_J2_indexOfChar_4cfef : GoodIn wsJ2_indexOf_4cfef (va_wsS RJ2 228 yJ2_indexOfChar_4cfef wsJ2_indexOfChar_4cfef) := goodIn_app (goodIn_of _ (by decide +kernel)) ggJ2_indexOf_4cfef_J2_indexOfChar_4cfef
set_option maxRecDepth 20000 in
theorem ggJ2_indexOf_4cfef_J2_indexOfSupplementary_4cfef : GoodIn wsJ2_indexOf_4cfef wsJ2_indexOfSupplementary_4cfef := goodIn_r _ [39, 40, 41, 42, 43, 44, 45, 46, 47, 48, 49, 50, 51, 13, 14, 11, 15, 16, 17, 18, 19, 20, 21, 22, 23, 24, 25, 26, 27, 31, 32, 33, 34, 35, 36] (by decide +kernel) (by decide +kernel)
set_option maxRecDepth 20000 in
theorem gJ2_indexOf_4cfef_J2_indexOfSupplementary_4cfef : GoodIn wsJ2_indexOf_4cfef (va_wsS RJ2 232 yJ2_indexOfSupplementary_4cfef wsJ2_indexOfSupplementary_4cfef) := goodIn_app (goodIn_of _ (by decide +kernel)) ggJ2_indexOf_4cfef_J2_indexOfSupplementary_4cfef
theorem dJ2_indexOf_4cfef_0 : decode cJ2_indexOf_4cfef 0 = .ok (.iload_n 2, 1) := by decide +kernel
theorem dJ2_indexOf_4cfef_1 : decode cJ2_indexOf_4cfef 1 = .ok (.iconst 0, 1) := by decide +kernel
theorem dJ2_indexOf_4cfef_2 : decode cJ2_indexOf_4cfef 2 = .ok (.invokestatic 224, 3) := by decide +kernel
theorem dJ2_indexOf_4cfef_5 : decode cJ2_indexOf_4cfef 5 = .ok (.istore_n 2, 1) := by decide +kernel
theorem dJ2_indexOf_4cfef_6 : decode cJ2_indexOf_4cfef 6 = .ok (.iload_n 3, 1) := by decide +kernel
theorem dJ2_indexOf_4cfef_7 : decode cJ2_indexOf_4cfef 7 = .ok (.aload_n 0, 1) := by decide +kernel
theorem dJ2_indexOf_4cfef_8 : decode cJ2_indexOf_4cfef 8 = .ok (.arraylength, 1) := by decide +kernel
theorem dJ2_indexOf_4cfef_9 : decode cJ2_indexOf_4cfef 9 = .ok (.iconst 1, 1) := by decide +kernel
theorem dJ2_indexOf_4cfef_10 : decode cJ2_indexOf_4cfef 10 = .ok (.ishr, 1) := by decide +kernel
theorem dJ2_indexOf_4cfef_11 : decode cJ2_indexOf_4cfef 11 = .ok (.invokestatic 183, 3) := by decide +kernel
theorem dJ2_indexOf_4cfef_14 : decode cJ2_indexOf_4cfef 14 = .ok (.istore_n 3, 1) := by decide +kernel
theorem dJ2_indexOf_4cfef_15 : decode cJ2_indexOf_4cfef 15 = .ok (.iload_n 2, 1) := by decide +kernel
theorem dJ2_indexOf_4cfef_16 : decode cJ2_indexOf_4cfef 16 = .ok (.iload_n 3, 1) := by decide +kernel
theorem dJ2_indexOf_4cfef_17 : decode cJ2_indexOf_4cfef 17 = .ok (.if_icmp .lt 5, 3) := by decide +kernel
theorem dJ2_indexOf_4cfef_20 : decode cJ2_indexOf_4cfef 20 = .ok (.iconst (-1), 1) := by decide +kernel
theorem dJ2_indexOf_4cfef_21 : decode cJ2_indexOf_4cfef 21 = .ok (.ireturn, 1) := by decide +kernel
theorem dJ2_indexOf_4cfef_22 : decode cJ2_indexOf_4cfef 22 = .ok (.iload_n 1, 1) := by decide +kernel
theorem dJ2_indexOf_4cfef_23 : decode cJ2_indexOf_4cfef 23 = .ok (.ldc 227, 2) := by decide +kernel
theorem dJ2_indexOf_4cfef_25 : decode cJ2_indexOf_4cfef 25 = .ok (.if_icmp .ge 11, 3) := by decide +kernel
theorem dJ2_indexOf_4cfef_28 : decode cJ2_indexOf_4cfef 28 = .ok (.aload_n 0, 1) := by decide +kernel
theorem dJ2_indexOf_4cfef_29 : decode cJ2_indexOf_4cfef 29 = .ok (.iload_n 1, 1) := by decide +kernel
theorem dJ2_indexOf_4cfef_30 : decode cJ2_indexOf_4cfef 30 = .ok (.iload_n 2, 1) := by decide +kernel
theorem dJ2_indexOf_4cfef_31 : decode cJ2_indexOf_4cfef 31 = .ok (.iload_n 3, 1) := by decide +kernel
theorem dJ2_indexOf_4cfef_32 : decode cJ2_indexOf_4cfef 32 = .ok (.invokestatic 228, 3) := by decide +kernel
theorem dJ2_indexOf_4cfef_35 : decode cJ2_indexOf_4cfef 35 = .ok (.ireturn, 1) := by decide +kernel
theorem dJ2_indexOf_4cfef_36 : decode cJ2_indexOf_4cfef 36 = .ok (.aload_n 0, 1) := by decide +kernel
theorem dJ2_indexOf_4cfef_37 : decode cJ2_indexOf_4cfef 37 = .ok (.iload_n 1, 1) := by decide +kernel
theorem dJ2_indexOf_4cfef_38 : decode cJ2_indexOf_4cfef 38 = .ok (.iload_n 2, 1) := by decide +kernel
theorem dJ2_indexOf_4cfef_39 : decode cJ2_indexOf_4cfef 39 = .ok (.iload_n 3, 1) := by decide +kernel
theorem dJ2_indexOf_4cfef_40 : decode cJ2_indexOf_4cfef 40 = .ok (.invokestatic 232, 3) := by decide +kernel
theorem dJ2_indexOf_4cfef_43 : decode cJ2_indexOf_4cfef 43 = .ok (.ireturn, 1) := by decide +kernel
set_option maxRecDepth 20000 in
theorem ggJ2_indexOfChar_4cfef_J2_checkBoundsBeginEnd_d044e : GoodIn wsJ2_indexOfChar_4cfef wsJ2_checkBoundsBeginEnd_d044e := goodIn_r _ [4, 5, 6, 3, 7, 8, 9, 10, 11, 12, 13, 14, 15, 16] (by decide +kernel) (by decide +kernel)
set_option maxRecDepth 20000 in
theorem gJ2_indexOfChar_4cfef_J2_checkBoundsBeginEnd_d044e : GoodIn wsJ2_indexOfChar_4cfef (va_wsS RJ2 96 yJ2_checkBoundsBeginEnd_d044e wsJ2_checkBoundsBeginEnd_d044e) := goodIn_app (goodIn_of _ (by decide +kernel)) ggJ2_indexOfChar_4cfef_J2_checkBoundsBeginEnd_d044e
set_option maxRecDepth 20000 in
theorem ggJ2_indexOfChar_4cfef_J2_indexOfCharUnsafe_4cfef : GoodIn wsJ2_indexOfChar_4cfef wsJ2_indexOfCharUnsafe_4cfef := goodIn_r _ [19, 20, 21, 3, 22, 23, 24, 25, 5, 6, 7] (by decide +kernel) (by decide +kernel)
set_option maxRecDepth 20000 in
theorem gJ2_indexOfChar_4cfef_J2_indexOfCharUnsafe_4cfef : GoodIn wsJ2_indexOfChar_4cfef (va_wsS RJ2 244 yJ2_indexOfCharUnsafe_4cfef wsJ2_indexOfCharUnsafe_4cfef) := goodIn_app (goodIn_of _ (by decide +kernel)) ggJ2_indexOfChar_4cfef_J2_indexOfCharUnsafe_4cfef
theorem dJ2_indexOfChar_4cfef_0 : decode cJ2_indexOfChar_4cfef 0 = .ok (.iload_n 2, 1) := by decide +kernel
theorem dJ2_indexOfChar_4cfef_1 : decode cJ2_indexOfChar_4cfef 1 = .ok (.iload_n 3, 1) := by decide +kernel
theorem dJ2_indexOfChar_4cfef_2 : decode cJ2_indexOfChar_4cfef 2 = .ok (.aload_n 0, 1) := by decide +kernel
theorem dJ2_indexOfChar_4cfef_3 : decode cJ2_indexOfChar_4cfef 3 = .ok (.invokestatic 96, 3) := by decide +kernel
theorem dJ2_indexOfChar_4cfef_6 : decode cJ2_indexOfChar_4cfef 6 = .ok (.aload_n 0, 1) := by decide +kernel
theorem dJ2_indexOfChar_4cfef_7 : decode cJ2_indexOfChar_4cfef 7 = .ok (.iload_n 1, 1) := by decide +kernel
theorem dJ2_indexOfChar_4cfef_8 : decode cJ2_indexOfChar_4cfef 8 = .ok (.iload_n 2, 1) := by decide +kernel
theorem dJ2_indexOfChar_4cfef_9 : decode cJ2_indexOfChar_4cfef 9 = .ok (.iload_n 3, 1) := by decide +kernel
theorem dJ2_indexOfChar_4cfef_10 : decode cJ2_indexOfChar_4cfef 10 = .ok (.invokestatic 244, 3) := by decide +kernel
theorem dJ2_indexOfChar_4cfef_13 : decode cJ2_indexOfChar_4cfef 13 = .ok (.ireturn, 1) := by decide +kernel
set_option maxRecDepth 20000 in
theorem ggJ2_indexOfCharUnsafe_4cfef_J2_getChar_3b067 : GoodIn wsJ2_indexOfCharUnsafe_4cfef wsJ2_getChar_3b067 := goodIn_r _ [4, 5, 6, 7, 8, 9, 3, 10] (by decide +kernel) (by decide +kernel)
set_option maxRecDepth 20000 in
theorem gJ2_indexOfCharUnsafe_4cfef_J2_getChar_3b067 : GoodIn wsJ2_indexOfCharUnsafe_4cfef (va_wsS RJ2 71 yJ2_getChar_3b067 wsJ2_getChar_3b067) := goodIn_app (goodIn_of _ (by decide +kernel)) ggJ2_indexOfCharUnsafe_4cfef_J2_getChar_3b067
theorem dJ2_indexOfCharUnsafe_4cfef_0 : decode cJ2_indexOfCharUnsafe_4cfef 0 = .ok (.iload_n 2, 1) := by decide +kernel
theorem dJ2_indexOfCharUnsafe_4cfef_1 : decode cJ2_indexOfCharUnsafe_4cfef 1 = .ok (.istore 4, 2) := by decide +kernel
theorem dJ2_indexOfCharUnsafe_4cfef_3 : decode cJ2_indexOfCharUnsafe_4cfef 3 = .ok (.iload 4, 2) := by decide +kernel
theorem dJ2_indexOfCharUnsafe_4cfef_5 : decode cJ2_indexOfCharUnsafe_4cfef 5 = .ok (.iload_n 3, 1) := by decide +kernel
theorem dJ2_indexOfCharUnsafe_4cfef_6 : decode cJ2_indexOfCharUnsafe_4cfef 6 = .ok (.if_icmp .ge 22, 3) := by decide +kernel
theorem dJ2_indexOfCharUnsafe_4cfef_9 : decode cJ2_indexOfCharUnsafe_4cfef 9 = .ok (.aload_n 0, 1) := by decide +kernel
theorem dJ2_indexOfCharUnsafe_4cfef_10 : decode cJ2_indexOfCharUnsafe_4cfef 10 = .ok (.iload 4, 2) := by decide +kernel
theorem dJ2_indexOfCharUnsafe_4cfef_12 : decode cJ2_indexOfCharUnsafe_4cfef 12 = .ok (.invokestatic 71, 3) := by decide +kernel
theorem dJ2_indexOfCharUnsafe_4cfef_15 : decode cJ2_indexOfCharUnsafe_4cfef 15 = .ok (.iload_n 1, 1) := by decide +kernel
theorem dJ2_indexOfCharUnsafe_4cfef_16 : decode cJ2_indexOfCharUnsafe_4cfef 16 = .ok (.if_icmp .ne 6, 3) := by decide +kernel
theorem dJ2_indexOfCharUnsafe_4cfef_19 : decode cJ2_indexOfCharUnsafe_4cfef 19 = .ok (.iload 4, 2) := by decide +kernel
theorem dJ2_indexOfCharUnsafe_4cfef_21 : decode cJ2_indexOfCharUnsafe_4cfef 21 = .ok (.ireturn, 1) := by decide +kernel
theorem dJ2_indexOfCharUnsafe_4cfef_22 : decode cJ2_indexOfCharUnsafe_4cfef 22 = .ok (.iinc 4 1, 3) := by decide +kernel
theorem dJ2_indexOfCharUnsafe_4cfef_25 : decode cJ2_indexOfCharUnsafe_4cfef 25 = .ok (.goto (-22), 3) := by decide +kernel
theorem dJ2_indexOfCharUnsafe_4cfef_28 : decode cJ2_indexOfCharUnsafe_4cfef 28 = .ok (.iconst (-1), 1) := by decide +kernel
theorem dJ2_indexOfCharUnsafe_4cfef_29 : decode cJ2_indexOfCharUnsafe_4cfef 29 = .ok (.ireturn, 1) := by decide +kernel
set_option maxRecDepth 20000 in
theorem ggJ2_indexOfSupplementary_4cfef_J11_isValidCodePoint_9a6ad : GoodIn wsJ2_indexOfSupplementary_4cfef wsJ11_isValidCodePoint_9a6ad := goodIn_r _ [4] (by decide +kernel) (by decide +kernel)
set_option maxRecDepth 20000 in
theorem gJ2_indexOfSupplementary_4cfef_J11_isValidCodePoint_9a6ad : GoodIn wsJ2_indexOfSupplementary_4cfef (va_wsS RJ2 164 yJ11_isValidCodePoint_9a6ad wsJ11_isValidCodePoint_9a6ad) := goodIn_app (goodIn_of _ (by decide +kernel)) ggJ2_indexOfSupplementary_4cfef_J11_isValidCodePoint_9a6ad
set_option maxRecDepth 20000 in
theorem ggJ2_indexOfSupplementary_4cfef_J11_highSurrogate_5068e : GoodIn wsJ2_indexOfSupplementary_4cfef wsJ11_highSurrogate_5068e := goodIn_r _ [7, 8] (by decide +kernel) (by decide +kernel)
set_option maxRecDepth 20000 in
theorem gJ2_indexOfSupplementary_4cfef_J11_highSurrogate_5068e : GoodIn wsJ2_indexOfSupplementary_4cfef (va_wsS RJ2 157 yJ11_highSurrogate_5068e wsJ11_highSurrogate_5068e) := goodIn_app (goodIn_of _ (by decide +kernel)) ggJ2_indexOfSupplementary_4cfef_J11_highSurrogate_5068e
set_option maxRecDepth 20000 in
theorem ggJ2_indexOfSupplementary_4cfef_J11_lowSurrogate_5068e : GoodIn wsJ2_indexOfSupplementary_4cfef wsJ11_lowSurrogate_5068e := goodIn_r _ [11, 12] (by decide +kernel) (by decide +kernel)
set_option maxRecDepth 20000 in
theorem gJ2_indexOfSupplementary_4cfef_J11_lowSurrogate_5068e : GoodIn wsJ2_indexOfSupplementary_4cfef (va_wsS RJ2 161 yJ11_lowSurrogate_5068e wsJ11_lowSurrogate_5068e) := goodIn_app (goodIn_of _ (by decide +kernel)) ggJ2_indexOfSupplementary_4cfef_J11_lowSurrogate_5068e
set_option maxRecDepth 20000 in
theorem ggJ2_indexOfSupplementary_4cfef_J2_checkBoundsBeginEnd_d044e : GoodIn wsJ2_indexOfSupplementary_4cfef wsJ2_checkBoundsBeginEnd_d044e := goodIn_r _ [16, 17, 18, 15, 19, 20, 21, 22, 23, 24, 25, 26, 27, 28] (by decide +kernel) (by decide +kernel)
set_option maxRecDepth 20000 in
theorem gJ2_indexOfSupplementary_4cfef_J2_checkBoundsBeginEnd_d044e : GoodIn wsJ2_indexOfSupplementary_4cfef (va_wsS RJ2 96 yJ2_checkBoundsBeginEnd_d044e wsJ2_checkBoundsBeginEnd_d044e) := goodIn_app (goodIn_of _ (by decide +kernel)) ggJ2_indexOfSupplementary_4cfef_J2_checkBoundsBeginEnd_d044e
set_option maxRecDepth 20000 in
theorem ggJ2_indexOfSupplementary_4cfef_J2_getChar_3b067 : GoodIn wsJ2_indexOfSupplementary_4cfef wsJ2_getChar_3b067 := goodIn_r _ [31, 32, 33, 34, 17, 18, 15, 19] (by decide +kernel) (by decide +kernel)
set_option maxRecDepth 20000 in
theorem gJ2_indexOfSupplementary_4cfef_J2_getChar_3b067 : GoodIn wsJ2_indexOfSupplementary_4cfef (va_wsS RJ2 71 yJ2_getChar_3b067 wsJ2_getChar_3b067) := goodIn_app (goodIn_of _ (by decide +kernel)) ggJ2_indexOfSupplementary_4cfef_J2_getChar_3b067
theorem dJ2_indexOfSupplementary_4cfef_0 : decode cJ2_indexOfSupplementary_4cfef 0 = .ok (.iload_n 1, 1) := by decide +kernel
theorem dJ2_indexOfSupplementary_4cfef_1 : decode cJ2_indexOfSupplementary_4cfef 1 = .ok (.invokestatic 164, 3) := by decide +kernel
theorem dJ2_indexOfSupplementary_4cfef_4 : decode cJ2_indexOfSupplementary_4cfef 4 = .ok (.ifCond .eq 65, 3) := by decide +kernel
theorem dJ2_indexOfSupplementary_4cfef_7 : decode cJ2_indexOfSupplementary_4cfef 7 = .ok (.iload_n 1, 1) := by decide +kernel
theorem dJ2_indexOfSupplementary_4cfef_8 : decode cJ2_indexOfSupplementary_4cfef 8 = .ok (.invokestatic 157, 3) := by decide +kernel
theorem dJ2_indexOfSupplementary_4cfef_11 : decode cJ2_indexOfSupplementary_4cfef 11 = .ok (.istore 4, 2) := by decide +kernel
theorem dJ2_indexOfSupplementary_4cfef_13 : decode cJ2_indexOfSupplementary_4cfef 13 = .ok (.iload_n 1, 1) := by decide +kernel
theorem dJ2_indexOfSupplementary_4cfef_14 : decode cJ2_indexOfSupplementary_4cfef 14 = .ok (.invokestatic 161, 3) := by decide +kernel
theorem dJ2_indexOfSupplementary_4cfef_17 : decode cJ2_indexOfSupplementary_4cfef 17 = .ok (.istore 5, 2) := by decide +kernel
theorem dJ2_indexOfSupplementary_4cfef_19 : decode cJ2_indexOfSupplementary_4cfef 19 = .ok (.iload_n 2, 1) := by decide +kernel
theorem dJ2_indexOfSupplementary_4cfef_20 : decode cJ2_indexOfSupplementary_4cfef 20 = .ok (.iload_n 3, 1) := by decide +kernel
theorem dJ2_indexOfSupplementary_4cfef_21 : decode cJ2_indexOfSupplementary_4cfef 21 = .ok (.aload_n 0, 1) := by decide +kernel
theorem dJ2_indexOfSupplementary_4cfef_22 : decode cJ2_indexOfSupplementary_4cfef 22 = .ok (.invokestatic 96, 3) := by decide +kernel
theorem dJ2_indexOfSupplementary_4cfef_25 : decode cJ2_indexOfSupplementary_4cfef 25 = .ok (.iload_n 2, 1) := by decide +kernel
theorem dJ2_indexOfSupplementary_4cfef_26 : decode cJ2_indexOfSupplementary_4cfef 26 = .ok (.istore 6, 2) := by decide +kernel
theorem dJ2_indexOfSupplementary_4cfef_28 : decode cJ2_indexOfSupplementary_4cfef 28 = .ok (.iload 6, 2) := by decide +kernel
theorem dJ2_indexOfSupplementary_4cfef_30 : decode cJ2_indexOfSupplementary_4cfef 30 = .ok (.iload_n 3, 1) := by decide +kernel
theorem dJ2_indexOfSupplementary_4cfef_31 : decode cJ2_indexOfSupplementary_4cfef 31 = .ok (.iconst 1, 1) := by decide +kernel
theorem dJ2_indexOfSupplementary_4cfef_32 : decode cJ2_indexOfSupplementary_4cfef 32 = .ok (.isub, 1) := by decide +kernel
theorem dJ2_indexOfSupplementary_4cfef_33 : decode cJ2_indexOfSupplementary_4cfef 33 = .ok (.if_icmp .ge 36, 3) := by decide +kernel
theorem dJ2_indexOfSupplementary_4cfef_36 : decode cJ2_indexOfSupplementary_4cfef 36 = .ok (.aload_n 0, 1) := by decide +kernel
theorem dJ2_indexOfSupplementary_4cfef_37 : decode cJ2_indexOfSupplementary_4cfef 37 = .ok (.iload 6, 2) := by decide +kernel
theorem dJ2_indexOfSupplementary_4cfef_39 : decode cJ2_indexOfSupplementary_4cfef 39 = .ok (.invokestatic 71, 3) := by decide +kernel
theorem dJ2_indexOfSupplementary_4cfef_42 : decode cJ2_indexOfSupplementary_4cfef 42 = .ok (.iload 4, 2) := by decide +kernel
theorem dJ2_indexOfSupplementary_4cfef_44 : decode cJ2_indexOfSupplementary_4cfef 44 = .ok (.if_icmp .ne 19, 3) := by decide +kernel
theorem dJ2_indexOfSupplementary_4cfef_47 : decode cJ2_indexOfSupplementary_4cfef 47 = .ok (.aload_n 0, 1) := by decide +kernel
theorem dJ2_indexOfSupplementary_4cfef_48 : decode cJ2_indexOfSupplementary_4cfef 48 = .ok (.iload 6, 2) := by decide +kernel
theorem dJ2_indexOfSupplementary_4cfef_50 : decode cJ2_indexOfSupplementary_4cfef 50 = .ok (.iconst 1, 1) := by decide +kernel
theorem dJ2_indexOfSupplementary_4cfef_51 : decode cJ2_indexOfSupplementary_4cfef 51 = .ok (.iadd, 1) := by decide +kernel
theorem dJ2_indexOfSupplementary_4cfef_52 : decode cJ2_indexOfSupplementary_4cfef 52 = .ok (.invokestatic 71, 3) := by decide +kernel
theorem dJ2_indexOfSupplementary_4cfef_55 : decode cJ2_indexOfSupplementary_4cfef 55 = .ok (.iload 5, 2) := by decide +kernel
theorem dJ2_indexOfSupplementary_4cfef_57 : decode cJ2_indexOfSupplementary_4cfef 57 = .ok (.if_icmp .ne 6, 3) := by decide +kernel
theorem dJ2_indexOfSupplementary_4cfef_60 : decode cJ2_indexOfSupplementary_4cfef 60 = .ok (.iload 6, 2) := by decide +kernel
theorem dJ2_indexOfSupplementary_4cfef_62 : decode cJ2_indexOfSupplementary_4cfef 62 = .ok (.ireturn, 1) := by decide +kernel
theorem dJ2_indexOfSupplementary_4cfef_63 : decode cJ2_indexOfSupplementary_4cfef 63 = .ok (.iinc 6 1, 3) := by decide +kernel
theorem dJ2_indexOfSupplementary_4cfef_66 : decode cJ2_indexOfSupplementary_4cfef 66 = .ok (.goto (-38), 3) := by decide +kernel
theorem dJ2_indexOfSupplementary_4cfef_69 : decode cJ2_indexOfSupplementary_4cfef 69 = .ok (.iconst (-1), 1) := by decide +kernel
theorem dJ2_indexOfSupplementary_4cfef_70 : decode cJ2_indexOfSupplementary_4cfef 70 = .ok (.ireturn, 1) := by decide +kernel
set_option maxRecDepth 20000 in
theorem ggJ2_checkBoundsBeginEnd_d044e_J2_length_9d52b : GoodIn wsJ2_checkBoundsBeginEnd_d044e wsJ2_length_9d52b := goodIn_r _ [4] (by decide +kernel) (by decide +kernel)
set_option maxRecDepth 20000 in
theorem gJ2_checkBoundsBeginEnd_d044e_J2_length_9d52b : GoodIn wsJ2_checkBoundsBeginEnd_d044e (va_wsS RJ2 48 yJ2_length_9d52b wsJ2_length_9d52b) := goodIn_app (goodIn_of _ (by decide +kernel)) ggJ2_checkBoundsBeginEnd_d044e_J2_length_9d52b
set_option maxRecDepth 20000 in
theorem ggJ2_checkBoundsBeginEnd_d044e_J0_checkBoundsBeginEnd_23922 : GoodIn wsJ2_checkBoundsBeginEnd_d044e wsJ0_checkBoundsBeginEnd_23922 := goodIn_r _ [8, 9, 10, 11, 12, 13] (by decide +kernel) (by decide +kernel)
set_option maxRecDepth 20000 in
theorem gJ2_checkBoundsBeginEnd_d044e_J0_checkBoundsBeginEnd_23922 : GoodIn wsJ2_checkBoundsBeginEnd_d044e (va_wsS RJ2 241 yJ0_checkBoundsBeginEnd_23922 wsJ0_checkBoundsBeginEnd_23922) := goodIn_app (goodIn_of _ (by decide +kernel)) ggJ2_checkBoundsBeginEnd_d044e_J0_checkBoundsBeginEnd_23922
theorem dJ2_checkBoundsBeginEnd_d044e_0 : decode cJ2_checkBoundsBeginEnd_d044e 0 = .ok (.iload_n 0, 1) := by decide +kernel
theorem dJ2_checkBoundsBeginEnd_d044e_1 : decode cJ2_checkBoundsBeginEnd_d044e 1 = .ok (.iload_n 1, 1) := by decide +kernel
theorem dJ2_checkBoundsBeginEnd_d044e_2 : decode cJ2_checkBoundsBeginEnd_d044e 2 = .ok (.aload_n 2, 1) := by decide +kernel
theorem dJ2_checkBoundsBeginEnd_d044e_3 : decode cJ2_checkBoundsBeginEnd_d044e 3 = .ok (.invokestatic 48, 3) := by decide +kernel
theorem dJ2_checkBoundsBeginEnd_d044e_6 : decode cJ2_checkBoundsBeginEnd_d044e 6 = .ok (.invokestatic 241, 3) := by decide +kernel
theorem dJ2_checkBoundsBeginEnd_d044e_9 : decode cJ2_checkBoundsBeginEnd_d044e 9 = .ok (.return_, 1) := by decide +kernel
theorem dJ7_fill_53178_0 : decode cJ7_fill_53178 0 = .ok (.iconst 0, 1) := by decide +kernel
theorem dJ7_fill_53178_1 : decode cJ7_fill_53178 1 = .ok (.istore_n 2, 1) := by decide +kernel
theorem dJ7_fill_53178_2 : decode cJ7_fill_53178 2 = .ok (.aload_n 0, 1) := by decide +kernel
theorem dJ7_fill_53178_3 : decode cJ7_fill_53178 3 = .ok (.arraylength, 1) := by decide +kernel
theorem dJ7_fill_53178_4 : decode cJ7_fill_53178 4 = .ok (.istore_n 3, 1) := by decide +kernel
theorem dJ7_fill_53178_5 : decode cJ7_fill_53178 5 = .ok (.iload_n 2, 1) := by decide +kernel
theorem dJ7_fill_53178_6 : decode cJ7_fill_53178 6 = .ok (.iload_n 3, 1) := by decide +kernel
theorem dJ7_fill_53178_7 : decode cJ7_fill_53178 7 = .ok (.if_icmp .ge 13, 3) := by decide +kernel
theorem dJ7_fill_53178_10 : decode cJ7_fill_53178 10 = .ok (.aload_n 0, 1) := by decide +kernel
theorem dJ7_fill_53178_11 : decode cJ7_fill_53178 11 = .ok (.iload_n 2, 1) := by decide +kernel
theorem dJ7_fill_53178_12 : decode cJ7_fill_53178 12 = .ok (.iload_n 1, 1) := by decide +kernel
theorem dJ7_fill_53178_13 : decode cJ7_fill_53178 13 = .ok (.iastore, 1) := by decide +kernel
theorem dJ7_fill_53178_14 : decode cJ7_fill_53178 14 = .ok (.iinc 2 1, 3) := by decide +kernel
theorem dJ7_fill_53178_17 : decode cJ7_fill_53178 17 = .ok (.goto (-12), 3) := by decide +kernel
theorem dJ7_fill_53178_20 : decode cJ7_fill_53178 20 = .ok (.return_, 1) := by decide +kernel
theorem dJ3_checkFromToIndex_8c36e_0 : decode cJ3_checkFromToIndex_8c36e 0 = .ok (.iload_n 0, 1) := by decide +kernel
theorem dJ3_checkFromToIndex_8c36e_1 : decode cJ3_checkFromToIndex_8c36e 1 = .ok (.ifCond .lt 13, 3) := by decide +kernel
theorem dJ3_checkFromToIndex_8c36e_4 : decode cJ3_checkFromToIndex_8c36e 4 = .ok (.iload_n 0, 1) := by decide +kernel
theorem dJ3_checkFromToIndex_8c36e_5 : decode cJ3_checkFromToIndex_8c36e 5 = .ok (.iload_n 1, 1) := by decide +kernel
theorem dJ3_checkFromToIndex_8c36e_6 : decode cJ3_checkFromToIndex_8c36e 6 = .ok (.if_icmp .gt 8, 3) := by decide +kernel
theorem dJ3_checkFromToIndex_8c36e_9 : decode cJ3_checkFromToIndex_8c36e 9 = .ok (.iload_n 1, 1) := by decide +kernel
theorem dJ3_checkFromToIndex_8c36e_10 : decode cJ3_checkFromToIndex_8c36e 10 = .ok (.iload_n 2, 1) := by decide +kernel
theorem dJ3_checkFromToIndex_8c36e_11 : decode cJ3_checkFromToIndex_8c36e 11 = .ok (.if_icmp .le 11, 3) := by decide +kernel
theorem dJ3_checkFromToIndex_8c36e_14 : decode cJ3_checkFromToIndex_8c36e 14 = .ok (.aload_n 3, 1) := by decide +kernel
theorem dJ3_checkFromToIndex_8c36e_15 : decode cJ3_checkFromToIndex_8c36e 15 = .ok (.iload_n 0, 1) := by decide +kernel
theorem dJ3_checkFromToIndex_8c36e_16 : decode cJ3_checkFromToIndex_8c36e 16 = .ok (.iload_n 1, 1) := by decide +kernel
theorem dJ3_checkFromToIndex_8c36e_17 : decode cJ3_checkFromToIndex_8c36e 17 = .ok (.iload_n 2, 1) := by decide +kernel
theorem dJ3_checkFromToIndex_8c36e_18 : decode cJ3_checkFromToIndex_8c36e 18 = .ok (.invokestatic 99, 3) := by decide +kernel
theorem dJ3_checkFromToIndex_8c36e_21 : decode cJ3_checkFromToIndex_8c36e 21 = .ok (.athrow, 1) := by decide +kernel
theorem dJ3_checkFromToIndex_8c36e_22 : decode cJ3_checkFromToIndex_8c36e 22 = .ok (.iload_n 0, 1) := by decide +kernel
theorem dJ3_checkFromToIndex_8c36e_23 : decode cJ3_checkFromToIndex_8c36e 23 = .ok (.ireturn, 1) := by decide +kernel
