theorem dX0_init_0 : decode cX0_init 0 = .ok (.aload_n 0, 1) := by decide +kernel
theorem dX0_init_1 : decode cX0_init 1 = .ok (.invokespecial 3, 3) := by decide +kernel
theorem dX0_init_4 : decode cX0_init 4 = .ok (.return_, 1) := by decide +kernel
set_option maxRecDepth 20000 in
theorem ggX0_hold_X0_wordVoted : GoodIn wsX0_hold wsX0_wordVoted := goodIn_r _ [11, 12, 13, 1, 14, 15, 16, 17, 18, 19, 20, 21, 22, 23, 10, 24, 25, 3, 26, 27, 28, 29, 5, 4, 30, 31, 32, 33, 34, 35, 36, 37, 38, 39, 40, 41, 47, 48, 49, 50, 51, 42, 43, 44, 45, 46] (by decide +kernel) (by decide +kernel)
set_option maxRecDepth 20000 in
theorem gX0_hold_X0_wordVoted : GoodIn wsX0_hold (wsV RX0 32 RX0 yX0_wordVoted wsX0_wordVoted) := goodIn_app (goodIn_of _ (by decide +kernel)) ggX0_hold_X0_wordVoted
theorem dX0_hold_0 : decode cX0_hold 0 = .ok (.aload_n 0, 1) := by decide +kernel
theorem dX0_hold_1 : decode cX0_hold 1 = .ok (.iconst 0, 1) := by decide +kernel
theorem dX0_hold_2 : decode cX0_hold 2 = .ok (.putfield 9, 3) := by decide +kernel
theorem dX0_hold_5 : decode cX0_hold 5 = .ok (.aload_n 0, 1) := by decide +kernel
theorem dX0_hold_6 : decode cX0_hold 6 = .ok (.iconst 0, 1) := by decide +kernel
theorem dX0_hold_7 : decode cX0_hold 7 = .ok (.putfield 15, 3) := by decide +kernel
theorem dX0_hold_10 : decode cX0_hold 10 = .ok (.aload_n 0, 1) := by decide +kernel
theorem dX0_hold_11 : decode cX0_hold 11 = .ok (.iconst 0, 1) := by decide +kernel
theorem dX0_hold_12 : decode cX0_hold 12 = .ok (.putfield 18, 3) := by decide +kernel
theorem dX0_hold_15 : decode cX0_hold 15 = .ok (.aload_n 0, 1) := by decide +kernel
theorem dX0_hold_16 : decode cX0_hold 16 = .ok (.iconst (-1), 1) := by decide +kernel
theorem dX0_hold_17 : decode cX0_hold 17 = .ok (.putfield 21, 3) := by decide +kernel
theorem dX0_hold_20 : decode cX0_hold 20 = .ok (.aload_n 0, 1) := by decide +kernel
theorem dX0_hold_21 : decode cX0_hold 21 = .ok (.bipush 33, 2) := by decide +kernel
theorem dX0_hold_23 : decode cX0_hold 23 = .ok (.putfield 24, 3) := by decide +kernel
theorem dX0_hold_26 : decode cX0_hold 26 = .ok (.aload_n 1, 1) := by decide +kernel
theorem dX0_hold_27 : decode cX0_hold 27 = .ok (.getfield 27, 3) := by decide +kernel
theorem dX0_hold_30 : decode cX0_hold 30 = .ok (.istore_n 3, 1) := by decide +kernel
theorem dX0_hold_31 : decode cX0_hold 31 = .ok (.iload_n 3, 1) := by decide +kernel
theorem dX0_hold_32 : decode cX0_hold 32 = .ok (.ifCond .lt 30, 3) := by decide +kernel
theorem dX0_hold_35 : decode cX0_hold 35 = .ok (.aload_n 0, 1) := by decide +kernel
theorem dX0_hold_36 : decode cX0_hold 36 = .ok (.dup, 1) := by decide +kernel
theorem dX0_hold_37 : decode cX0_hold 37 = .ok (.getfield 15, 3) := by decide +kernel
theorem dX0_hold_40 : decode cX0_hold 40 = .ok (.aload_n 0, 1) := by decide +kernel
theorem dX0_hold_41 : decode cX0_hold 41 = .ok (.aload_n 1, 1) := by decide +kernel
theorem dX0_hold_42 : decode cX0_hold 42 = .ok (.iload_n 2, 1) := by decide +kernel
theorem dX0_hold_43 : decode cX0_hold 43 = .ok (.aload_n 0, 1) := by decide +kernel
theorem dX0_hold_44 : decode cX0_hold 44 = .ok (.getfield 15, 3) := by decide +kernel
theorem dX0_hold_47 : decode cX0_hold 47 = .ok (.ixor, 1) := by decide +kernel
theorem dX0_hold_48 : decode cX0_hold 48 = .ok (.iload_n 3, 1) := by decide +kernel
theorem dX0_hold_49 : decode cX0_hold 49 = .ok (.invokevirtual 32, 3) := by decide +kernel
theorem dX0_hold_52 : decode cX0_hold 52 = .ok (.ixor, 1) := by decide +kernel
theorem dX0_hold_53 : decode cX0_hold 53 = .ok (.putfield 15, 3) := by decide +kernel
theorem dX0_hold_56 : decode cX0_hold 56 = .ok (.iinc 3 (-1), 3) := by decide +kernel
theorem dX0_hold_59 : decode cX0_hold 59 = .ok (.goto (-28), 3) := by decide +kernel
theorem dX0_hold_62 : decode cX0_hold 62 = .ok (.return_, 1) := by decide +kernel
set_option maxRecDepth 20000 in
theorem ggX0_wordVoted_J6_bitCount_0f7a4 : GoodIn wsX0_wordVoted wsJ6_bitCount_0f7a4 := goodIn_r _ [7, 8, 9, 10] (by decide +kernel) (by decide +kernel)
set_option maxRecDepth 20000 in
theorem gX0_wordVoted_J6_bitCount_0f7a4 : GoodIn wsX0_wordVoted (va_wsS RX0 43 yJ6_bitCount_0f7a4 wsJ6_bitCount_0f7a4) := goodIn_app (goodIn_of _ (by decide +kernel)) ggX0_wordVoted_J6_bitCount_0f7a4
set_option maxRecDepth 20000 in
theorem ggX0_wordVoted_X0_isCarried : GoodIn wsX0_wordVoted wsX0_isCarried := goodIn_r _ [15, 16, 17, 18, 19, 20, 21, 22, 23, 24, 25, 26, 27, 28, 29, 5, 6, 7, 8, 9, 10, 36, 37, 38, 39, 40, 41, 42, 43, 44, 45] (by decide +kernel) (by decide +kernel)
set_option maxRecDepth 20000 in
theorem gX0_wordVoted_X0_isCarried : GoodIn wsX0_wordVoted (wsV RX0 49 RX0 yX0_isCarried wsX0_isCarried) := goodIn_app (goodIn_of _ (by decide +kernel)) ggX0_wordVoted_X0_isCarried
set_option maxRecDepth 20000 in
theorem ggX0_wordVoted_X1_summed : GoodIn wsX0_wordVoted wsX1_summed := goodIn_r _ [34, 35, 36, 37, 38, 39, 40] (by decide +kernel) (by decide +kernel)
set_option maxRecDepth 20000 in
theorem gX0_wordVoted_X1_summed : GoodIn wsX0_wordVoted (wsV RX0 53 RX1 yX1_summed wsX1_summed) := goodIn_app (goodIn_of _ (by decide +kernel)) ggX0_wordVoted_X1_summed
theorem dX0_wordVoted_0 : decode cX0_wordVoted 0 = .ok (.iconst 0, 1) := by decide +kernel
theorem dX0_wordVoted_1 : decode cX0_wordVoted 1 = .ok (.istore 4, 2) := by decide +kernel
theorem dX0_wordVoted_3 : decode cX0_wordVoted 3 = .ok (.iconst 0, 1) := by decide +kernel
theorem dX0_wordVoted_4 : decode cX0_wordVoted 4 = .ok (.istore 5, 2) := by decide +kernel
theorem dX0_wordVoted_6 : decode cX0_wordVoted 6 = .ok (.iload 5, 2) := by decide +kernel
theorem dX0_wordVoted_8 : decode cX0_wordVoted 8 = .ok (.aload_n 1, 1) := by decide +kernel
theorem dX0_wordVoted_9 : decode cX0_wordVoted 9 = .ok (.getfield 36, 3) := by decide +kernel
theorem dX0_wordVoted_12 : decode cX0_wordVoted 12 = .ok (.if_icmp .ge 60, 3) := by decide +kernel
theorem dX0_wordVoted_15 : decode cX0_wordVoted 15 = .ok (.aload_n 1, 1) := by decide +kernel
theorem dX0_wordVoted_16 : decode cX0_wordVoted 16 = .ok (.getfield 39, 3) := by decide +kernel
theorem dX0_wordVoted_19 : decode cX0_wordVoted 19 = .ok (.iload 5, 2) := by decide +kernel
theorem dX0_wordVoted_21 : decode cX0_wordVoted 21 = .ok (.iaload, 1) := by decide +kernel
theorem dX0_wordVoted_22 : decode cX0_wordVoted 22 = .ok (.istore 6, 2) := by decide +kernel
theorem dX0_wordVoted_24 : decode cX0_wordVoted 24 = .ok (.iload 6, 2) := by decide +kernel
theorem dX0_wordVoted_26 : decode cX0_wordVoted 26 = .ok (.invokestatic 43, 3) := by decide +kernel
theorem dX0_wordVoted_29 : decode cX0_wordVoted 29 = .ok (.iload_n 3, 1) := by decide +kernel
theorem dX0_wordVoted_30 : decode cX0_wordVoted 30 = .ok (.if_icmp .ne 36, 3) := by decide +kernel
theorem dX0_wordVoted_33 : decode cX0_wordVoted 33 = .ok (.aload_n 0, 1) := by decide +kernel
theorem dX0_wordVoted_34 : decode cX0_wordVoted 34 = .ok (.aload_n 1, 1) := by decide +kernel
theorem dX0_wordVoted_35 : decode cX0_wordVoted 35 = .ok (.iload_n 2, 1) := by decide +kernel
theorem dX0_wordVoted_36 : decode cX0_wordVoted 36 = .ok (.iload 6, 2) := by decide +kernel
theorem dX0_wordVoted_38 : decode cX0_wordVoted 38 = .ok (.invokevirtual 49, 3) := by decide +kernel
theorem dX0_wordVoted_41 : decode cX0_wordVoted 41 = .ok (.ifCond .eq 25, 3) := by decide +kernel
theorem dX0_wordVoted_44 : decode cX0_wordVoted 44 = .ok (.aload_n 0, 1) := by decide +kernel
theorem dX0_wordVoted_45 : decode cX0_wordVoted 45 = .ok (.dup, 1) := by decide +kernel
theorem dX0_wordVoted_46 : decode cX0_wordVoted 46 = .ok (.getfield 9, 3) := by decide +kernel
theorem dX0_wordVoted_49 : decode cX0_wordVoted 49 = .ok (.iconst 1, 1) := by decide +kernel
theorem dX0_wordVoted_50 : decode cX0_wordVoted 50 = .ok (.iload 5, 2) := by decide +kernel
theorem dX0_wordVoted_52 : decode cX0_wordVoted 52 = .ok (.ishl, 1) := by decide +kernel
theorem dX0_wordVoted_53 : decode cX0_wordVoted 53 = .ok (.ior, 1) := by decide +kernel
theorem dX0_wordVoted_54 : decode cX0_wordVoted 54 = .ok (.putfield 9, 3) := by decide +kernel
theorem dX0_wordVoted_57 : decode cX0_wordVoted 57 = .ok (.iload 4, 2) := by decide +kernel
theorem dX0_wordVoted_59 : decode cX0_wordVoted 59 = .ok (.iconst 1, 1) := by decide +kernel
theorem dX0_wordVoted_60 : decode cX0_wordVoted 60 = .ok (.iload 6, 2) := by decide +kernel
theorem dX0_wordVoted_62 : decode cX0_wordVoted 62 = .ok (.ishl, 1) := by decide +kernel
theorem dX0_wordVoted_63 : decode cX0_wordVoted 63 = .ok (.ior, 1) := by decide +kernel
theorem dX0_wordVoted_64 : decode cX0_wordVoted 64 = .ok (.istore 4, 2) := by decide +kernel
theorem dX0_wordVoted_66 : decode cX0_wordVoted 66 = .ok (.iinc 5 1, 3) := by decide +kernel
theorem dX0_wordVoted_69 : decode cX0_wordVoted 69 = .ok (.goto (-63), 3) := by decide +kernel
theorem dX0_wordVoted_72 : decode cX0_wordVoted 72 = .ok (.aload_n 1, 1) := by decide +kernel
theorem dX0_wordVoted_73 : decode cX0_wordVoted 73 = .ok (.iload 4, 2) := by decide +kernel
theorem dX0_wordVoted_75 : decode cX0_wordVoted 75 = .ok (.invokevirtual 53, 3) := by decide +kernel
theorem dX0_wordVoted_78 : decode cX0_wordVoted 78 = .ok (.ireturn, 1) := by decide +kernel
set_option maxRecDepth 20000 in
theorem ggX0_isCarried_X8_partsOf : GoodIn wsX0_isCarried wsX8_partsOf := goodIn_r _ [11] (by decide +kernel) (by decide +kernel)
set_option maxRecDepth 20000 in
theorem gX0_isCarried_X8_partsOf_n56 : GoodIn wsX0_isCarried (wsX8_partsOf) := ggX0_isCarried_X8_partsOf
set_option maxRecDepth 20000 in
theorem ggX0_isCarried_X8_isOdd : GoodIn wsX0_isCarried wsX8_isOdd := goodIn_r _ [13, 14, 15, 16, 17, 18, 19, 20] (by decide +kernel) (by decide +kernel)
set_option maxRecDepth 20000 in
theorem gX0_isCarried_X8_isOdd_n62 : GoodIn wsX0_isCarried (wsX8_isOdd) := ggX0_isCarried_X8_isOdd
theorem dX0_isCarried_0 : decode cX0_isCarried 0 = .ok (.iload_n 3, 1) := by decide +kernel
theorem dX0_isCarried_1 : decode cX0_isCarried 1 = .ok (.invokestatic 56, 3) := by decide +kernel
theorem dX0_isCarried_4 : decode cX0_isCarried 4 = .ok (.istore 4, 2) := by decide +kernel
theorem dX0_isCarried_6 : decode cX0_isCarried 6 = .ok (.iconst 0, 1) := by decide +kernel
theorem dX0_isCarried_7 : decode cX0_isCarried 7 = .ok (.istore 5, 2) := by decide +kernel
theorem dX0_isCarried_9 : decode cX0_isCarried 9 = .ok (.iconst 0, 1) := by decide +kernel
theorem dX0_isCarried_10 : decode cX0_isCarried 10 = .ok (.istore 6, 2) := by decide +kernel
theorem dX0_isCarried_12 : decode cX0_isCarried 12 = .ok (.iload 6, 2) := by decide +kernel
theorem dX0_isCarried_14 : decode cX0_isCarried 14 = .ok (.aload_n 1, 1) := by decide +kernel
theorem dX0_isCarried_15 : decode cX0_isCarried 15 = .ok (.getfield 59, 3) := by decide +kernel
theorem dX0_isCarried_18 : decode cX0_isCarried 18 = .ok (.if_icmp .ge 39, 3) := by decide +kernel
theorem dX0_isCarried_21 : decode cX0_isCarried 21 = .ok (.iload 6, 2) := by decide +kernel
theorem dX0_isCarried_23 : decode cX0_isCarried 23 = .ok (.iload_n 3, 1) := by decide +kernel
theorem dX0_isCarried_24 : decode cX0_isCarried 24 = .ok (.iand, 1) := by decide +kernel
theorem dX0_isCarried_25 : decode cX0_isCarried 25 = .ok (.ifCond .ne 26, 3) := by decide +kernel
theorem dX0_isCarried_28 : decode cX0_isCarried 28 = .ok (.iload 5, 2) := by decide +kernel
theorem dX0_isCarried_30 : decode cX0_isCarried 30 = .ok (.iload_n 2, 1) := by decide +kernel
theorem dX0_isCarried_31 : decode cX0_isCarried 31 = .ok (.iload 4, 2) := by decide +kernel
theorem dX0_isCarried_33 : decode cX0_isCarried 33 = .ok (.iload 6, 2) := by decide +kernel
theorem dX0_isCarried_35 : decode cX0_isCarried 35 = .ok (.ishl, 1) := by decide +kernel
theorem dX0_isCarried_36 : decode cX0_isCarried 36 = .ok (.iand, 1) := by decide +kernel
theorem dX0_isCarried_37 : decode cX0_isCarried 37 = .ok (.invokestatic 62, 3) := by decide +kernel
theorem dX0_isCarried_40 : decode cX0_isCarried 40 = .ok (.ifCond .eq 7, 3) := by decide +kernel
theorem dX0_isCarried_43 : decode cX0_isCarried 43 = .ok (.iconst 1, 1) := by decide +kernel
theorem dX0_isCarried_44 : decode cX0_isCarried 44 = .ok (.goto 4, 3) := by decide +kernel
theorem dX0_isCarried_47 : decode cX0_isCarried 47 = .ok (.iconst (-1), 1) := by decide +kernel
theorem dX0_isCarried_48 : decode cX0_isCarried 48 = .ok (.iadd, 1) := by decide +kernel
theorem dX0_isCarried_49 : decode cX0_isCarried 49 = .ok (.istore 5, 2) := by decide +kernel
theorem dX0_isCarried_51 : decode cX0_isCarried 51 = .ok (.iinc 6 1, 3) := by decide +kernel
theorem dX0_isCarried_54 : decode cX0_isCarried 54 = .ok (.goto (-42), 3) := by decide +kernel
theorem dX0_isCarried_57 : decode cX0_isCarried 57 = .ok (.iload 5, 2) := by decide +kernel
theorem dX0_isCarried_59 : decode cX0_isCarried 59 = .ok (.ifCond .ne 13, 3) := by decide +kernel
theorem dX0_isCarried_62 : decode cX0_isCarried 62 = .ok (.aload_n 0, 1) := by decide +kernel
theorem dX0_isCarried_63 : decode cX0_isCarried 63 = .ok (.dup, 1) := by decide +kernel
theorem dX0_isCarried_64 : decode cX0_isCarried 64 = .ok (.getfield 18, 3) := by decide +kernel
theorem dX0_isCarried_67 : decode cX0_isCarried 67 = .ok (.iconst 1, 1) := by decide +kernel
theorem dX0_isCarried_68 : decode cX0_isCarried 68 = .ok (.iadd, 1) := by decide +kernel
theorem dX0_isCarried_69 : decode cX0_isCarried 69 = .ok (.putfield 18, 3) := by decide +kernel
theorem dX0_isCarried_72 : decode cX0_isCarried 72 = .ok (.iload 5, 2) := by decide +kernel
theorem dX0_isCarried_74 : decode cX0_isCarried 74 = .ok (.invokestatic 66, 3) := by decide +kernel
theorem dX0_isCarried_77 : decode cX0_isCarried 77 = .ok (.aload_n 0, 1) := by decide +kernel
theorem dX0_isCarried_78 : decode cX0_isCarried 78 = .ok (.getfield 24, 3) := by decide +kernel
theorem dX0_isCarried_81 : decode cX0_isCarried 81 = .ok (.if_icmp .ge 17, 3) := by decide +kernel
theorem dX0_isCarried_84 : decode cX0_isCarried 84 = .ok (.aload_n 0, 1) := by decide +kernel
theorem dX0_isCarried_85 : decode cX0_isCarried 85 = .ok (.iload 5, 2) := by decide +kernel
theorem dX0_isCarried_87 : decode cX0_isCarried 87 = .ok (.invokestatic 66, 3) := by decide +kernel
theorem dX0_isCarried_90 : decode cX0_isCarried 90 = .ok (.putfield 24, 3) := by decide +kernel
theorem dX0_isCarried_93 : decode cX0_isCarried 93 = .ok (.aload_n 0, 1) := by decide +kernel
theorem dX0_isCarried_94 : decode cX0_isCarried 94 = .ok (.iload_n 3, 1) := by decide +kernel
theorem dX0_isCarried_95 : decode cX0_isCarried 95 = .ok (.putfield 21, 3) := by decide +kernel
theorem dX0_isCarried_98 : decode cX0_isCarried 98 = .ok (.iload 5, 2) := by decide +kernel
theorem dX0_isCarried_100 : decode cX0_isCarried 100 = .ok (.ifCond .le 7, 3) := by decide +kernel
theorem dX0_isCarried_103 : decode cX0_isCarried 103 = .ok (.iconst 1, 1) := by decide +kernel
theorem dX0_isCarried_104 : decode cX0_isCarried 104 = .ok (.goto 4, 3) := by decide +kernel
theorem dX0_isCarried_107 : decode cX0_isCarried 107 = .ok (.iconst 0, 1) := by decide +kernel
theorem dX0_isCarried_108 : decode cX0_isCarried 108 = .ok (.ireturn, 1) := by decide +kernel
theorem dX1_init_0 : decode cX1_init 0 = .ok (.aload_n 0, 1) := by decide +kernel
theorem dX1_init_1 : decode cX1_init 1 = .ok (.invokespecial 3, 3) := by decide +kernel
theorem dX1_init_4 : decode cX1_init 4 = .ok (.aload_n 0, 1) := by decide +kernel
theorem dX1_init_5 : decode cX1_init 5 = .ok (.bipush 32, 2) := by decide +kernel
theorem dX1_init_7 : decode cX1_init 7 = .ok (.newarray .int, 2) := by decide +kernel
theorem dX1_init_9 : decode cX1_init 9 = .ok (.putfield 9, 3) := by decide +kernel
theorem dX1_init_12 : decode cX1_init 12 = .ok (.return_, 1) := by decide +kernel
set_option maxRecDepth 20000 in
theorem ggX1_become_J6_bitCount_0f7a4 : GoodIn wsX1_become wsJ6_bitCount_0f7a4 := goodIn_r _ [9, 10, 11, 12] (by decide +kernel) (by decide +kernel)
set_option maxRecDepth 20000 in
theorem gX1_become_J6_bitCount_0f7a4 : GoodIn wsX1_become (va_wsS RX1 31 yJ6_bitCount_0f7a4 wsJ6_bitCount_0f7a4) := goodIn_app (goodIn_of _ (by decide +kernel)) ggX1_become_J6_bitCount_0f7a4
theorem dX1_become_0 : decode cX1_become 0 = .ok (.aload_n 0, 1) := by decide +kernel
theorem dX1_become_1 : decode cX1_become 1 = .ok (.iload_n 1, 1) := by decide +kernel
theorem dX1_become_2 : decode cX1_become 2 = .ok (.putfield 15, 3) := by decide +kernel
theorem dX1_become_5 : decode cX1_become 5 = .ok (.aload_n 0, 1) := by decide +kernel
theorem dX1_become_6 : decode cX1_become 6 = .ok (.iload_n 2, 1) := by decide +kernel
theorem dX1_become_7 : decode cX1_become 7 = .ok (.putfield 19, 3) := by decide +kernel
theorem dX1_become_10 : decode cX1_become 10 = .ok (.aload_n 0, 1) := by decide +kernel
theorem dX1_become_11 : decode cX1_become 11 = .ok (.iconst 1, 1) := by decide +kernel
theorem dX1_become_12 : decode cX1_become 12 = .ok (.iload_n 2, 1) := by decide +kernel
theorem dX1_become_13 : decode cX1_become 13 = .ok (.ishl, 1) := by decide +kernel
theorem dX1_become_14 : decode cX1_become 14 = .ok (.putfield 22, 3) := by decide +kernel
theorem dX1_become_17 : decode cX1_become 17 = .ok (.aload_n 0, 1) := by decide +kernel
theorem dX1_become_18 : decode cX1_become 18 = .ok (.iconst 0, 1) := by decide +kernel
theorem dX1_become_19 : decode cX1_become 19 = .ok (.putfield 25, 3) := by decide +kernel
theorem dX1_become_22 : decode cX1_become 22 = .ok (.getstatic 28, 3) := by decide +kernel
theorem dX1_become_25 : decode cX1_become 25 = .ok (.astore_n 3, 1) := by decide +kernel
theorem dX1_become_26 : decode cX1_become 26 = .ok (.aload_n 3, 1) := by decide +kernel
theorem dX1_become_27 : decode cX1_become 27 = .ok (.arraylength, 1) := by decide +kernel
theorem dX1_become_28 : decode cX1_become 28 = .ok (.istore 4, 2) := by decide +kernel
theorem dX1_become_30 : decode cX1_become 30 = .ok (.iconst 0, 1) := by decide +kernel
theorem dX1_become_31 : decode cX1_become 31 = .ok (.istore 5, 2) := by decide +kernel
theorem dX1_become_33 : decode cX1_become 33 = .ok (.iload 5, 2) := by decide +kernel
theorem dX1_become_35 : decode cX1_become 35 = .ok (.iload 4, 2) := by decide +kernel
theorem dX1_become_37 : decode cX1_become 37 = .ok (.if_icmp .ge 54, 3) := by decide +kernel
theorem dX1_become_40 : decode cX1_become 40 = .ok (.aload_n 3, 1) := by decide +kernel
theorem dX1_become_41 : decode cX1_become 41 = .ok (.iload 5, 2) := by decide +kernel
theorem dX1_become_43 : decode cX1_become 43 = .ok (.iaload, 1) := by decide +kernel
theorem dX1_become_44 : decode cX1_become 44 = .ok (.istore 6, 2) := by decide +kernel
theorem dX1_become_46 : decode cX1_become 46 = .ok (.iload 6, 2) := by decide +kernel
theorem dX1_become_48 : decode cX1_become 48 = .ok (.aload_n 0, 1) := by decide +kernel
theorem dX1_become_49 : decode cX1_become 49 = .ok (.getfield 22, 3) := by decide +kernel
theorem dX1_become_52 : decode cX1_become 52 = .ok (.if_icmp .ge 33, 3) := by decide +kernel
theorem dX1_become_55 : decode cX1_become 55 = .ok (.iload 6, 2) := by decide +kernel
theorem dX1_become_57 : decode cX1_become 57 = .ok (.invokestatic 31, 3) := by decide +kernel
theorem dX1_become_60 : decode cX1_become 60 = .ok (.iload_n 1, 1) := by decide +kernel
theorem dX1_become_61 : decode cX1_become 61 = .ok (.if_icmp .gt 24, 3) := by decide +kernel
theorem dX1_become_64 : decode cX1_become 64 = .ok (.aload_n 0, 1) := by decide +kernel
theorem dX1_become_65 : decode cX1_become 65 = .ok (.getfield 9, 3) := by decide +kernel
theorem dX1_become_68 : decode cX1_become 68 = .ok (.aload_n 0, 1) := by decide +kernel
theorem dX1_become_69 : decode cX1_become 69 = .ok (.getfield 25, 3) := by decide +kernel
theorem dX1_become_72 : decode cX1_become 72 = .ok (.iload 6, 2) := by decide +kernel
theorem dX1_become_74 : decode cX1_become 74 = .ok (.iastore, 1) := by decide +kernel
theorem dX1_become_75 : decode cX1_become 75 = .ok (.aload_n 0, 1) := by decide +kernel
theorem dX1_become_76 : decode cX1_become 76 = .ok (.dup, 1) := by decide +kernel
theorem dX1_become_77 : decode cX1_become 77 = .ok (.getfield 25, 3) := by decide +kernel
theorem dX1_become_80 : decode cX1_become 80 = .ok (.iconst 1, 1) := by decide +kernel
theorem dX1_become_81 : decode cX1_become 81 = .ok (.iadd, 1) := by decide +kernel
theorem dX1_become_82 : decode cX1_become 82 = .ok (.putfield 25, 3) := by decide +kernel
theorem dX1_become_85 : decode cX1_become 85 = .ok (.iinc 5 1, 3) := by decide +kernel
theorem dX1_become_88 : decode cX1_become 88 = .ok (.goto (-55), 3) := by decide +kernel
theorem dX1_become_91 : decode cX1_become 91 = .ok (.return_, 1) := by decide +kernel
theorem dX1_distance_0 : decode cX1_distance 0 = .ok (.iconst 1, 1) := by decide +kernel
theorem dX1_distance_1 : decode cX1_distance 1 = .ok (.aload_n 0, 1) := by decide +kernel
theorem dX1_distance_2 : decode cX1_distance 2 = .ok (.getfield 19, 3) := by decide +kernel
theorem dX1_distance_5 : decode cX1_distance 5 = .ok (.aload_n 0, 1) := by decide +kernel
theorem dX1_distance_6 : decode cX1_distance 6 = .ok (.getfield 15, 3) := by decide +kernel
theorem dX1_distance_9 : decode cX1_distance 9 = .ok (.isub, 1) := by decide +kernel
theorem dX1_distance_10 : decode cX1_distance 10 = .ok (.ishl, 1) := by decide +kernel
theorem dX1_distance_11 : decode cX1_distance 11 = .ok (.ireturn, 1) := by decide +kernel
set_option maxRecDepth 20000 in
theorem ggX1_allPlaces_X8_lowest : GoodIn wsX1_allPlaces wsX8_lowest := goodIn_r _ [4] (by decide +kernel) (by decide +kernel)
set_option maxRecDepth 20000 in
theorem gX1_allPlaces_X8_lowest_n37 : GoodIn wsX1_allPlaces (wsX8_lowest) := ggX1_allPlaces_X8_lowest
theorem dX1_allPlaces_0 : decode cX1_allPlaces 0 = .ok (.aload_n 0, 1) := by decide +kernel
theorem dX1_allPlaces_1 : decode cX1_allPlaces 1 = .ok (.getfield 22, 3) := by decide +kernel
theorem dX1_allPlaces_4 : decode cX1_allPlaces 4 = .ok (.invokestatic 37, 3) := by decide +kernel
theorem dX1_allPlaces_7 : decode cX1_allPlaces 7 = .ok (.ireturn, 1) := by decide +kernel
set_option maxRecDepth 20000 in
theorem ggX1_allTerms_X8_lowest : GoodIn wsX1_allTerms wsX8_lowest := goodIn_r _ [4] (by decide +kernel) (by decide +kernel)
set_option maxRecDepth 20000 in
theorem gX1_allTerms_X8_lowest_n37 : GoodIn wsX1_allTerms (wsX8_lowest) := ggX1_allTerms_X8_lowest
theorem dX1_allTerms_0 : decode cX1_allTerms 0 = .ok (.aload_n 0, 1) := by decide +kernel
theorem dX1_allTerms_1 : decode cX1_allTerms 1 = .ok (.getfield 25, 3) := by decide +kernel
theorem dX1_allTerms_4 : decode cX1_allTerms 4 = .ok (.invokestatic 37, 3) := by decide +kernel
theorem dX1_allTerms_7 : decode cX1_allTerms 7 = .ok (.ireturn, 1) := by decide +kernel
theorem dX1_hasPlace_0 : decode cX1_hasPlace 0 = .ok (.iload_n 1, 1) := by decide +kernel
theorem dX1_hasPlace_1 : decode cX1_hasPlace 1 = .ok (.ifCond .lt 15, 3) := by decide +kernel
theorem dX1_hasPlace_4 : decode cX1_hasPlace 4 = .ok (.iload_n 1, 1) := by decide +kernel
theorem dX1_hasPlace_5 : decode cX1_hasPlace 5 = .ok (.aload_n 0, 1) := by decide +kernel
theorem dX1_hasPlace_6 : decode cX1_hasPlace 6 = .ok (.getfield 22, 3) := by decide +kernel
theorem dX1_hasPlace_9 : decode cX1_hasPlace 9 = .ok (.if_icmp .ge 7, 3) := by decide +kernel
theorem dX1_hasPlace_12 : decode cX1_hasPlace 12 = .ok (.iconst 1, 1) := by decide +kernel
theorem dX1_hasPlace_13 : decode cX1_hasPlace 13 = .ok (.goto 4, 3) := by decide +kernel
theorem dX1_hasPlace_16 : decode cX1_hasPlace 16 = .ok (.iconst 0, 1) := by decide +kernel
theorem dX1_hasPlace_17 : decode cX1_hasPlace 17 = .ok (.ireturn, 1) := by decide +kernel
theorem dX1_canBeWalked_0 : decode cX1_canBeWalked 0 = .ok (.aload_n 0, 1) := by decide +kernel
theorem dX1_canBeWalked_1 : decode cX1_canBeWalked 1 = .ok (.getfield 25, 3) := by decide +kernel
theorem dX1_canBeWalked_4 : decode cX1_canBeWalked 4 = .ok (.bipush 16, 2) := by decide +kernel
theorem dX1_canBeWalked_6 : decode cX1_canBeWalked 6 = .ok (.if_icmp .gt 7, 3) := by decide +kernel
theorem dX1_canBeWalked_9 : decode cX1_canBeWalked 9 = .ok (.iconst 1, 1) := by decide +kernel
theorem dX1_canBeWalked_10 : decode cX1_canBeWalked 10 = .ok (.goto 4, 3) := by decide +kernel
theorem dX1_canBeWalked_13 : decode cX1_canBeWalked 13 = .ok (.iconst 0, 1) := by decide +kernel
theorem dX1_canBeWalked_14 : decode cX1_canBeWalked 14 = .ok (.ireturn, 1) := by decide +kernel
theorem dX1_summed_0 : decode cX1_summed 0 = .ok (.iload_n 1, 1) := by decide +kernel
theorem dX1_summed_1 : decode cX1_summed 1 = .ok (.istore_n 2, 1) := by decide +kernel
theorem dX1_summed_2 : decode cX1_summed 2 = .ok (.iconst 0, 1) := by decide +kernel
theorem dX1_summed_3 : decode cX1_summed 3 = .ok (.istore_n 3, 1) := by decide +kernel
theorem dX1_summed_4 : decode cX1_summed 4 = .ok (.iload_n 3, 1) := by decide +kernel
theorem dX1_summed_5 : decode cX1_summed 5 = .ok (.aload_n 0, 1) := by decide +kernel
theorem dX1_summed_6 : decode cX1_summed 6 = .ok (.getfield 19, 3) := by decide +kernel
theorem dX1_summed_9 : decode cX1_summed 9 = .ok (.if_icmp .ge 23, 3) := by decide +kernel
theorem dX1_summed_12 : decode cX1_summed 12 = .ok (.iload_n 2, 1) := by decide +kernel
theorem dX1_summed_13 : decode cX1_summed 13 = .ok (.iload_n 2, 1) := by decide +kernel
theorem dX1_summed_14 : decode cX1_summed 14 = .ok (.getstatic 40, 3) := by decide +kernel
theorem dX1_summed_17 : decode cX1_summed 17 = .ok (.iload_n 3, 1) := by decide +kernel
theorem dX1_summed_18 : decode cX1_summed 18 = .ok (.iaload, 1) := by decide +kernel
theorem dX1_summed_19 : decode cX1_summed 19 = .ok (.iand, 1) := by decide +kernel
theorem dX1_summed_20 : decode cX1_summed 20 = .ok (.iconst 1, 1) := by decide +kernel
theorem dX1_summed_21 : decode cX1_summed 21 = .ok (.iload_n 3, 1) := by decide +kernel
theorem dX1_summed_22 : decode cX1_summed 22 = .ok (.ishl, 1) := by decide +kernel
theorem dX1_summed_23 : decode cX1_summed 23 = .ok (.ishl, 1) := by decide +kernel
theorem dX1_summed_24 : decode cX1_summed 24 = .ok (.ixor, 1) := by decide +kernel
theorem dX1_summed_25 : decode cX1_summed 25 = .ok (.istore_n 2, 1) := by decide +kernel
theorem dX1_summed_26 : decode cX1_summed 26 = .ok (.iinc 3 1, 3) := by decide +kernel
theorem dX1_summed_29 : decode cX1_summed 29 = .ok (.goto (-25), 3) := by decide +kernel
theorem dX1_summed_32 : decode cX1_summed 32 = .ok (.iload_n 2, 1) := by decide +kernel
theorem dX1_summed_33 : decode cX1_summed 33 = .ok (.ireturn, 1) := by decide +kernel
set_option maxRecDepth 20000 in
theorem ggX1_wordOfTerm_X1_summed : GoodIn wsX1_wordOfTerm wsX1_summed := goodIn_r _ [6, 7, 8, 9, 10, 11, 12] (by decide +kernel) (by decide +kernel)
set_option maxRecDepth 20000 in
theorem gX1_wordOfTerm_X1_summed : GoodIn wsX1_wordOfTerm (wsV RX1 43 RX1 yX1_summed wsX1_summed) := goodIn_app (goodIn_of _ (by decide +kernel)) ggX1_wordOfTerm_X1_summed
theorem dX1_wordOfTerm_0 : decode cX1_wordOfTerm 0 = .ok (.aload_n 0, 1) := by decide +kernel
theorem dX1_wordOfTerm_1 : decode cX1_wordOfTerm 1 = .ok (.iconst 1, 1) := by decide +kernel
theorem dX1_wordOfTerm_2 : decode cX1_wordOfTerm 2 = .ok (.aload_n 0, 1) := by decide +kernel
theorem dX1_wordOfTerm_3 : decode cX1_wordOfTerm 3 = .ok (.getfield 9, 3) := by decide +kernel
theorem dX1_wordOfTerm_6 : decode cX1_wordOfTerm 6 = .ok (.iload_n 1, 1) := by decide +kernel
theorem dX1_wordOfTerm_7 : decode cX1_wordOfTerm 7 = .ok (.iaload, 1) := by decide +kernel
theorem dX1_wordOfTerm_8 : decode cX1_wordOfTerm 8 = .ok (.ishl, 1) := by decide +kernel
theorem dX1_wordOfTerm_9 : decode cX1_wordOfTerm 9 = .ok (.invokevirtual 43, 3) := by decide +kernel
theorem dX1_wordOfTerm_12 : decode cX1_wordOfTerm 12 = .ok (.ireturn, 1) := by decide +kernel
set_option maxRecDepth 20000 in
theorem ggX1_wordOf_X1_summed : GoodIn wsX1_wordOf wsX1_summed := goodIn_r _ [7, 8, 9, 10, 11, 12, 13] (by decide +kernel) (by decide +kernel)
set_option maxRecDepth 20000 in
theorem gX1_wordOf_X1_summed : GoodIn wsX1_wordOf (wsV RX1 43 RX1 yX1_summed wsX1_summed) := goodIn_app (goodIn_of _ (by decide +kernel)) ggX1_wordOf_X1_summed
theorem dX1_wordOf_0 : decode cX1_wordOf 0 = .ok (.iconst 0, 1) := by decide +kernel
theorem dX1_wordOf_1 : decode cX1_wordOf 1 = .ok (.istore_n 2, 1) := by decide +kernel
theorem dX1_wordOf_2 : decode cX1_wordOf 2 = .ok (.iconst 0, 1) := by decide +kernel
theorem dX1_wordOf_3 : decode cX1_wordOf 3 = .ok (.istore_n 3, 1) := by decide +kernel
theorem dX1_wordOf_4 : decode cX1_wordOf 4 = .ok (.iload_n 3, 1) := by decide +kernel
theorem dX1_wordOf_5 : decode cX1_wordOf 5 = .ok (.aload_n 0, 1) := by decide +kernel
theorem dX1_wordOf_6 : decode cX1_wordOf 6 = .ok (.getfield 25, 3) := by decide +kernel
theorem dX1_wordOf_9 : decode cX1_wordOf 9 = .ok (.if_icmp .ge 24, 3) := by decide +kernel
theorem dX1_wordOf_12 : decode cX1_wordOf 12 = .ok (.iload_n 2, 1) := by decide +kernel
theorem dX1_wordOf_13 : decode cX1_wordOf 13 = .ok (.iload_n 1, 1) := by decide +kernel
theorem dX1_wordOf_14 : decode cX1_wordOf 14 = .ok (.iload_n 3, 1) := by decide +kernel
theorem dX1_wordOf_15 : decode cX1_wordOf 15 = .ok (.iushr, 1) := by decide +kernel
theorem dX1_wordOf_16 : decode cX1_wordOf 16 = .ok (.iconst 1, 1) := by decide +kernel
theorem dX1_wordOf_17 : decode cX1_wordOf 17 = .ok (.iand, 1) := by decide +kernel
theorem dX1_wordOf_18 : decode cX1_wordOf 18 = .ok (.aload_n 0, 1) := by decide +kernel
theorem dX1_wordOf_19 : decode cX1_wordOf 19 = .ok (.getfield 9, 3) := by decide +kernel
theorem dX1_wordOf_22 : decode cX1_wordOf 22 = .ok (.iload_n 3, 1) := by decide +kernel
theorem dX1_wordOf_23 : decode cX1_wordOf 23 = .ok (.iaload, 1) := by decide +kernel
theorem dX1_wordOf_24 : decode cX1_wordOf 24 = .ok (.ishl, 1) := by decide +kernel
theorem dX1_wordOf_25 : decode cX1_wordOf 25 = .ok (.ior, 1) := by decide +kernel
theorem dX1_wordOf_26 : decode cX1_wordOf 26 = .ok (.istore_n 2, 1) := by decide +kernel
theorem dX1_wordOf_27 : decode cX1_wordOf 27 = .ok (.iinc 3 1, 3) := by decide +kernel
theorem dX1_wordOf_30 : decode cX1_wordOf 30 = .ok (.goto (-26), 3) := by decide +kernel
theorem dX1_wordOf_33 : decode cX1_wordOf 33 = .ok (.aload_n 0, 1) := by decide +kernel
theorem dX1_wordOf_34 : decode cX1_wordOf 34 = .ok (.iload_n 2, 1) := by decide +kernel
theorem dX1_wordOf_35 : decode cX1_wordOf 35 = .ok (.invokevirtual 43, 3) := by decide +kernel
theorem dX1_wordOf_38 : decode cX1_wordOf 38 = .ok (.ireturn, 1) := by decide +kernel
theorem dX1_termPlaces_0 : decode cX1_termPlaces 0 = .ok (.iconst 0, 1) := by decide +kernel
theorem dX1_termPlaces_1 : decode cX1_termPlaces 1 = .ok (.istore_n 1, 1) := by decide +kernel
theorem dX1_termPlaces_2 : decode cX1_termPlaces 2 = .ok (.iconst 0, 1) := by decide +kernel
theorem dX1_termPlaces_3 : decode cX1_termPlaces 3 = .ok (.istore_n 2, 1) := by decide +kernel
theorem dX1_termPlaces_4 : decode cX1_termPlaces 4 = .ok (.iload_n 2, 1) := by decide +kernel
theorem dX1_termPlaces_5 : decode cX1_termPlaces 5 = .ok (.aload_n 0, 1) := by decide +kernel
theorem dX1_termPlaces_6 : decode cX1_termPlaces 6 = .ok (.getfield 25, 3) := by decide +kernel
theorem dX1_termPlaces_9 : decode cX1_termPlaces 9 = .ok (.if_icmp .ge 20, 3) := by decide +kernel
theorem dX1_termPlaces_12 : decode cX1_termPlaces 12 = .ok (.iload_n 1, 1) := by decide +kernel
theorem dX1_termPlaces_13 : decode cX1_termPlaces 13 = .ok (.iconst 1, 1) := by decide +kernel
theorem dX1_termPlaces_14 : decode cX1_termPlaces 14 = .ok (.aload_n 0, 1) := by decide +kernel
theorem dX1_termPlaces_15 : decode cX1_termPlaces 15 = .ok (.getfield 9, 3) := by decide +kernel
theorem dX1_termPlaces_18 : decode cX1_termPlaces 18 = .ok (.iload_n 2, 1) := by decide +kernel
theorem dX1_termPlaces_19 : decode cX1_termPlaces 19 = .ok (.iaload, 1) := by decide +kernel
theorem dX1_termPlaces_20 : decode cX1_termPlaces 20 = .ok (.ishl, 1) := by decide +kernel
theorem dX1_termPlaces_21 : decode cX1_termPlaces 21 = .ok (.ior, 1) := by decide +kernel
theorem dX1_termPlaces_22 : decode cX1_termPlaces 22 = .ok (.istore_n 1, 1) := by decide +kernel
theorem dX1_termPlaces_23 : decode cX1_termPlaces 23 = .ok (.iinc 2 1, 3) := by decide +kernel
theorem dX1_termPlaces_26 : decode cX1_termPlaces 26 = .ok (.goto (-22), 3) := by decide +kernel
theorem dX1_termPlaces_29 : decode cX1_termPlaces 29 = .ok (.iload_n 1, 1) := by decide +kernel
theorem dX1_termPlaces_30 : decode cX1_termPlaces 30 = .ok (.ireturn, 1) := by decide +kernel
theorem dX1_setAt_0 : decode cX1_setAt 0 = .ok (.iconst 0, 1) := by decide +kernel
theorem dX1_setAt_1 : decode cX1_setAt 1 = .ok (.istore_n 2, 1) := by decide +kernel
theorem dX1_setAt_2 : decode cX1_setAt 2 = .ok (.getstatic 28, 3) := by decide +kernel
theorem dX1_setAt_5 : decode cX1_setAt 5 = .ok (.astore_n 3, 1) := by decide +kernel
theorem dX1_setAt_6 : decode cX1_setAt 6 = .ok (.aload_n 3, 1) := by decide +kernel
theorem dX1_setAt_7 : decode cX1_setAt 7 = .ok (.arraylength, 1) := by decide +kernel
theorem dX1_setAt_8 : decode cX1_setAt 8 = .ok (.istore 4, 2) := by decide +kernel
theorem dX1_setAt_10 : decode cX1_setAt 10 = .ok (.iconst 0, 1) := by decide +kernel
theorem dX1_setAt_11 : decode cX1_setAt 11 = .ok (.istore 5, 2) := by decide +kernel
theorem dX1_setAt_13 : decode cX1_setAt 13 = .ok (.iload 5, 2) := by decide +kernel
theorem dX1_setAt_15 : decode cX1_setAt 15 = .ok (.iload 4, 2) := by decide +kernel
theorem dX1_setAt_17 : decode cX1_setAt 17 = .ok (.if_icmp .ge 35, 3) := by decide +kernel
theorem dX1_setAt_20 : decode cX1_setAt 20 = .ok (.aload_n 3, 1) := by decide +kernel
theorem dX1_setAt_21 : decode cX1_setAt 21 = .ok (.iload 5, 2) := by decide +kernel
theorem dX1_setAt_23 : decode cX1_setAt 23 = .ok (.iaload, 1) := by decide +kernel
theorem dX1_setAt_24 : decode cX1_setAt 24 = .ok (.istore 6, 2) := by decide +kernel
theorem dX1_setAt_26 : decode cX1_setAt 26 = .ok (.iload 6, 2) := by decide +kernel
theorem dX1_setAt_28 : decode cX1_setAt 28 = .ok (.aload_n 0, 1) := by decide +kernel
theorem dX1_setAt_29 : decode cX1_setAt 29 = .ok (.getfield 22, 3) := by decide +kernel
theorem dX1_setAt_32 : decode cX1_setAt 32 = .ok (.if_icmp .ge 14, 3) := by decide +kernel
theorem dX1_setAt_35 : decode cX1_setAt 35 = .ok (.iload_n 2, 1) := by decide +kernel
theorem dX1_setAt_36 : decode cX1_setAt 36 = .ok (.iload_n 1, 1) := by decide +kernel
theorem dX1_setAt_37 : decode cX1_setAt 37 = .ok (.if_icmp .ne 6, 3) := by decide +kernel
theorem dX1_setAt_40 : decode cX1_setAt 40 = .ok (.iload 6, 2) := by decide +kernel
theorem dX1_setAt_42 : decode cX1_setAt 42 = .ok (.ireturn, 1) := by decide +kernel
theorem dX1_setAt_43 : decode cX1_setAt 43 = .ok (.iinc 2 1, 3) := by decide +kernel
theorem dX1_setAt_46 : decode cX1_setAt 46 = .ok (.iinc 5 1, 3) := by decide +kernel
theorem dX1_setAt_49 : decode cX1_setAt 49 = .ok (.goto (-36), 3) := by decide +kernel
theorem dX1_setAt_52 : decode cX1_setAt 52 = .ok (.iconst 0, 1) := by decide +kernel
theorem dX1_setAt_53 : decode cX1_setAt 53 = .ok (.ireturn, 1) := by decide +kernel
theorem dX2_init_0 : decode cX2_init 0 = .ok (.aload_n 0, 1) := by decide +kernel
theorem dX2_init_1 : decode cX2_init 1 = .ok (.invokespecial 3, 3) := by decide +kernel
theorem dX2_init_4 : decode cX2_init 4 = .ok (.aload_n 0, 1) := by decide +kernel
theorem dX2_init_5 : decode cX2_init 5 = .ok (.bipush 6, 2) := by decide +kernel
theorem dX2_init_7 : decode cX2_init 7 = .ok (.bipush 32, 2) := by decide +kernel
theorem dX2_init_9 : decode cX2_init 9 = .ok (.multianewarray 9 2, 4) := by decide +kernel
theorem dX2_init_13 : decode cX2_init 13 = .ok (.putfield 11, 3) := by decide +kernel
theorem dX2_init_16 : decode cX2_init 16 = .ok (.return_, 1) := by decide +kernel
set_option maxRecDepth 20000 in
theorem ggX2_solve_X2_wordFor : GoodIn wsX2_solve wsX2_wordFor := goodIn_r _ [13, 14, 15, 16, 12, 17, 1, 18, 19, 20, 21, 22, 23, 24, 25, 26, 27, 28, 29, 30, 31, 32, 33, 34, 35, 9, 10, 11, 36, 37, 38, 39, 40] (by decide +kernel) (by decide +kernel)
set_option maxRecDepth 20000 in
theorem gX2_solve_X2_wordFor : GoodIn wsX2_solve (wsV RX2 34 RX2 yX2_wordFor wsX2_wordFor) := goodIn_app (goodIn_of _ (by decide +kernel)) ggX2_solve_X2_wordFor
theorem dX2_solve_0 : decode cX2_solve 0 = .ok (.aload_n 2, 1) := by decide +kernel
theorem dX2_solve_1 : decode cX2_solve 1 = .ok (.iconst 0, 1) := by decide +kernel
theorem dX2_solve_2 : decode cX2_solve 2 = .ok (.aload_n 0, 1) := by decide +kernel
theorem dX2_solve_3 : decode cX2_solve 3 = .ok (.getfield 11, 3) := by decide +kernel
theorem dX2_solve_6 : decode cX2_solve 6 = .ok (.aload_n 1, 1) := by decide +kernel
theorem dX2_solve_7 : decode cX2_solve 7 = .ok (.getfield 16, 3) := by decide +kernel
theorem dX2_solve_10 : decode cX2_solve 10 = .ok (.aaload, 1) := by decide +kernel
theorem dX2_solve_11 : decode cX2_solve 11 = .ok (.iconst 0, 1) := by decide +kernel
theorem dX2_solve_12 : decode cX2_solve 12 = .ok (.aload_n 1, 1) := by decide +kernel
theorem dX2_solve_13 : decode cX2_solve 13 = .ok (.getfield 22, 3) := by decide +kernel
theorem dX2_solve_16 : decode cX2_solve 16 = .ok (.invokestatic 25, 3) := by decide +kernel
theorem dX2_solve_19 : decode cX2_solve 19 = .ok (.aload_n 0, 1) := by decide +kernel
theorem dX2_solve_20 : decode cX2_solve 20 = .ok (.aload_n 1, 1) := by decide +kernel
theorem dX2_solve_21 : decode cX2_solve 21 = .ok (.getfield 31, 3) := by decide +kernel
theorem dX2_solve_24 : decode cX2_solve 24 = .ok (.aload_n 1, 1) := by decide +kernel
theorem dX2_solve_25 : decode cX2_solve 25 = .ok (.getfield 16, 3) := by decide +kernel
theorem dX2_solve_28 : decode cX2_solve 28 = .ok (.invokevirtual 34, 3) := by decide +kernel
theorem dX2_solve_31 : decode cX2_solve 31 = .ok (.ireturn, 1) := by decide +kernel
set_option maxRecDepth 20000 in
theorem ggX2_wordFor_X2_allAlike : GoodIn wsX2_wordFor wsX2_allAlike := goodIn_r _ [5, 6, 7, 8, 9, 32] (by decide +kernel) (by decide +kernel)
set_option maxRecDepth 20000 in
theorem gX2_wordFor_X2_allAlike : GoodIn wsX2_wordFor (wsV RX2 38 RX2 yX2_allAlike wsX2_allAlike) := goodIn_app (goodIn_of _ (by decide +kernel)) ggX2_wordFor_X2_allAlike
set_option maxRecDepth 20000 in
theorem ggX2_wordFor_X2_eachAlone : GoodIn wsX2_wordFor wsX2_eachAlone := goodIn_r _ [13, 6, 32] (by decide +kernel) (by decide +kernel)
set_option maxRecDepth 20000 in
theorem gX2_wordFor_X2_eachAlone : GoodIn wsX2_wordFor (wsV RX2 42 RX2 yX2_eachAlone wsX2_eachAlone) := goodIn_app (goodIn_of _ (by decide +kernel)) ggX2_wordFor_X2_eachAlone
set_option maxRecDepth 20000 in
theorem ggX2_wordFor_X2_putLesser : GoodIn wsX2_wordFor wsX2_putLesser := goodIn_r _ [17, 6, 18, 19, 20, 21, 22, 23, 24, 32] (by decide +kernel) (by decide +kernel)
set_option maxRecDepth 20000 in
theorem gX2_wordFor_X2_putLesser : GoodIn wsX2_wordFor (wsV RX2 45 RX2 yX2_putLesser wsX2_putLesser) := goodIn_app (goodIn_of _ (by decide +kernel)) ggX2_wordFor_X2_putLesser
set_option maxRecDepth 20000 in
theorem ggX2_wordFor_X2_wordFor : GoodIn wsX2_wordFor wsX2_wordFor := goodIn_r _ [0, 1, 2, 3, 4, 5, 6, 7, 8, 9, 10, 11, 12, 13, 14, 15, 16, 17, 18, 19, 20, 21, 22, 23, 24, 25, 26, 27, 28, 29, 30, 31, 32] (by decide +kernel) (by decide +kernel)
set_option maxRecDepth 20000 in
theorem gX2_wordFor_X2_wordFor : GoodIn wsX2_wordFor (wsV RX2 34 RX2 yX2_wordFor wsX2_wordFor) := goodIn_app (goodIn_of _ (by decide +kernel)) ggX2_wordFor_X2_wordFor
set_option maxRecDepth 20000 in
theorem ggX2_wordFor_X2_putTogether : GoodIn wsX2_wordFor wsX2_putTogether := goodIn_r _ [31, 6, 32] (by decide +kernel) (by decide +kernel)
set_option maxRecDepth 20000 in
theorem gX2_wordFor_X2_putTogether : GoodIn wsX2_wordFor (wsV RX2 49 RX2 yX2_putTogether wsX2_putTogether) := goodIn_app (goodIn_of _ (by decide +kernel)) ggX2_wordFor_X2_putTogether
theorem dX2_wordFor_0 : decode cX2_wordFor 0 = .ok (.iload_n 1, 1) := by decide +kernel
theorem dX2_wordFor_1 : decode cX2_wordFor 1 = .ok (.ifCond .gt 9, 3) := by decide +kernel
theorem dX2_wordFor_4 : decode cX2_wordFor 4 = .ok (.aload_n 0, 1) := by decide +kernel
theorem dX2_wordFor_5 : decode cX2_wordFor 5 = .ok (.iload_n 2, 1) := by decide +kernel
theorem dX2_wordFor_6 : decode cX2_wordFor 6 = .ok (.invokevirtual 38, 3) := by decide +kernel
theorem dX2_wordFor_9 : decode cX2_wordFor 9 = .ok (.ireturn, 1) := by decide +kernel
theorem dX2_wordFor_10 : decode cX2_wordFor 10 = .ok (.iload_n 1, 1) := by decide +kernel
theorem dX2_wordFor_11 : decode cX2_wordFor 11 = .ok (.iload_n 2, 1) := by decide +kernel
theorem dX2_wordFor_12 : decode cX2_wordFor 12 = .ok (.if_icmp .lt 9, 3) := by decide +kernel
theorem dX2_wordFor_15 : decode cX2_wordFor 15 = .ok (.aload_n 0, 1) := by decide +kernel
theorem dX2_wordFor_16 : decode cX2_wordFor 16 = .ok (.iload_n 2, 1) := by decide +kernel
theorem dX2_wordFor_17 : decode cX2_wordFor 17 = .ok (.invokevirtual 42, 3) := by decide +kernel
theorem dX2_wordFor_20 : decode cX2_wordFor 20 = .ok (.ireturn, 1) := by decide +kernel
theorem dX2_wordFor_21 : decode cX2_wordFor 21 = .ok (.aload_n 0, 1) := by decide +kernel
theorem dX2_wordFor_22 : decode cX2_wordFor 22 = .ok (.iload_n 2, 1) := by decide +kernel
theorem dX2_wordFor_23 : decode cX2_wordFor 23 = .ok (.invokevirtual 45, 3) := by decide +kernel
theorem dX2_wordFor_26 : decode cX2_wordFor 26 = .ok (.aload_n 0, 1) := by decide +kernel
theorem dX2_wordFor_27 : decode cX2_wordFor 27 = .ok (.iload_n 1, 1) := by decide +kernel
theorem dX2_wordFor_28 : decode cX2_wordFor 28 = .ok (.iconst 1, 1) := by decide +kernel
theorem dX2_wordFor_29 : decode cX2_wordFor 29 = .ok (.isub, 1) := by decide +kernel
theorem dX2_wordFor_30 : decode cX2_wordFor 30 = .ok (.iload_n 2, 1) := by decide +kernel
theorem dX2_wordFor_31 : decode cX2_wordFor 31 = .ok (.iconst 1, 1) := by decide +kernel
theorem dX2_wordFor_32 : decode cX2_wordFor 32 = .ok (.isub, 1) := by decide +kernel
theorem dX2_wordFor_33 : decode cX2_wordFor 33 = .ok (.invokevirtual 34, 3) := by decide +kernel
theorem dX2_wordFor_36 : decode cX2_wordFor 36 = .ok (.istore_n 3, 1) := by decide +kernel
theorem dX2_wordFor_37 : decode cX2_wordFor 37 = .ok (.aload_n 0, 1) := by decide +kernel
theorem dX2_wordFor_38 : decode cX2_wordFor 38 = .ok (.iload_n 2, 1) := by decide +kernel
theorem dX2_wordFor_39 : decode cX2_wordFor 39 = .ok (.iload_n 3, 1) := by decide +kernel
theorem dX2_wordFor_40 : decode cX2_wordFor 40 = .ok (.invokevirtual 49, 3) := by decide +kernel
theorem dX2_wordFor_43 : decode cX2_wordFor 43 = .ok (.aload_n 0, 1) := by decide +kernel
theorem dX2_wordFor_44 : decode cX2_wordFor 44 = .ok (.iload_n 1, 1) := by decide +kernel
theorem dX2_wordFor_45 : decode cX2_wordFor 45 = .ok (.iload_n 2, 1) := by decide +kernel
theorem dX2_wordFor_46 : decode cX2_wordFor 46 = .ok (.iconst 1, 1) := by decide +kernel
theorem dX2_wordFor_47 : decode cX2_wordFor 47 = .ok (.isub, 1) := by decide +kernel
theorem dX2_wordFor_48 : decode cX2_wordFor 48 = .ok (.invokevirtual 34, 3) := by decide +kernel
theorem dX2_wordFor_51 : decode cX2_wordFor 51 = .ok (.istore 4, 2) := by decide +kernel
theorem dX2_wordFor_53 : decode cX2_wordFor 53 = .ok (.iload 4, 2) := by decide +kernel
theorem dX2_wordFor_55 : decode cX2_wordFor 55 = .ok (.iload 4, 2) := by decide +kernel
theorem dX2_wordFor_57 : decode cX2_wordFor 57 = .ok (.iload_n 3, 1) := by decide +kernel
theorem dX2_wordFor_58 : decode cX2_wordFor 58 = .ok (.ixor, 1) := by decide +kernel
theorem dX2_wordFor_59 : decode cX2_wordFor 59 = .ok (.iconst 1, 1) := by decide +kernel
theorem dX2_wordFor_60 : decode cX2_wordFor 60 = .ok (.iload_n 2, 1) := by decide +kernel
theorem dX2_wordFor_61 : decode cX2_wordFor 61 = .ok (.iconst 1, 1) := by decide +kernel
theorem dX2_wordFor_62 : decode cX2_wordFor 62 = .ok (.isub, 1) := by decide +kernel
theorem dX2_wordFor_63 : decode cX2_wordFor 63 = .ok (.ishl, 1) := by decide +kernel
theorem dX2_wordFor_64 : decode cX2_wordFor 64 = .ok (.ishl, 1) := by decide +kernel
theorem dX2_wordFor_65 : decode cX2_wordFor 65 = .ok (.ior, 1) := by decide +kernel
theorem dX2_wordFor_66 : decode cX2_wordFor 66 = .ok (.ireturn, 1) := by decide +kernel
set_option maxRecDepth 20000 in
theorem ggX2_allAlike_X8_lowest : GoodIn wsX2_allAlike wsX8_lowest := goodIn_r _ [4] (by decide +kernel) (by decide +kernel)
set_option maxRecDepth 20000 in
theorem gX2_allAlike_X8_lowest_n53 : GoodIn wsX2_allAlike (wsX8_lowest) := ggX2_allAlike_X8_lowest
theorem dX2_allAlike_0 : decode cX2_allAlike 0 = .ok (.iconst 1, 1) := by decide +kernel
theorem dX2_allAlike_1 : decode cX2_allAlike 1 = .ok (.iload_n 1, 1) := by decide +kernel
theorem dX2_allAlike_2 : decode cX2_allAlike 2 = .ok (.ishl, 1) := by decide +kernel
theorem dX2_allAlike_3 : decode cX2_allAlike 3 = .ok (.istore_n 2, 1) := by decide +kernel
theorem dX2_allAlike_4 : decode cX2_allAlike 4 = .ok (.iconst 0, 1) := by decide +kernel
theorem dX2_allAlike_5 : decode cX2_allAlike 5 = .ok (.istore_n 3, 1) := by decide +kernel
theorem dX2_allAlike_6 : decode cX2_allAlike 6 = .ok (.iconst 0, 1) := by decide +kernel
theorem dX2_allAlike_7 : decode cX2_allAlike 7 = .ok (.istore 4, 2) := by decide +kernel
theorem dX2_allAlike_9 : decode cX2_allAlike 9 = .ok (.iload 4, 2) := by decide +kernel
theorem dX2_allAlike_11 : decode cX2_allAlike 11 = .ok (.iload_n 2, 1) := by decide +kernel
theorem dX2_allAlike_12 : decode cX2_allAlike 12 = .ok (.if_icmp .ge 21, 3) := by decide +kernel
theorem dX2_allAlike_15 : decode cX2_allAlike 15 = .ok (.iload_n 3, 1) := by decide +kernel
theorem dX2_allAlike_16 : decode cX2_allAlike 16 = .ok (.aload_n 0, 1) := by decide +kernel
theorem dX2_allAlike_17 : decode cX2_allAlike 17 = .ok (.getfield 11, 3) := by decide +kernel
theorem dX2_allAlike_20 : decode cX2_allAlike 20 = .ok (.iload_n 1, 1) := by decide +kernel
theorem dX2_allAlike_21 : decode cX2_allAlike 21 = .ok (.aaload, 1) := by decide +kernel
theorem dX2_allAlike_22 : decode cX2_allAlike 22 = .ok (.iload 4, 2) := by decide +kernel
theorem dX2_allAlike_24 : decode cX2_allAlike 24 = .ok (.iaload, 1) := by decide +kernel
theorem dX2_allAlike_25 : decode cX2_allAlike 25 = .ok (.iadd, 1) := by decide +kernel
theorem dX2_allAlike_26 : decode cX2_allAlike 26 = .ok (.istore_n 3, 1) := by decide +kernel
theorem dX2_allAlike_27 : decode cX2_allAlike 27 = .ok (.iinc 4 1, 3) := by decide +kernel
theorem dX2_allAlike_30 : decode cX2_allAlike 30 = .ok (.goto (-21), 3) := by decide +kernel
theorem dX2_allAlike_33 : decode cX2_allAlike 33 = .ok (.iload_n 3, 1) := by decide +kernel
theorem dX2_allAlike_34 : decode cX2_allAlike 34 = .ok (.ifCond .lt 7, 3) := by decide +kernel
theorem dX2_allAlike_37 : decode cX2_allAlike 37 = .ok (.iconst 0, 1) := by decide +kernel
theorem dX2_allAlike_38 : decode cX2_allAlike 38 = .ok (.goto 7, 3) := by decide +kernel
theorem dX2_allAlike_41 : decode cX2_allAlike 41 = .ok (.iload_n 2, 1) := by decide +kernel
theorem dX2_allAlike_42 : decode cX2_allAlike 42 = .ok (.invokestatic 53, 3) := by decide +kernel
theorem dX2_allAlike_45 : decode cX2_allAlike 45 = .ok (.ireturn, 1) := by decide +kernel
theorem dX2_eachAlone_0 : decode cX2_eachAlone 0 = .ok (.iconst 0, 1) := by decide +kernel
theorem dX2_eachAlone_1 : decode cX2_eachAlone 1 = .ok (.istore_n 2, 1) := by decide +kernel
theorem dX2_eachAlone_2 : decode cX2_eachAlone 2 = .ok (.iconst 0, 1) := by decide +kernel
theorem dX2_eachAlone_3 : decode cX2_eachAlone 3 = .ok (.istore_n 3, 1) := by decide +kernel
theorem dX2_eachAlone_4 : decode cX2_eachAlone 4 = .ok (.iload_n 3, 1) := by decide +kernel
theorem dX2_eachAlone_5 : decode cX2_eachAlone 5 = .ok (.iconst 1, 1) := by decide +kernel
theorem dX2_eachAlone_6 : decode cX2_eachAlone 6 = .ok (.iload_n 1, 1) := by decide +kernel
theorem dX2_eachAlone_7 : decode cX2_eachAlone 7 = .ok (.ishl, 1) := by decide +kernel
theorem dX2_eachAlone_8 : decode cX2_eachAlone 8 = .ok (.if_icmp .ge 26, 3) := by decide +kernel
theorem dX2_eachAlone_11 : decode cX2_eachAlone 11 = .ok (.aload_n 0, 1) := by decide +kernel
theorem dX2_eachAlone_12 : decode cX2_eachAlone 12 = .ok (.getfield 11, 3) := by decide +kernel
theorem dX2_eachAlone_15 : decode cX2_eachAlone 15 = .ok (.iload_n 1, 1) := by decide +kernel
theorem dX2_eachAlone_16 : decode cX2_eachAlone 16 = .ok (.aaload, 1) := by decide +kernel
theorem dX2_eachAlone_17 : decode cX2_eachAlone 17 = .ok (.iload_n 3, 1) := by decide +kernel
theorem dX2_eachAlone_18 : decode cX2_eachAlone 18 = .ok (.iaload, 1) := by decide +kernel
theorem dX2_eachAlone_19 : decode cX2_eachAlone 19 = .ok (.ifCond .ge 9, 3) := by decide +kernel
theorem dX2_eachAlone_22 : decode cX2_eachAlone 22 = .ok (.iload_n 2, 1) := by decide +kernel
theorem dX2_eachAlone_23 : decode cX2_eachAlone 23 = .ok (.iconst 1, 1) := by decide +kernel
theorem dX2_eachAlone_24 : decode cX2_eachAlone 24 = .ok (.iload_n 3, 1) := by decide +kernel
theorem dX2_eachAlone_25 : decode cX2_eachAlone 25 = .ok (.ishl, 1) := by decide +kernel
theorem dX2_eachAlone_26 : decode cX2_eachAlone 26 = .ok (.ior, 1) := by decide +kernel
theorem dX2_eachAlone_27 : decode cX2_eachAlone 27 = .ok (.istore_n 2, 1) := by decide +kernel
theorem dX2_eachAlone_28 : decode cX2_eachAlone 28 = .ok (.iinc 3 1, 3) := by decide +kernel
theorem dX2_eachAlone_31 : decode cX2_eachAlone 31 = .ok (.goto (-27), 3) := by decide +kernel
theorem dX2_eachAlone_34 : decode cX2_eachAlone 34 = .ok (.iload_n 2, 1) := by decide +kernel
theorem dX2_eachAlone_35 : decode cX2_eachAlone 35 = .ok (.ireturn, 1) := by decide +kernel
theorem dX2_putLesser_0 : decode cX2_putLesser 0 = .ok (.iconst 1, 1) := by decide +kernel
theorem dX2_putLesser_1 : decode cX2_putLesser 1 = .ok (.iload_n 1, 1) := by decide +kernel
theorem dX2_putLesser_2 : decode cX2_putLesser 2 = .ok (.iconst 1, 1) := by decide +kernel
theorem dX2_putLesser_3 : decode cX2_putLesser 3 = .ok (.isub, 1) := by decide +kernel
theorem dX2_putLesser_4 : decode cX2_putLesser 4 = .ok (.ishl, 1) := by decide +kernel
theorem dX2_putLesser_5 : decode cX2_putLesser 5 = .ok (.istore_n 2, 1) := by decide +kernel
theorem dX2_putLesser_6 : decode cX2_putLesser 6 = .ok (.iconst 0, 1) := by decide +kernel
theorem dX2_putLesser_7 : decode cX2_putLesser 7 = .ok (.istore_n 3, 1) := by decide +kernel
theorem dX2_putLesser_8 : decode cX2_putLesser 8 = .ok (.iload_n 3, 1) := by decide +kernel
theorem dX2_putLesser_9 : decode cX2_putLesser 9 = .ok (.iload_n 2, 1) := by decide +kernel
theorem dX2_putLesser_10 : decode cX2_putLesser 10 = .ok (.if_icmp .ge 87, 3) := by decide +kernel
theorem dX2_putLesser_13 : decode cX2_putLesser 13 = .ok (.aload_n 0, 1) := by decide +kernel
theorem dX2_putLesser_14 : decode cX2_putLesser 14 = .ok (.getfield 11, 3) := by decide +kernel
theorem dX2_putLesser_17 : decode cX2_putLesser 17 = .ok (.iload_n 1, 1) := by decide +kernel
theorem dX2_putLesser_18 : decode cX2_putLesser 18 = .ok (.aaload, 1) := by decide +kernel
theorem dX2_putLesser_19 : decode cX2_putLesser 19 = .ok (.iload_n 3, 1) := by decide +kernel
theorem dX2_putLesser_20 : decode cX2_putLesser 20 = .ok (.iaload, 1) := by decide +kernel
theorem dX2_putLesser_21 : decode cX2_putLesser 21 = .ok (.istore 4, 2) := by decide +kernel
theorem dX2_putLesser_23 : decode cX2_putLesser 23 = .ok (.aload_n 0, 1) := by decide +kernel
theorem dX2_putLesser_24 : decode cX2_putLesser 24 = .ok (.getfield 11, 3) := by decide +kernel
theorem dX2_putLesser_27 : decode cX2_putLesser 27 = .ok (.iload_n 1, 1) := by decide +kernel
theorem dX2_putLesser_28 : decode cX2_putLesser 28 = .ok (.aaload, 1) := by decide +kernel
theorem dX2_putLesser_29 : decode cX2_putLesser 29 = .ok (.iload_n 3, 1) := by decide +kernel
theorem dX2_putLesser_30 : decode cX2_putLesser 30 = .ok (.iload_n 2, 1) := by decide +kernel
theorem dX2_putLesser_31 : decode cX2_putLesser 31 = .ok (.iadd, 1) := by decide +kernel
theorem dX2_putLesser_32 : decode cX2_putLesser 32 = .ok (.iaload, 1) := by decide +kernel
theorem dX2_putLesser_33 : decode cX2_putLesser 33 = .ok (.istore 5, 2) := by decide +kernel
theorem dX2_putLesser_35 : decode cX2_putLesser 35 = .ok (.iload 4, 2) := by decide +kernel
theorem dX2_putLesser_37 : decode cX2_putLesser 37 = .ok (.invokestatic 56, 3) := by decide +kernel
theorem dX2_putLesser_40 : decode cX2_putLesser 40 = .ok (.iload 5, 2) := by decide +kernel
theorem dX2_putLesser_42 : decode cX2_putLesser 42 = .ok (.invokestatic 56, 3) := by decide +kernel
theorem dX2_putLesser_45 : decode cX2_putLesser 45 = .ok (.invokestatic 61, 3) := by decide +kernel
theorem dX2_putLesser_48 : decode cX2_putLesser 48 = .ok (.istore 6, 2) := by decide +kernel
theorem dX2_putLesser_50 : decode cX2_putLesser 50 = .ok (.aload_n 0, 1) := by decide +kernel
theorem dX2_putLesser_51 : decode cX2_putLesser 51 = .ok (.getfield 11, 3) := by decide +kernel
theorem dX2_putLesser_54 : decode cX2_putLesser 54 = .ok (.iload_n 1, 1) := by decide +kernel
theorem dX2_putLesser_55 : decode cX2_putLesser 55 = .ok (.iconst 1, 1) := by decide +kernel
theorem dX2_putLesser_56 : decode cX2_putLesser 56 = .ok (.isub, 1) := by decide +kernel
theorem dX2_putLesser_57 : decode cX2_putLesser 57 = .ok (.aaload, 1) := by decide +kernel
theorem dX2_putLesser_58 : decode cX2_putLesser 58 = .ok (.iload_n 3, 1) := by decide +kernel
theorem dX2_putLesser_59 : decode cX2_putLesser 59 = .ok (.iload 4, 2) := by decide +kernel
theorem dX2_putLesser_61 : decode cX2_putLesser 61 = .ok (.ifCond .ge 7, 3) := by decide +kernel
theorem dX2_putLesser_64 : decode cX2_putLesser 64 = .ok (.iconst 1, 1) := by decide +kernel
theorem dX2_putLesser_65 : decode cX2_putLesser 65 = .ok (.goto 4, 3) := by decide +kernel
theorem dX2_putLesser_68 : decode cX2_putLesser 68 = .ok (.iconst 0, 1) := by decide +kernel
theorem dX2_putLesser_69 : decode cX2_putLesser 69 = .ok (.iload 5, 2) := by decide +kernel
theorem dX2_putLesser_71 : decode cX2_putLesser 71 = .ok (.ifCond .ge 7, 3) := by decide +kernel
theorem dX2_putLesser_74 : decode cX2_putLesser 74 = .ok (.iconst 1, 1) := by decide +kernel
theorem dX2_putLesser_75 : decode cX2_putLesser 75 = .ok (.goto 4, 3) := by decide +kernel
theorem dX2_putLesser_78 : decode cX2_putLesser 78 = .ok (.iconst 0, 1) := by decide +kernel
theorem dX2_putLesser_79 : decode cX2_putLesser 79 = .ok (.if_icmp .ne 8, 3) := by decide +kernel
theorem dX2_putLesser_82 : decode cX2_putLesser 82 = .ok (.iload 6, 2) := by decide +kernel
theorem dX2_putLesser_84 : decode cX2_putLesser 84 = .ok (.goto 6, 3) := by decide +kernel
theorem dX2_putLesser_87 : decode cX2_putLesser 87 = .ok (.iload 6, 2) := by decide +kernel
theorem dX2_putLesser_89 : decode cX2_putLesser 89 = .ok (.ineg, 1) := by decide +kernel
theorem dX2_putLesser_90 : decode cX2_putLesser 90 = .ok (.iastore, 1) := by decide +kernel
theorem dX2_putLesser_91 : decode cX2_putLesser 91 = .ok (.iinc 3 1, 3) := by decide +kernel
theorem dX2_putLesser_94 : decode cX2_putLesser 94 = .ok (.goto (-86), 3) := by decide +kernel
theorem dX2_putLesser_97 : decode cX2_putLesser 97 = .ok (.return_, 1) := by decide +kernel
theorem dX2_putTogether_0 : decode cX2_putTogether 0 = .ok (.iconst 1, 1) := by decide +kernel
theorem dX2_putTogether_1 : decode cX2_putTogether 1 = .ok (.iload_n 1, 1) := by decide +kernel
theorem dX2_putTogether_2 : decode cX2_putTogether 2 = .ok (.iconst 1, 1) := by decide +kernel
theorem dX2_putTogether_3 : decode cX2_putTogether 3 = .ok (.isub, 1) := by decide +kernel
theorem dX2_putTogether_4 : decode cX2_putTogether 4 = .ok (.ishl, 1) := by decide +kernel
theorem dX2_putTogether_5 : decode cX2_putTogether 5 = .ok (.istore_n 3, 1) := by decide +kernel
theorem dX2_putTogether_6 : decode cX2_putTogether 6 = .ok (.iconst 0, 1) := by decide +kernel
theorem dX2_putTogether_7 : decode cX2_putTogether 7 = .ok (.istore 4, 2) := by decide +kernel
theorem dX2_putTogether_9 : decode cX2_putTogether 9 = .ok (.iload 4, 2) := by decide +kernel
theorem dX2_putTogether_11 : decode cX2_putTogether 11 = .ok (.iload_n 3, 1) := by decide +kernel
theorem dX2_putTogether_12 : decode cX2_putTogether 12 = .ok (.if_icmp .ge 61, 3) := by decide +kernel
theorem dX2_putTogether_15 : decode cX2_putTogether 15 = .ok (.aload_n 0, 1) := by decide +kernel
theorem dX2_putTogether_16 : decode cX2_putTogether 16 = .ok (.getfield 11, 3) := by decide +kernel
theorem dX2_putTogether_19 : decode cX2_putTogether 19 = .ok (.iload_n 1, 1) := by decide +kernel
theorem dX2_putTogether_20 : decode cX2_putTogether 20 = .ok (.aaload, 1) := by decide +kernel
theorem dX2_putTogether_21 : decode cX2_putTogether 21 = .ok (.iload 4, 2) := by decide +kernel
theorem dX2_putTogether_23 : decode cX2_putTogether 23 = .ok (.iload_n 3, 1) := by decide +kernel
theorem dX2_putTogether_24 : decode cX2_putTogether 24 = .ok (.iadd, 1) := by decide +kernel
theorem dX2_putTogether_25 : decode cX2_putTogether 25 = .ok (.iaload, 1) := by decide +kernel
theorem dX2_putTogether_26 : decode cX2_putTogether 26 = .ok (.istore 5, 2) := by decide +kernel
theorem dX2_putTogether_28 : decode cX2_putTogether 28 = .ok (.aload_n 0, 1) := by decide +kernel
theorem dX2_putTogether_29 : decode cX2_putTogether 29 = .ok (.getfield 11, 3) := by decide +kernel
theorem dX2_putTogether_32 : decode cX2_putTogether 32 = .ok (.iload_n 1, 1) := by decide +kernel
theorem dX2_putTogether_33 : decode cX2_putTogether 33 = .ok (.iconst 1, 1) := by decide +kernel
theorem dX2_putTogether_34 : decode cX2_putTogether 34 = .ok (.isub, 1) := by decide +kernel
theorem dX2_putTogether_35 : decode cX2_putTogether 35 = .ok (.aaload, 1) := by decide +kernel
theorem dX2_putTogether_36 : decode cX2_putTogether 36 = .ok (.iload 4, 2) := by decide +kernel
theorem dX2_putTogether_38 : decode cX2_putTogether 38 = .ok (.aload_n 0, 1) := by decide +kernel
theorem dX2_putTogether_39 : decode cX2_putTogether 39 = .ok (.getfield 11, 3) := by decide +kernel
theorem dX2_putTogether_42 : decode cX2_putTogether 42 = .ok (.iload_n 1, 1) := by decide +kernel
theorem dX2_putTogether_43 : decode cX2_putTogether 43 = .ok (.aaload, 1) := by decide +kernel
theorem dX2_putTogether_44 : decode cX2_putTogether 44 = .ok (.iload 4, 2) := by decide +kernel
theorem dX2_putTogether_46 : decode cX2_putTogether 46 = .ok (.iaload, 1) := by decide +kernel
theorem dX2_putTogether_47 : decode cX2_putTogether 47 = .ok (.iload_n 2, 1) := by decide +kernel
theorem dX2_putTogether_48 : decode cX2_putTogether 48 = .ok (.iload 4, 2) := by decide +kernel
theorem dX2_putTogether_50 : decode cX2_putTogether 50 = .ok (.iushr, 1) := by decide +kernel
theorem dX2_putTogether_51 : decode cX2_putTogether 51 = .ok (.iconst 1, 1) := by decide +kernel
theorem dX2_putTogether_52 : decode cX2_putTogether 52 = .ok (.iand, 1) := by decide +kernel
theorem dX2_putTogether_53 : decode cX2_putTogether 53 = .ok (.iconst 1, 1) := by decide +kernel
theorem dX2_putTogether_54 : decode cX2_putTogether 54 = .ok (.if_icmp .ne 9, 3) := by decide +kernel
theorem dX2_putTogether_57 : decode cX2_putTogether 57 = .ok (.iload 5, 2) := by decide +kernel
theorem dX2_putTogether_59 : decode cX2_putTogether 59 = .ok (.ineg, 1) := by decide +kernel
theorem dX2_putTogether_60 : decode cX2_putTogether 60 = .ok (.goto 5, 3) := by decide +kernel
theorem dX2_putTogether_63 : decode cX2_putTogether 63 = .ok (.iload 5, 2) := by decide +kernel
theorem dX2_putTogether_65 : decode cX2_putTogether 65 = .ok (.iadd, 1) := by decide +kernel
theorem dX2_putTogether_66 : decode cX2_putTogether 66 = .ok (.iastore, 1) := by decide +kernel
theorem dX2_putTogether_67 : decode cX2_putTogether 67 = .ok (.iinc 4 1, 3) := by decide +kernel
theorem dX2_putTogether_70 : decode cX2_putTogether 70 = .ok (.goto (-61), 3) := by decide +kernel
theorem dX2_putTogether_73 : decode cX2_putTogether 73 = .ok (.return_, 1) := by decide +kernel
theorem dX3_init_0 : decode cX3_init 0 = .ok (.aload_n 0, 1) := by decide +kernel
theorem dX3_init_1 : decode cX3_init 1 = .ok (.invokespecial 1, 3) := by decide +kernel
theorem dX3_init_4 : decode cX3_init 4 = .ok (.aload_n 0, 1) := by decide +kernel
theorem dX3_init_5 : decode cX3_init 5 = .ok (.sipush 1024, 3) := by decide +kernel
theorem dX3_init_8 : decode cX3_init 8 = .ok (.newarray .int, 2) := by decide +kernel
theorem dX3_init_10 : decode cX3_init 10 = .ok (.putfield 9, 3) := by decide +kernel
theorem dX3_init_13 : decode cX3_init 13 = .ok (.return_, 1) := by decide +kernel
set_option maxRecDepth 20000 in
theorem ggX3_weigh_J6_numberOfTrailingZeros_0f7a4 : GoodIn wsX3_weigh wsJ6_numberOfTrailingZeros_0f7a4 := goodIn_r _ [5, 6] (by decide +kernel) (by decide +kernel)
set_option maxRecDepth 20000 in
theorem gX3_weigh_J6_numberOfTrailingZeros_0f7a4 : GoodIn wsX3_weigh (va_wsS RX3 13 yJ6_numberOfTrailingZeros_0f7a4 wsJ6_numberOfTrailingZeros_0f7a4) := goodIn_app (goodIn_of _ (by decide +kernel)) ggX3_weigh_J6_numberOfTrailingZeros_0f7a4
theorem dX3_weigh_0 : decode cX3_weigh 0 = .ok (.iconst 0, 1) := by decide +kernel
theorem dX3_weigh_1 : decode cX3_weigh 1 = .ok (.istore_n 2, 1) := by decide +kernel
theorem dX3_weigh_2 : decode cX3_weigh 2 = .ok (.iload_n 2, 1) := by decide +kernel
theorem dX3_weigh_3 : decode cX3_weigh 3 = .ok (.iconst 4, 1) := by decide +kernel
theorem dX3_weigh_4 : decode cX3_weigh 4 = .ok (.if_icmp .ge 118, 3) := by decide +kernel
theorem dX3_weigh_7 : decode cX3_weigh 7 = .ok (.iload_n 2, 1) := by decide +kernel
theorem dX3_weigh_8 : decode cX3_weigh 8 = .ok (.sipush 256, 3) := by decide +kernel
theorem dX3_weigh_11 : decode cX3_weigh 11 = .ok (.imul, 1) := by decide +kernel
theorem dX3_weigh_12 : decode cX3_weigh 12 = .ok (.istore_n 3, 1) := by decide +kernel
theorem dX3_weigh_13 : decode cX3_weigh 13 = .ok (.aload_n 0, 1) := by decide +kernel
theorem dX3_weigh_14 : decode cX3_weigh 14 = .ok (.getfield 9, 3) := by decide +kernel
theorem dX3_weigh_17 : decode cX3_weigh 17 = .ok (.iload_n 3, 1) := by decide +kernel
theorem dX3_weigh_18 : decode cX3_weigh 18 = .ok (.iconst 0, 1) := by decide +kernel
theorem dX3_weigh_19 : decode cX3_weigh 19 = .ok (.iastore, 1) := by decide +kernel
theorem dX3_weigh_20 : decode cX3_weigh 20 = .ok (.iconst 0, 1) := by decide +kernel
theorem dX3_weigh_21 : decode cX3_weigh 21 = .ok (.istore 4, 2) := by decide +kernel
theorem dX3_weigh_23 : decode cX3_weigh 23 = .ok (.iload 4, 2) := by decide +kernel
theorem dX3_weigh_25 : decode cX3_weigh 25 = .ok (.bipush 8, 2) := by decide +kernel
theorem dX3_weigh_27 : decode cX3_weigh 27 = .ok (.if_icmp .ge 27, 3) := by decide +kernel
theorem dX3_weigh_30 : decode cX3_weigh 30 = .ok (.aload_n 0, 1) := by decide +kernel
theorem dX3_weigh_31 : decode cX3_weigh 31 = .ok (.getfield 9, 3) := by decide +kernel
theorem dX3_weigh_34 : decode cX3_weigh 34 = .ok (.iload_n 3, 1) := by decide +kernel
theorem dX3_weigh_35 : decode cX3_weigh 35 = .ok (.dup2, 1) := by decide +kernel
theorem dX3_weigh_36 : decode cX3_weigh 36 = .ok (.iaload, 1) := by decide +kernel
theorem dX3_weigh_37 : decode cX3_weigh 37 = .ok (.aload_n 1, 1) := by decide +kernel
theorem dX3_weigh_38 : decode cX3_weigh 38 = .ok (.bipush 8, 2) := by decide +kernel
theorem dX3_weigh_40 : decode cX3_weigh 40 = .ok (.iload_n 2, 1) := by decide +kernel
theorem dX3_weigh_41 : decode cX3_weigh 41 = .ok (.imul, 1) := by decide +kernel
theorem dX3_weigh_42 : decode cX3_weigh 42 = .ok (.iload 4, 2) := by decide +kernel
theorem dX3_weigh_44 : decode cX3_weigh 44 = .ok (.iadd, 1) := by decide +kernel
theorem dX3_weigh_45 : decode cX3_weigh 45 = .ok (.iaload, 1) := by decide +kernel
theorem dX3_weigh_46 : decode cX3_weigh 46 = .ok (.iadd, 1) := by decide +kernel
theorem dX3_weigh_47 : decode cX3_weigh 47 = .ok (.iastore, 1) := by decide +kernel
theorem dX3_weigh_48 : decode cX3_weigh 48 = .ok (.iinc 4 1, 3) := by decide +kernel
theorem dX3_weigh_51 : decode cX3_weigh 51 = .ok (.goto (-28), 3) := by decide +kernel
theorem dX3_weigh_54 : decode cX3_weigh 54 = .ok (.iconst 1, 1) := by decide +kernel
theorem dX3_weigh_55 : decode cX3_weigh 55 = .ok (.istore 4, 2) := by decide +kernel
theorem dX3_weigh_57 : decode cX3_weigh 57 = .ok (.iload 4, 2) := by decide +kernel
theorem dX3_weigh_59 : decode cX3_weigh 59 = .ok (.sipush 256, 3) := by decide +kernel
theorem dX3_weigh_62 : decode cX3_weigh 62 = .ok (.if_icmp .ge 54, 3) := by decide +kernel
theorem dX3_weigh_65 : decode cX3_weigh 65 = .ok (.iload 4, 2) := by decide +kernel
theorem dX3_weigh_67 : decode cX3_weigh 67 = .ok (.invokestatic 13, 3) := by decide +kernel
theorem dX3_weigh_70 : decode cX3_weigh 70 = .ok (.bipush 7, 2) := by decide +kernel
theorem dX3_weigh_72 : decode cX3_weigh 72 = .ok (.iand, 1) := by decide +kernel
theorem dX3_weigh_73 : decode cX3_weigh 73 = .ok (.istore 5, 2) := by decide +kernel
theorem dX3_weigh_75 : decode cX3_weigh 75 = .ok (.aload_n 0, 1) := by decide +kernel
theorem dX3_weigh_76 : decode cX3_weigh 76 = .ok (.getfield 9, 3) := by decide +kernel
theorem dX3_weigh_79 : decode cX3_weigh 79 = .ok (.iload_n 3, 1) := by decide +kernel
theorem dX3_weigh_80 : decode cX3_weigh 80 = .ok (.iload 4, 2) := by decide +kernel
theorem dX3_weigh_82 : decode cX3_weigh 82 = .ok (.iadd, 1) := by decide +kernel
theorem dX3_weigh_83 : decode cX3_weigh 83 = .ok (.aload_n 0, 1) := by decide +kernel
theorem dX3_weigh_84 : decode cX3_weigh 84 = .ok (.getfield 9, 3) := by decide +kernel
theorem dX3_weigh_87 : decode cX3_weigh 87 = .ok (.iload_n 3, 1) := by decide +kernel
theorem dX3_weigh_88 : decode cX3_weigh 88 = .ok (.iload 4, 2) := by decide +kernel
theorem dX3_weigh_90 : decode cX3_weigh 90 = .ok (.iload 4, 2) := by decide +kernel
theorem dX3_weigh_92 : decode cX3_weigh 92 = .ok (.iconst 1, 1) := by decide +kernel
theorem dX3_weigh_93 : decode cX3_weigh 93 = .ok (.isub, 1) := by decide +kernel
theorem dX3_weigh_94 : decode cX3_weigh 94 = .ok (.iand, 1) := by decide +kernel
theorem dX3_weigh_95 : decode cX3_weigh 95 = .ok (.iadd, 1) := by decide +kernel
theorem dX3_weigh_96 : decode cX3_weigh 96 = .ok (.iaload, 1) := by decide +kernel
theorem dX3_weigh_97 : decode cX3_weigh 97 = .ok (.iconst 2, 1) := by decide +kernel
theorem dX3_weigh_98 : decode cX3_weigh 98 = .ok (.aload_n 1, 1) := by decide +kernel
theorem dX3_weigh_99 : decode cX3_weigh 99 = .ok (.bipush 8, 2) := by decide +kernel
theorem dX3_weigh_101 : decode cX3_weigh 101 = .ok (.iload_n 2, 1) := by decide +kernel
theorem dX3_weigh_102 : decode cX3_weigh 102 = .ok (.imul, 1) := by decide +kernel
theorem dX3_weigh_103 : decode cX3_weigh 103 = .ok (.iload 5, 2) := by decide +kernel
theorem dX3_weigh_105 : decode cX3_weigh 105 = .ok (.iadd, 1) := by decide +kernel
theorem dX3_weigh_106 : decode cX3_weigh 106 = .ok (.iaload, 1) := by decide +kernel
theorem dX3_weigh_107 : decode cX3_weigh 107 = .ok (.imul, 1) := by decide +kernel
theorem dX3_weigh_108 : decode cX3_weigh 108 = .ok (.isub, 1) := by decide +kernel
theorem dX3_weigh_109 : decode cX3_weigh 109 = .ok (.iastore, 1) := by decide +kernel
theorem dX3_weigh_110 : decode cX3_weigh 110 = .ok (.iinc 4 1, 3) := by decide +kernel
theorem dX3_weigh_113 : decode cX3_weigh 113 = .ok (.goto (-56), 3) := by decide +kernel
theorem dX3_weigh_116 : decode cX3_weigh 116 = .ok (.iinc 2 1, 3) := by decide +kernel
theorem dX3_weigh_119 : decode cX3_weigh 119 = .ok (.goto (-117), 3) := by decide +kernel
theorem dX3_weigh_122 : decode cX3_weigh 122 = .ok (.return_, 1) := by decide +kernel
theorem dX3_sumFor_0 : decode cX3_sumFor 0 = .ok (.aload_n 0, 1) := by decide +kernel
theorem dX3_sumFor_1 : decode cX3_sumFor 1 = .ok (.getfield 9, 3) := by decide +kernel
theorem dX3_sumFor_4 : decode cX3_sumFor 4 = .ok (.iload_n 1, 1) := by decide +kernel
theorem dX3_sumFor_5 : decode cX3_sumFor 5 = .ok (.sipush 255, 3) := by decide +kernel
theorem dX3_sumFor_8 : decode cX3_sumFor 8 = .ok (.iand, 1) := by decide +kernel
theorem dX3_sumFor_9 : decode cX3_sumFor 9 = .ok (.iaload, 1) := by decide +kernel
theorem dX3_sumFor_10 : decode cX3_sumFor 10 = .ok (.aload_n 0, 1) := by decide +kernel
theorem dX3_sumFor_11 : decode cX3_sumFor 11 = .ok (.getfield 9, 3) := by decide +kernel
theorem dX3_sumFor_14 : decode cX3_sumFor 14 = .ok (.sipush 256, 3) := by decide +kernel
theorem dX3_sumFor_17 : decode cX3_sumFor 17 = .ok (.iload_n 1, 1) := by decide +kernel
theorem dX3_sumFor_18 : decode cX3_sumFor 18 = .ok (.bipush 8, 2) := by decide +kernel
theorem dX3_sumFor_20 : decode cX3_sumFor 20 = .ok (.iushr, 1) := by decide +kernel
theorem dX3_sumFor_21 : decode cX3_sumFor 21 = .ok (.sipush 255, 3) := by decide +kernel
theorem dX3_sumFor_24 : decode cX3_sumFor 24 = .ok (.iand, 1) := by decide +kernel
theorem dX3_sumFor_25 : decode cX3_sumFor 25 = .ok (.iadd, 1) := by decide +kernel
theorem dX3_sumFor_26 : decode cX3_sumFor 26 = .ok (.iaload, 1) := by decide +kernel
theorem dX3_sumFor_27 : decode cX3_sumFor 27 = .ok (.iadd, 1) := by decide +kernel
theorem dX3_sumFor_28 : decode cX3_sumFor 28 = .ok (.aload_n 0, 1) := by decide +kernel
theorem dX3_sumFor_29 : decode cX3_sumFor 29 = .ok (.getfield 9, 3) := by decide +kernel
theorem dX3_sumFor_32 : decode cX3_sumFor 32 = .ok (.sipush 512, 3) := by decide +kernel
theorem dX3_sumFor_35 : decode cX3_sumFor 35 = .ok (.iload_n 1, 1) := by decide +kernel
theorem dX3_sumFor_36 : decode cX3_sumFor 36 = .ok (.bipush 16, 2) := by decide +kernel
theorem dX3_sumFor_38 : decode cX3_sumFor 38 = .ok (.iushr, 1) := by decide +kernel
theorem dX3_sumFor_39 : decode cX3_sumFor 39 = .ok (.sipush 255, 3) := by decide +kernel
theorem dX3_sumFor_42 : decode cX3_sumFor 42 = .ok (.iand, 1) := by decide +kernel
theorem dX3_sumFor_43 : decode cX3_sumFor 43 = .ok (.iadd, 1) := by decide +kernel
theorem dX3_sumFor_44 : decode cX3_sumFor 44 = .ok (.iaload, 1) := by decide +kernel
theorem dX3_sumFor_45 : decode cX3_sumFor 45 = .ok (.iadd, 1) := by decide +kernel
theorem dX3_sumFor_46 : decode cX3_sumFor 46 = .ok (.aload_n 0, 1) := by decide +kernel
theorem dX3_sumFor_47 : decode cX3_sumFor 47 = .ok (.getfield 9, 3) := by decide +kernel
theorem dX3_sumFor_50 : decode cX3_sumFor 50 = .ok (.sipush 768, 3) := by decide +kernel
theorem dX3_sumFor_53 : decode cX3_sumFor 53 = .ok (.iload_n 1, 1) := by decide +kernel
theorem dX3_sumFor_54 : decode cX3_sumFor 54 = .ok (.bipush 24, 2) := by decide +kernel
theorem dX3_sumFor_56 : decode cX3_sumFor 56 = .ok (.iushr, 1) := by decide +kernel
theorem dX3_sumFor_57 : decode cX3_sumFor 57 = .ok (.iadd, 1) := by decide +kernel
theorem dX3_sumFor_58 : decode cX3_sumFor 58 = .ok (.iaload, 1) := by decide +kernel
theorem dX3_sumFor_59 : decode cX3_sumFor 59 = .ok (.iadd, 1) := by decide +kernel
theorem dX3_sumFor_60 : decode cX3_sumFor 60 = .ok (.ireturn, 1) := by decide +kernel
set_option maxRecDepth 20000 in
theorem ggX4_init_X5_init : GoodIn wsX4_init wsX5_init := goodIn_r _ [9, 10, 2, 3, 11, 12, 13, 14, 15, 16, 17, 18, 19, 20, 27, 28, 29, 30, 31, 24, 25, 26] (by decide +kernel) (by decide +kernel)
set_option maxRecDepth 20000 in
theorem gX4_init_X5_init_n17 : GoodIn wsX4_init (wsX5_init) := ggX4_init_X5_init
theorem dX4_init_0 : decode cX4_init 0 = .ok (.aload_n 0, 1) := by decide +kernel
theorem dX4_init_1 : decode cX4_init 1 = .ok (.invokespecial 3, 3) := by decide +kernel
theorem dX4_init_4 : decode cX4_init 4 = .ok (.aload_n 0, 1) := by decide +kernel
theorem dX4_init_5 : decode cX4_init 5 = .ok (.bipush 8, 2) := by decide +kernel
theorem dX4_init_7 : decode cX4_init 7 = .ok (.anewarray 9, 3) := by decide +kernel
theorem dX4_init_10 : decode cX4_init 10 = .ok (.putfield 11, 3) := by decide +kernel
theorem dX4_init_13 : decode cX4_init 13 = .ok (.iconst 0, 1) := by decide +kernel
theorem dX4_init_14 : decode cX4_init 14 = .ok (.istore_n 1, 1) := by decide +kernel
theorem dX4_init_15 : decode cX4_init 15 = .ok (.iload_n 1, 1) := by decide +kernel
theorem dX4_init_16 : decode cX4_init 16 = .ok (.bipush 8, 2) := by decide +kernel
theorem dX4_init_18 : decode cX4_init 18 = .ok (.if_icmp .ge 22, 3) := by decide +kernel
theorem dX4_init_21 : decode cX4_init 21 = .ok (.aload_n 0, 1) := by decide +kernel
theorem dX4_init_22 : decode cX4_init 22 = .ok (.getfield 11, 3) := by decide +kernel
theorem dX4_init_25 : decode cX4_init 25 = .ok (.iload_n 1, 1) := by decide +kernel
theorem dX4_init_26 : decode cX4_init 26 = .ok (.new 9, 3) := by decide +kernel
theorem dX4_init_29 : decode cX4_init 29 = .ok (.dup, 1) := by decide +kernel
theorem dX4_init_30 : decode cX4_init 30 = .ok (.invokespecial 17, 3) := by decide +kernel
theorem dX4_init_33 : decode cX4_init 33 = .ok (.aastore, 1) := by decide +kernel
theorem dX4_init_34 : decode cX4_init 34 = .ok (.iinc 1 1, 3) := by decide +kernel
theorem dX4_init_37 : decode cX4_init 37 = .ok (.goto (-22), 3) := by decide +kernel
theorem dX4_init_40 : decode cX4_init 40 = .ok (.return_, 1) := by decide +kernel
set_option maxRecDepth 20000 in
theorem ggX4_keep_X5_copy : GoodIn wsX4_keep wsX5_copy := goodIn_r _ [12, 13, 14, 15, 16, 17, 18, 19, 20, 21, 22, 23, 24, 25, 26, 27, 28, 29, 30, 31, 32, 33, 34, 35, 36, 37, 38, 42, 43, 44, 45, 46, 47, 48, 49] (by decide +kernel) (by decide +kernel)
set_option maxRecDepth 20000 in
theorem gX4_keep_X5_copy : GoodIn wsX4_keep (wsV RX4 22 RX5 yX5_copy wsX5_copy) := goodIn_app (goodIn_of _ (by decide +kernel)) ggX4_keep_X5_copy
theorem dX4_keep_0 : decode cX4_keep 0 = .ok (.aload_n 0, 1) := by decide +kernel
theorem dX4_keep_1 : decode cX4_keep 1 = .ok (.getfield 11, 3) := by decide +kernel
theorem dX4_keep_4 : decode cX4_keep 4 = .ok (.aload_n 0, 1) := by decide +kernel
theorem dX4_keep_5 : decode cX4_keep 5 = .ok (.getfield 18, 3) := by decide +kernel
theorem dX4_keep_8 : decode cX4_keep 8 = .ok (.aaload, 1) := by decide +kernel
theorem dX4_keep_9 : decode cX4_keep 9 = .ok (.aload_n 1, 1) := by decide +kernel
theorem dX4_keep_10 : decode cX4_keep 10 = .ok (.invokevirtual 22, 3) := by decide +kernel
theorem dX4_keep_13 : decode cX4_keep 13 = .ok (.aload_n 0, 1) := by decide +kernel
theorem dX4_keep_14 : decode cX4_keep 14 = .ok (.aload_n 0, 1) := by decide +kernel
theorem dX4_keep_15 : decode cX4_keep 15 = .ok (.getfield 18, 3) := by decide +kernel
theorem dX4_keep_18 : decode cX4_keep 18 = .ok (.iconst 1, 1) := by decide +kernel
theorem dX4_keep_19 : decode cX4_keep 19 = .ok (.iadd, 1) := by decide +kernel
theorem dX4_keep_20 : decode cX4_keep 20 = .ok (.bipush 8, 2) := by decide +kernel
theorem dX4_keep_22 : decode cX4_keep 22 = .ok (.irem, 1) := by decide +kernel
theorem dX4_keep_23 : decode cX4_keep 23 = .ok (.putfield 18, 3) := by decide +kernel
theorem dX4_keep_26 : decode cX4_keep 26 = .ok (.aload_n 0, 1) := by decide +kernel
theorem dX4_keep_27 : decode cX4_keep 27 = .ok (.aload_n 0, 1) := by decide +kernel
theorem dX4_keep_28 : decode cX4_keep 28 = .ok (.getfield 26, 3) := by decide +kernel
theorem dX4_keep_31 : decode cX4_keep 31 = .ok (.iconst 1, 1) := by decide +kernel
theorem dX4_keep_32 : decode cX4_keep 32 = .ok (.iadd, 1) := by decide +kernel
theorem dX4_keep_33 : decode cX4_keep 33 = .ok (.bipush 8, 2) := by decide +kernel
theorem dX4_keep_35 : decode cX4_keep 35 = .ok (.invokestatic 29, 3) := by decide +kernel
theorem dX4_keep_38 : decode cX4_keep 38 = .ok (.putfield 26, 3) := by decide +kernel
theorem dX4_keep_41 : decode cX4_keep 41 = .ok (.return_, 1) := by decide +kernel
set_option maxRecDepth 20000 in
theorem ggX4_giveBack_X5_copy : GoodIn wsX4_giveBack wsX5_copy := goodIn_r _ [8, 9, 10, 11, 12, 13, 14, 15, 16, 17, 18, 19, 20, 21, 22, 23, 24, 25, 26, 27, 28, 29, 30, 31, 32, 33, 34, 38, 39, 40, 41, 42, 43, 44, 45] (by decide +kernel) (by decide +kernel)
set_option maxRecDepth 20000 in
theorem gX4_giveBack_X5_copy : GoodIn wsX4_giveBack (wsV RX4 22 RX5 yX5_copy wsX5_copy) := goodIn_app (goodIn_of _ (by decide +kernel)) ggX4_giveBack_X5_copy
theorem dX4_giveBack_0 : decode cX4_giveBack 0 = .ok (.aload_n 0, 1) := by decide +kernel
theorem dX4_giveBack_1 : decode cX4_giveBack 1 = .ok (.getfield 26, 3) := by decide +kernel
theorem dX4_giveBack_4 : decode cX4_giveBack 4 = .ok (.ifCond .le 42, 3) := by decide +kernel
theorem dX4_giveBack_7 : decode cX4_giveBack 7 = .ok (.aload_n 0, 1) := by decide +kernel
theorem dX4_giveBack_8 : decode cX4_giveBack 8 = .ok (.aload_n 0, 1) := by decide +kernel
theorem dX4_giveBack_9 : decode cX4_giveBack 9 = .ok (.getfield 18, 3) := by decide +kernel
theorem dX4_giveBack_12 : decode cX4_giveBack 12 = .ok (.bipush 8, 2) := by decide +kernel
theorem dX4_giveBack_14 : decode cX4_giveBack 14 = .ok (.iadd, 1) := by decide +kernel
theorem dX4_giveBack_15 : decode cX4_giveBack 15 = .ok (.iconst 1, 1) := by decide +kernel
theorem dX4_giveBack_16 : decode cX4_giveBack 16 = .ok (.isub, 1) := by decide +kernel
theorem dX4_giveBack_17 : decode cX4_giveBack 17 = .ok (.bipush 8, 2) := by decide +kernel
theorem dX4_giveBack_19 : decode cX4_giveBack 19 = .ok (.irem, 1) := by decide +kernel
theorem dX4_giveBack_20 : decode cX4_giveBack 20 = .ok (.putfield 18, 3) := by decide +kernel
theorem dX4_giveBack_23 : decode cX4_giveBack 23 = .ok (.aload_n 0, 1) := by decide +kernel
theorem dX4_giveBack_24 : decode cX4_giveBack 24 = .ok (.dup, 1) := by decide +kernel
theorem dX4_giveBack_25 : decode cX4_giveBack 25 = .ok (.getfield 26, 3) := by decide +kernel
theorem dX4_giveBack_28 : decode cX4_giveBack 28 = .ok (.iconst 1, 1) := by decide +kernel
theorem dX4_giveBack_29 : decode cX4_giveBack 29 = .ok (.isub, 1) := by decide +kernel
theorem dX4_giveBack_30 : decode cX4_giveBack 30 = .ok (.putfield 26, 3) := by decide +kernel
theorem dX4_giveBack_33 : decode cX4_giveBack 33 = .ok (.aload_n 1, 1) := by decide +kernel
theorem dX4_giveBack_34 : decode cX4_giveBack 34 = .ok (.aload_n 0, 1) := by decide +kernel
theorem dX4_giveBack_35 : decode cX4_giveBack 35 = .ok (.getfield 11, 3) := by decide +kernel
theorem dX4_giveBack_38 : decode cX4_giveBack 38 = .ok (.aload_n 0, 1) := by decide +kernel
theorem dX4_giveBack_39 : decode cX4_giveBack 39 = .ok (.getfield 18, 3) := by decide +kernel
theorem dX4_giveBack_42 : decode cX4_giveBack 42 = .ok (.aaload, 1) := by decide +kernel
theorem dX4_giveBack_43 : decode cX4_giveBack 43 = .ok (.invokevirtual 22, 3) := by decide +kernel
theorem dX4_giveBack_46 : decode cX4_giveBack 46 = .ok (.return_, 1) := by decide +kernel
set_option maxRecDepth 20000 in
theorem ggX5_init_X1_init : GoodIn wsX5_init wsX1_init := goodIn_r _ [11, 12, 2, 3, 8, 13, 14, 15, 16, 17, 18] (by decide +kernel) (by decide +kernel)
set_option maxRecDepth 20000 in
theorem gX5_init_X1_init_n11 : GoodIn wsX5_init (wsX1_init) := ggX5_init_X1_init
theorem dX5_init_0 : decode cX5_init 0 = .ok (.aload_n 0, 1) := by decide +kernel
theorem dX5_init_1 : decode cX5_init 1 = .ok (.invokespecial 3, 3) := by decide +kernel
theorem dX5_init_4 : decode cX5_init 4 = .ok (.aload_n 0, 1) := by decide +kernel
theorem dX5_init_5 : decode cX5_init 5 = .ok (.new 9, 3) := by decide +kernel
theorem dX5_init_8 : decode cX5_init 8 = .ok (.dup, 1) := by decide +kernel
theorem dX5_init_9 : decode cX5_init 9 = .ok (.invokespecial 11, 3) := by decide +kernel
theorem dX5_init_12 : decode cX5_init 12 = .ok (.putfield 12, 3) := by decide +kernel
theorem dX5_init_15 : decode cX5_init 15 = .ok (.aload_n 0, 1) := by decide +kernel
theorem dX5_init_16 : decode cX5_init 16 = .ok (.bipush 32, 2) := by decide +kernel
theorem dX5_init_18 : decode cX5_init 18 = .ok (.newarray .int, 2) := by decide +kernel
theorem dX5_init_20 : decode cX5_init 20 = .ok (.putfield 18, 3) := by decide +kernel
theorem dX5_init_23 : decode cX5_init 23 = .ok (.return_, 1) := by decide +kernel
set_option maxRecDepth 20000 in
theorem ggX5_start_X1_become : GoodIn wsX5_start wsX1_become := goodIn_r _ [8, 9, 10, 11, 12, 13, 14, 15, 16, 17, 18, 19, 20, 28, 29, 30, 31, 32] (by decide +kernel) (by decide +kernel)
set_option maxRecDepth 20000 in
theorem gX5_start_X1_become : GoodIn wsX5_start (wsV RX5 22 RX1 yX1_become wsX1_become) := goodIn_app (goodIn_of _ (by decide +kernel)) ggX5_start_X1_become
set_option maxRecDepth 20000 in
theorem ggX5_start_J7_fill_53178 : GoodIn wsX5_start wsJ7_fill_53178 := goodIn_r _ [24] (by decide +kernel) (by decide +kernel)
set_option maxRecDepth 20000 in
theorem gX5_start_J7_fill_53178 : GoodIn wsX5_start (va_wsS RX5 30 yJ7_fill_53178 wsJ7_fill_53178) := goodIn_app (goodIn_of _ (by decide +kernel)) ggX5_start_J7_fill_53178
theorem dX5_start_0 : decode cX5_start 0 = .ok (.aload_n 0, 1) := by decide +kernel
