theorem dX5_start_1 : decode cX5_start 1 = .ok (.getfield 12, 3) := by decide +kernel
theorem dX5_start_4 : decode cX5_start 4 = .ok (.iload_n 1, 1) := by decide +kernel
theorem dX5_start_5 : decode cX5_start 5 = .ok (.iload_n 2, 1) := by decide +kernel
theorem dX5_start_6 : decode cX5_start 6 = .ok (.invokevirtual 22, 3) := by decide +kernel
theorem dX5_start_9 : decode cX5_start 9 = .ok (.aload_n 0, 1) := by decide +kernel
theorem dX5_start_10 : decode cX5_start 10 = .ok (.iconst 0, 1) := by decide +kernel
theorem dX5_start_11 : decode cX5_start 11 = .ok (.putfield 26, 3) := by decide +kernel
theorem dX5_start_14 : decode cX5_start 14 = .ok (.aload_n 0, 1) := by decide +kernel
theorem dX5_start_15 : decode cX5_start 15 = .ok (.getfield 18, 3) := by decide +kernel
theorem dX5_start_18 : decode cX5_start 18 = .ok (.iconst 0, 1) := by decide +kernel
theorem dX5_start_19 : decode cX5_start 19 = .ok (.invokestatic 30, 3) := by decide +kernel
theorem dX5_start_22 : decode cX5_start 22 = .ok (.return_, 1) := by decide +kernel
set_option maxRecDepth 20000 in
theorem ggX5_copy_X1_become : GoodIn wsX5_copy wsX1_become := goodIn_r _ [14, 15, 16, 17, 18, 19, 20, 21, 22, 23, 24, 25, 26, 30, 31, 32, 33, 34] (by decide +kernel) (by decide +kernel)
set_option maxRecDepth 20000 in
theorem gX5_copy_X1_become : GoodIn wsX5_copy (wsV RX5 22 RX1 yX1_become wsX1_become) := goodIn_app (goodIn_of _ (by decide +kernel)) ggX5_copy_X1_become
theorem dX5_copy_0 : decode cX5_copy 0 = .ok (.aload_n 0, 1) := by decide +kernel
theorem dX5_copy_1 : decode cX5_copy 1 = .ok (.getfield 12, 3) := by decide +kernel
theorem dX5_copy_4 : decode cX5_copy 4 = .ok (.aload_n 1, 1) := by decide +kernel
theorem dX5_copy_5 : decode cX5_copy 5 = .ok (.getfield 12, 3) := by decide +kernel
theorem dX5_copy_8 : decode cX5_copy 8 = .ok (.getfield 36, 3) := by decide +kernel
theorem dX5_copy_11 : decode cX5_copy 11 = .ok (.aload_n 1, 1) := by decide +kernel
theorem dX5_copy_12 : decode cX5_copy 12 = .ok (.getfield 12, 3) := by decide +kernel
theorem dX5_copy_15 : decode cX5_copy 15 = .ok (.getfield 39, 3) := by decide +kernel
theorem dX5_copy_18 : decode cX5_copy 18 = .ok (.invokevirtual 22, 3) := by decide +kernel
theorem dX5_copy_21 : decode cX5_copy 21 = .ok (.aload_n 0, 1) := by decide +kernel
theorem dX5_copy_22 : decode cX5_copy 22 = .ok (.aload_n 1, 1) := by decide +kernel
theorem dX5_copy_23 : decode cX5_copy 23 = .ok (.getfield 26, 3) := by decide +kernel
theorem dX5_copy_26 : decode cX5_copy 26 = .ok (.putfield 26, 3) := by decide +kernel
theorem dX5_copy_29 : decode cX5_copy 29 = .ok (.aload_n 1, 1) := by decide +kernel
theorem dX5_copy_30 : decode cX5_copy 30 = .ok (.getfield 18, 3) := by decide +kernel
theorem dX5_copy_33 : decode cX5_copy 33 = .ok (.iconst 0, 1) := by decide +kernel
theorem dX5_copy_34 : decode cX5_copy 34 = .ok (.aload_n 0, 1) := by decide +kernel
theorem dX5_copy_35 : decode cX5_copy 35 = .ok (.getfield 18, 3) := by decide +kernel
theorem dX5_copy_38 : decode cX5_copy 38 = .ok (.iconst 0, 1) := by decide +kernel
theorem dX5_copy_39 : decode cX5_copy 39 = .ok (.bipush 32, 2) := by decide +kernel
theorem dX5_copy_41 : decode cX5_copy 41 = .ok (.invokestatic 42, 3) := by decide +kernel
theorem dX5_copy_44 : decode cX5_copy 44 = .ok (.return_, 1) := by decide +kernel
theorem dX5_bit_0 : decode cX5_bit 0 = .ok (.aload_n 0, 1) := by decide +kernel
theorem dX5_bit_1 : decode cX5_bit 1 = .ok (.getfield 26, 3) := by decide +kernel
theorem dX5_bit_4 : decode cX5_bit 4 = .ok (.iload_n 1, 1) := by decide +kernel
theorem dX5_bit_5 : decode cX5_bit 5 = .ok (.iushr, 1) := by decide +kernel
theorem dX5_bit_6 : decode cX5_bit 6 = .ok (.iconst 1, 1) := by decide +kernel
theorem dX5_bit_7 : decode cX5_bit 7 = .ok (.iand, 1) := by decide +kernel
theorem dX5_bit_8 : decode cX5_bit 8 = .ok (.ireturn, 1) := by decide +kernel
theorem dX6_init_0 : decode cX6_init 0 = .ok (.aload_n 0, 1) := by decide +kernel
theorem dX6_init_1 : decode cX6_init 1 = .ok (.invokespecial 3, 3) := by decide +kernel
theorem dX6_init_4 : decode cX6_init 4 = .ok (.aload_n 0, 1) := by decide +kernel
theorem dX6_init_5 : decode cX6_init 5 = .ok (.bipush 120, 2) := by decide +kernel
theorem dX6_init_7 : decode cX6_init 7 = .ok (.newarray .byte, 2) := by decide +kernel
theorem dX6_init_9 : decode cX6_init 9 = .ok (.putfield 9, 3) := by decide +kernel
theorem dX6_init_12 : decode cX6_init 12 = .ok (.aload_n 0, 1) := by decide +kernel
theorem dX6_init_13 : decode cX6_init 13 = .ok (.iconst (-1), 1) := by decide +kernel
theorem dX6_init_14 : decode cX6_init 14 = .ok (.putfield 15, 3) := by decide +kernel
theorem dX6_init_17 : decode cX6_init 17 = .ok (.return_, 1) := by decide +kernel
theorem dX6_append_0 : decode cX6_append 0 = .ok (.aload_n 0, 1) := by decide +kernel
theorem dX6_append_1 : decode cX6_append 1 = .ok (.getfield 19, 3) := by decide +kernel
theorem dX6_append_4 : decode cX6_append 4 = .ok (.bipush 120, 2) := by decide +kernel
theorem dX6_append_6 : decode cX6_append 6 = .ok (.if_icmp .ge 24, 3) := by decide +kernel
theorem dX6_append_9 : decode cX6_append 9 = .ok (.aload_n 0, 1) := by decide +kernel
theorem dX6_append_10 : decode cX6_append 10 = .ok (.getfield 9, 3) := by decide +kernel
theorem dX6_append_13 : decode cX6_append 13 = .ok (.aload_n 0, 1) := by decide +kernel
theorem dX6_append_14 : decode cX6_append 14 = .ok (.getfield 19, 3) := by decide +kernel
theorem dX6_append_17 : decode cX6_append 17 = .ok (.iload_n 1, 1) := by decide +kernel
theorem dX6_append_18 : decode cX6_append 18 = .ok (.i2b, 1) := by decide +kernel
theorem dX6_append_19 : decode cX6_append 19 = .ok (.bastore, 1) := by decide +kernel
theorem dX6_append_20 : decode cX6_append 20 = .ok (.aload_n 0, 1) := by decide +kernel
theorem dX6_append_21 : decode cX6_append 21 = .ok (.dup, 1) := by decide +kernel
theorem dX6_append_22 : decode cX6_append 22 = .ok (.getfield 19, 3) := by decide +kernel
theorem dX6_append_25 : decode cX6_append 25 = .ok (.iconst 1, 1) := by decide +kernel
theorem dX6_append_26 : decode cX6_append 26 = .ok (.iadd, 1) := by decide +kernel
theorem dX6_append_27 : decode cX6_append 27 = .ok (.putfield 19, 3) := by decide +kernel
theorem dX6_append_30 : decode cX6_append 30 = .ok (.return_, 1) := by decide +kernel
theorem dX6_rewind_0 : decode cX6_rewind 0 = .ok (.aload_n 0, 1) := by decide +kernel
theorem dX6_rewind_1 : decode cX6_rewind 1 = .ok (.iconst 0, 1) := by decide +kernel
theorem dX6_rewind_2 : decode cX6_rewind 2 = .ok (.putfield 22, 3) := by decide +kernel
theorem dX6_rewind_5 : decode cX6_rewind 5 = .ok (.aload_n 0, 1) := by decide +kernel
theorem dX6_rewind_6 : decode cX6_rewind 6 = .ok (.iconst (-1), 1) := by decide +kernel
theorem dX6_rewind_7 : decode cX6_rewind 7 = .ok (.putfield 15, 3) := by decide +kernel
theorem dX6_rewind_10 : decode cX6_rewind 10 = .ok (.return_, 1) := by decide +kernel
set_option maxRecDepth 20000 in
theorem ggX6_isAtEnd_X6_skipBlanks : GoodIn wsX6_isAtEnd wsX6_skipBlanks := goodIn_r _ [7, 1, 2, 8, 9, 10, 11, 12] (by decide +kernel) (by decide +kernel)
set_option maxRecDepth 20000 in
theorem gX6_isAtEnd_X6_skipBlanks : GoodIn wsX6_isAtEnd (wsV RX6 25 RX6 yX6_skipBlanks wsX6_skipBlanks) := goodIn_app (goodIn_of _ (by decide +kernel)) ggX6_isAtEnd_X6_skipBlanks
theorem dX6_isAtEnd_0 : decode cX6_isAtEnd 0 = .ok (.aload_n 0, 1) := by decide +kernel
theorem dX6_isAtEnd_1 : decode cX6_isAtEnd 1 = .ok (.invokevirtual 25, 3) := by decide +kernel
theorem dX6_isAtEnd_4 : decode cX6_isAtEnd 4 = .ok (.aload_n 0, 1) := by decide +kernel
theorem dX6_isAtEnd_5 : decode cX6_isAtEnd 5 = .ok (.getfield 22, 3) := by decide +kernel
theorem dX6_isAtEnd_8 : decode cX6_isAtEnd 8 = .ok (.aload_n 0, 1) := by decide +kernel
theorem dX6_isAtEnd_9 : decode cX6_isAtEnd 9 = .ok (.getfield 19, 3) := by decide +kernel
theorem dX6_isAtEnd_12 : decode cX6_isAtEnd 12 = .ok (.if_icmp .lt 7, 3) := by decide +kernel
theorem dX6_isAtEnd_15 : decode cX6_isAtEnd 15 = .ok (.iconst 1, 1) := by decide +kernel
theorem dX6_isAtEnd_16 : decode cX6_isAtEnd 16 = .ok (.goto 4, 3) := by decide +kernel
theorem dX6_isAtEnd_19 : decode cX6_isAtEnd 19 = .ok (.iconst 0, 1) := by decide +kernel
theorem dX6_isAtEnd_20 : decode cX6_isAtEnd 20 = .ok (.ireturn, 1) := by decide +kernel
set_option maxRecDepth 20000 in
theorem ggX6_readOneOf_X6_isAtEnd : GoodIn wsX6_readOneOf wsX6_isAtEnd := goodIn_r _ [7, 2, 8, 9, 10, 11, 6, 12, 1, 107, 108, 109, 110] (by decide +kernel) (by decide +kernel)
set_option maxRecDepth 20000 in
theorem gX6_readOneOf_X6_isAtEnd : GoodIn wsX6_readOneOf (wsV RX6 28 RX6 yX6_isAtEnd wsX6_isAtEnd) := goodIn_app (goodIn_of _ (by decide +kernel)) ggX6_readOneOf_X6_isAtEnd
set_option maxRecDepth 20000 in
theorem ggX6_readOneOf_J0_indexOf_0f7a4 : GoodIn wsX6_readOneOf wsJ0_indexOf_0f7a4 := goodIn_r _ [17, 18, 19, 20, 16, 21, 22, 23, 24, 25, 26, 27, 28, 29, 30, 31, 32, 33, 34, 35, 36, 37, 38, 39, 40, 41, 42, 43, 44, 45, 46, 47, 48, 49, 50, 51, 52, 53, 54, 55, 56, 57, 58, 59, 60, 61, 62, 63, 64, 65, 66, 67, 68, 69, 70, 71, 72, 73, 74, 75, 76, 77, 78, 79, 80, 81, 82, 83, 84, 85, 86, 87, 88, 89, 90, 91, 92, 93, 94, 95, 96, 97, 98, 99, 100, 101] (by decide +kernel) (by decide +kernel)
set_option maxRecDepth 20000 in
theorem gX6_readOneOf_J0_indexOf_0f7a4 : GoodIn wsX6_readOneOf (wsV RX6 32 RJ0 yJ0_indexOf_0f7a4 wsJ0_indexOf_0f7a4) := goodIn_app (goodIn_of _ (by decide +kernel)) ggX6_readOneOf_J0_indexOf_0f7a4
set_option maxRecDepth 20000 in
theorem ggX6_readOneOf_X6_failAt : GoodIn wsX6_readOneOf wsX6_failAt := goodIn_r _ [105, 106, 107, 108, 109, 110] (by decide +kernel) (by decide +kernel)
set_option maxRecDepth 20000 in
theorem gX6_readOneOf_X6_failAt : GoodIn wsX6_readOneOf (wsV RX6 38 RX6 yX6_failAt wsX6_failAt) := goodIn_app (goodIn_of _ (by decide +kernel)) ggX6_readOneOf_X6_failAt
theorem dX6_readOneOf_0 : decode cX6_readOneOf 0 = .ok (.aload_n 0, 1) := by decide +kernel
theorem dX6_readOneOf_1 : decode cX6_readOneOf 1 = .ok (.invokevirtual 28, 3) := by decide +kernel
theorem dX6_readOneOf_4 : decode cX6_readOneOf 4 = .ok (.ifCond .ne 20, 3) := by decide +kernel
theorem dX6_readOneOf_7 : decode cX6_readOneOf 7 = .ok (.aload_n 1, 1) := by decide +kernel
theorem dX6_readOneOf_8 : decode cX6_readOneOf 8 = .ok (.aload_n 0, 1) := by decide +kernel
theorem dX6_readOneOf_9 : decode cX6_readOneOf 9 = .ok (.getfield 9, 3) := by decide +kernel
theorem dX6_readOneOf_12 : decode cX6_readOneOf 12 = .ok (.aload_n 0, 1) := by decide +kernel
theorem dX6_readOneOf_13 : decode cX6_readOneOf 13 = .ok (.getfield 22, 3) := by decide +kernel
theorem dX6_readOneOf_16 : decode cX6_readOneOf 16 = .ok (.baload, 1) := by decide +kernel
theorem dX6_readOneOf_17 : decode cX6_readOneOf 17 = .ok (.i2c, 1) := by decide +kernel
theorem dX6_readOneOf_18 : decode cX6_readOneOf 18 = .ok (.invokevirtual 32, 3) := by decide +kernel
theorem dX6_readOneOf_21 : decode cX6_readOneOf 21 = .ok (.ifCond .ge 13, 3) := by decide +kernel
theorem dX6_readOneOf_24 : decode cX6_readOneOf 24 = .ok (.aload_n 0, 1) := by decide +kernel
theorem dX6_readOneOf_25 : decode cX6_readOneOf 25 = .ok (.aload_n 0, 1) := by decide +kernel
theorem dX6_readOneOf_26 : decode cX6_readOneOf 26 = .ok (.getfield 22, 3) := by decide +kernel
theorem dX6_readOneOf_29 : decode cX6_readOneOf 29 = .ok (.invokevirtual 38, 3) := by decide +kernel
theorem dX6_readOneOf_32 : decode cX6_readOneOf 32 = .ok (.iconst (-1), 1) := by decide +kernel
theorem dX6_readOneOf_33 : decode cX6_readOneOf 33 = .ok (.ireturn, 1) := by decide +kernel
theorem dX6_readOneOf_34 : decode cX6_readOneOf 34 = .ok (.aload_n 0, 1) := by decide +kernel
theorem dX6_readOneOf_35 : decode cX6_readOneOf 35 = .ok (.dup, 1) := by decide +kernel
theorem dX6_readOneOf_36 : decode cX6_readOneOf 36 = .ok (.getfield 22, 3) := by decide +kernel
theorem dX6_readOneOf_39 : decode cX6_readOneOf 39 = .ok (.iconst 1, 1) := by decide +kernel
theorem dX6_readOneOf_40 : decode cX6_readOneOf 40 = .ok (.iadd, 1) := by decide +kernel
theorem dX6_readOneOf_41 : decode cX6_readOneOf 41 = .ok (.putfield 22, 3) := by decide +kernel
theorem dX6_readOneOf_44 : decode cX6_readOneOf 44 = .ok (.aload_n 0, 1) := by decide +kernel
theorem dX6_readOneOf_45 : decode cX6_readOneOf 45 = .ok (.getfield 9, 3) := by decide +kernel
theorem dX6_readOneOf_48 : decode cX6_readOneOf 48 = .ok (.aload_n 0, 1) := by decide +kernel
theorem dX6_readOneOf_49 : decode cX6_readOneOf 49 = .ok (.getfield 22, 3) := by decide +kernel
theorem dX6_readOneOf_52 : decode cX6_readOneOf 52 = .ok (.iconst 1, 1) := by decide +kernel
theorem dX6_readOneOf_53 : decode cX6_readOneOf 53 = .ok (.isub, 1) := by decide +kernel
theorem dX6_readOneOf_54 : decode cX6_readOneOf 54 = .ok (.baload, 1) := by decide +kernel
theorem dX6_readOneOf_55 : decode cX6_readOneOf 55 = .ok (.ireturn, 1) := by decide +kernel
set_option maxRecDepth 20000 in
theorem ggX6_readNumber_X6_skipBlanks : GoodIn wsX6_readNumber wsX6_skipBlanks := goodIn_r _ [8, 1, 2, 3, 14, 15, 16, 17] (by decide +kernel) (by decide +kernel)
set_option maxRecDepth 20000 in
theorem gX6_readNumber_X6_skipBlanks : GoodIn wsX6_readNumber (wsV RX6 25 RX6 yX6_skipBlanks wsX6_skipBlanks) := goodIn_app (goodIn_of _ (by decide +kernel)) ggX6_readNumber_X6_skipBlanks
set_option maxRecDepth 20000 in
theorem ggX6_readNumber_X6_failAt : GoodIn wsX6_readNumber wsX6_failAt := goodIn_r _ [12, 13, 14, 15, 16, 17] (by decide +kernel) (by decide +kernel)
set_option maxRecDepth 20000 in
theorem gX6_readNumber_X6_failAt : GoodIn wsX6_readNumber (wsV RX6 38 RX6 yX6_failAt wsX6_failAt) := goodIn_app (goodIn_of _ (by decide +kernel)) ggX6_readNumber_X6_failAt
theorem dX6_readNumber_0 : decode cX6_readNumber 0 = .ok (.aload_n 0, 1) := by decide +kernel
theorem dX6_readNumber_1 : decode cX6_readNumber 1 = .ok (.invokevirtual 25, 3) := by decide +kernel
theorem dX6_readNumber_4 : decode cX6_readNumber 4 = .ok (.aload_n 0, 1) := by decide +kernel
theorem dX6_readNumber_5 : decode cX6_readNumber 5 = .ok (.getfield 22, 3) := by decide +kernel
theorem dX6_readNumber_8 : decode cX6_readNumber 8 = .ok (.istore_n 3, 1) := by decide +kernel
theorem dX6_readNumber_9 : decode cX6_readNumber 9 = .ok (.iload_n 1, 1) := by decide +kernel
theorem dX6_readNumber_10 : decode cX6_readNumber 10 = .ok (.ifCond .ge 32, 3) := by decide +kernel
theorem dX6_readNumber_13 : decode cX6_readNumber 13 = .ok (.aload_n 0, 1) := by decide +kernel
theorem dX6_readNumber_14 : decode cX6_readNumber 14 = .ok (.getfield 22, 3) := by decide +kernel
theorem dX6_readNumber_17 : decode cX6_readNumber 17 = .ok (.aload_n 0, 1) := by decide +kernel
theorem dX6_readNumber_18 : decode cX6_readNumber 18 = .ok (.getfield 19, 3) := by decide +kernel
theorem dX6_readNumber_21 : decode cX6_readNumber 21 = .ok (.if_icmp .ge 21, 3) := by decide +kernel
theorem dX6_readNumber_24 : decode cX6_readNumber 24 = .ok (.aload_n 0, 1) := by decide +kernel
theorem dX6_readNumber_25 : decode cX6_readNumber 25 = .ok (.getfield 9, 3) := by decide +kernel
theorem dX6_readNumber_28 : decode cX6_readNumber 28 = .ok (.aload_n 0, 1) := by decide +kernel
theorem dX6_readNumber_29 : decode cX6_readNumber 29 = .ok (.getfield 22, 3) := by decide +kernel
theorem dX6_readNumber_32 : decode cX6_readNumber 32 = .ok (.baload, 1) := by decide +kernel
theorem dX6_readNumber_33 : decode cX6_readNumber 33 = .ok (.bipush 45, 2) := by decide +kernel
theorem dX6_readNumber_35 : decode cX6_readNumber 35 = .ok (.if_icmp .ne 7, 3) := by decide +kernel
theorem dX6_readNumber_38 : decode cX6_readNumber 38 = .ok (.iconst 1, 1) := by decide +kernel
theorem dX6_readNumber_39 : decode cX6_readNumber 39 = .ok (.goto 4, 3) := by decide +kernel
theorem dX6_readNumber_42 : decode cX6_readNumber 42 = .ok (.iconst 0, 1) := by decide +kernel
theorem dX6_readNumber_43 : decode cX6_readNumber 43 = .ok (.istore 4, 2) := by decide +kernel
theorem dX6_readNumber_45 : decode cX6_readNumber 45 = .ok (.iload 4, 2) := by decide +kernel
theorem dX6_readNumber_47 : decode cX6_readNumber 47 = .ok (.ifCond .eq 13, 3) := by decide +kernel
theorem dX6_readNumber_50 : decode cX6_readNumber 50 = .ok (.aload_n 0, 1) := by decide +kernel
theorem dX6_readNumber_51 : decode cX6_readNumber 51 = .ok (.dup, 1) := by decide +kernel
theorem dX6_readNumber_52 : decode cX6_readNumber 52 = .ok (.getfield 22, 3) := by decide +kernel
theorem dX6_readNumber_55 : decode cX6_readNumber 55 = .ok (.iconst 1, 1) := by decide +kernel
theorem dX6_readNumber_56 : decode cX6_readNumber 56 = .ok (.iadd, 1) := by decide +kernel
theorem dX6_readNumber_57 : decode cX6_readNumber 57 = .ok (.putfield 22, 3) := by decide +kernel
theorem dX6_readNumber_60 : decode cX6_readNumber 60 = .ok (.aload_n 0, 1) := by decide +kernel
theorem dX6_readNumber_61 : decode cX6_readNumber 61 = .ok (.getfield 22, 3) := by decide +kernel
theorem dX6_readNumber_64 : decode cX6_readNumber 64 = .ok (.istore 5, 2) := by decide +kernel
theorem dX6_readNumber_66 : decode cX6_readNumber 66 = .ok (.iconst 0, 1) := by decide +kernel
theorem dX6_readNumber_67 : decode cX6_readNumber 67 = .ok (.istore 6, 2) := by decide +kernel
theorem dX6_readNumber_69 : decode cX6_readNumber 69 = .ok (.aload_n 0, 1) := by decide +kernel
theorem dX6_readNumber_70 : decode cX6_readNumber 70 = .ok (.getfield 22, 3) := by decide +kernel
theorem dX6_readNumber_73 : decode cX6_readNumber 73 = .ok (.aload_n 0, 1) := by decide +kernel
theorem dX6_readNumber_74 : decode cX6_readNumber 74 = .ok (.getfield 19, 3) := by decide +kernel
theorem dX6_readNumber_77 : decode cX6_readNumber 77 = .ok (.if_icmp .ge 64, 3) := by decide +kernel
theorem dX6_readNumber_80 : decode cX6_readNumber 80 = .ok (.aload_n 0, 1) := by decide +kernel
theorem dX6_readNumber_81 : decode cX6_readNumber 81 = .ok (.getfield 9, 3) := by decide +kernel
theorem dX6_readNumber_84 : decode cX6_readNumber 84 = .ok (.aload_n 0, 1) := by decide +kernel
theorem dX6_readNumber_85 : decode cX6_readNumber 85 = .ok (.getfield 22, 3) := by decide +kernel
theorem dX6_readNumber_88 : decode cX6_readNumber 88 = .ok (.baload, 1) := by decide +kernel
theorem dX6_readNumber_89 : decode cX6_readNumber 89 = .ok (.bipush 48, 2) := by decide +kernel
theorem dX6_readNumber_91 : decode cX6_readNumber 91 = .ok (.if_icmp .lt 50, 3) := by decide +kernel
theorem dX6_readNumber_94 : decode cX6_readNumber 94 = .ok (.aload_n 0, 1) := by decide +kernel
theorem dX6_readNumber_95 : decode cX6_readNumber 95 = .ok (.getfield 9, 3) := by decide +kernel
theorem dX6_readNumber_98 : decode cX6_readNumber 98 = .ok (.aload_n 0, 1) := by decide +kernel
theorem dX6_readNumber_99 : decode cX6_readNumber 99 = .ok (.getfield 22, 3) := by decide +kernel
theorem dX6_readNumber_102 : decode cX6_readNumber 102 = .ok (.baload, 1) := by decide +kernel
theorem dX6_readNumber_103 : decode cX6_readNumber 103 = .ok (.bipush 57, 2) := by decide +kernel
theorem dX6_readNumber_105 : decode cX6_readNumber 105 = .ok (.if_icmp .gt 36, 3) := by decide +kernel
theorem dX6_readNumber_108 : decode cX6_readNumber 108 = .ok (.bipush 10, 2) := by decide +kernel
theorem dX6_readNumber_110 : decode cX6_readNumber 110 = .ok (.iload 6, 2) := by decide +kernel
theorem dX6_readNumber_112 : decode cX6_readNumber 112 = .ok (.imul, 1) := by decide +kernel
theorem dX6_readNumber_113 : decode cX6_readNumber 113 = .ok (.aload_n 0, 1) := by decide +kernel
theorem dX6_readNumber_114 : decode cX6_readNumber 114 = .ok (.getfield 9, 3) := by decide +kernel
theorem dX6_readNumber_117 : decode cX6_readNumber 117 = .ok (.aload_n 0, 1) := by decide +kernel
theorem dX6_readNumber_118 : decode cX6_readNumber 118 = .ok (.getfield 22, 3) := by decide +kernel
theorem dX6_readNumber_121 : decode cX6_readNumber 121 = .ok (.baload, 1) := by decide +kernel
theorem dX6_readNumber_122 : decode cX6_readNumber 122 = .ok (.iadd, 1) := by decide +kernel
theorem dX6_readNumber_123 : decode cX6_readNumber 123 = .ok (.bipush 48, 2) := by decide +kernel
theorem dX6_readNumber_125 : decode cX6_readNumber 125 = .ok (.isub, 1) := by decide +kernel
theorem dX6_readNumber_126 : decode cX6_readNumber 126 = .ok (.istore 6, 2) := by decide +kernel
theorem dX6_readNumber_128 : decode cX6_readNumber 128 = .ok (.aload_n 0, 1) := by decide +kernel
theorem dX6_readNumber_129 : decode cX6_readNumber 129 = .ok (.dup, 1) := by decide +kernel
theorem dX6_readNumber_130 : decode cX6_readNumber 130 = .ok (.getfield 22, 3) := by decide +kernel
theorem dX6_readNumber_133 : decode cX6_readNumber 133 = .ok (.iconst 1, 1) := by decide +kernel
theorem dX6_readNumber_134 : decode cX6_readNumber 134 = .ok (.iadd, 1) := by decide +kernel
theorem dX6_readNumber_135 : decode cX6_readNumber 135 = .ok (.putfield 22, 3) := by decide +kernel
theorem dX6_readNumber_138 : decode cX6_readNumber 138 = .ok (.goto (-69), 3) := by decide +kernel
theorem dX6_readNumber_141 : decode cX6_readNumber 141 = .ok (.aload_n 0, 1) := by decide +kernel
theorem dX6_readNumber_142 : decode cX6_readNumber 142 = .ok (.getfield 22, 3) := by decide +kernel
theorem dX6_readNumber_145 : decode cX6_readNumber 145 = .ok (.iload 5, 2) := by decide +kernel
theorem dX6_readNumber_147 : decode cX6_readNumber 147 = .ok (.isub, 1) := by decide +kernel
theorem dX6_readNumber_148 : decode cX6_readNumber 148 = .ok (.istore 7, 2) := by decide +kernel
theorem dX6_readNumber_150 : decode cX6_readNumber 150 = .ok (.iload 4, 2) := by decide +kernel
theorem dX6_readNumber_152 : decode cX6_readNumber 152 = .ok (.ifCond .eq 9, 3) := by decide +kernel
theorem dX6_readNumber_155 : decode cX6_readNumber 155 = .ok (.iload 6, 2) := by decide +kernel
theorem dX6_readNumber_157 : decode cX6_readNumber 157 = .ok (.ineg, 1) := by decide +kernel
theorem dX6_readNumber_158 : decode cX6_readNumber 158 = .ok (.goto 5, 3) := by decide +kernel
theorem dX6_readNumber_161 : decode cX6_readNumber 161 = .ok (.iload 6, 2) := by decide +kernel
theorem dX6_readNumber_163 : decode cX6_readNumber 163 = .ok (.istore 8, 2) := by decide +kernel
theorem dX6_readNumber_165 : decode cX6_readNumber 165 = .ok (.iload 7, 2) := by decide +kernel
theorem dX6_readNumber_167 : decode cX6_readNumber 167 = .ok (.iconst 1, 1) := by decide +kernel
theorem dX6_readNumber_168 : decode cX6_readNumber 168 = .ok (.if_icmp .lt 21, 3) := by decide +kernel
theorem dX6_readNumber_171 : decode cX6_readNumber 171 = .ok (.iload 7, 2) := by decide +kernel
theorem dX6_readNumber_173 : decode cX6_readNumber 173 = .ok (.iconst 2, 1) := by decide +kernel
theorem dX6_readNumber_174 : decode cX6_readNumber 174 = .ok (.if_icmp .gt 15, 3) := by decide +kernel
theorem dX6_readNumber_177 : decode cX6_readNumber 177 = .ok (.iload 8, 2) := by decide +kernel
theorem dX6_readNumber_179 : decode cX6_readNumber 179 = .ok (.iload_n 1, 1) := by decide +kernel
theorem dX6_readNumber_180 : decode cX6_readNumber 180 = .ok (.if_icmp .lt 9, 3) := by decide +kernel
theorem dX6_readNumber_183 : decode cX6_readNumber 183 = .ok (.iload 8, 2) := by decide +kernel
theorem dX6_readNumber_185 : decode cX6_readNumber 185 = .ok (.iload_n 2, 1) := by decide +kernel
theorem dX6_readNumber_186 : decode cX6_readNumber 186 = .ok (.if_icmp .le 10, 3) := by decide +kernel
theorem dX6_readNumber_189 : decode cX6_readNumber 189 = .ok (.aload_n 0, 1) := by decide +kernel
theorem dX6_readNumber_190 : decode cX6_readNumber 190 = .ok (.iload_n 3, 1) := by decide +kernel
theorem dX6_readNumber_191 : decode cX6_readNumber 191 = .ok (.invokevirtual 38, 3) := by decide +kernel
theorem dX6_readNumber_194 : decode cX6_readNumber 194 = .ok (.iload_n 1, 1) := by decide +kernel
theorem dX6_readNumber_195 : decode cX6_readNumber 195 = .ok (.ireturn, 1) := by decide +kernel
theorem dX6_readNumber_196 : decode cX6_readNumber 196 = .ok (.iload 8, 2) := by decide +kernel
theorem dX6_readNumber_198 : decode cX6_readNumber 198 = .ok (.ireturn, 1) := by decide +kernel
set_option maxRecDepth 20000 in
theorem ggX6_readHex_X6_skipBlanks : GoodIn wsX6_readHex wsX6_skipBlanks := goodIn_r _ [8, 1, 2, 3, 17, 18, 19, 20] (by decide +kernel) (by decide +kernel)
set_option maxRecDepth 20000 in
theorem gX6_readHex_X6_skipBlanks : GoodIn wsX6_readHex (wsV RX6 25 RX6 yX6_skipBlanks wsX6_skipBlanks) := goodIn_app (goodIn_of _ (by decide +kernel)) ggX6_readHex_X6_skipBlanks
set_option maxRecDepth 20000 in
theorem ggX6_readHex_X6_hexValue : GoodIn wsX6_readHex wsX6_hexValue := goodIn_r _ [11] (by decide +kernel) (by decide +kernel)
set_option maxRecDepth 20000 in
theorem gX6_readHex_X6_hexValue : GoodIn wsX6_readHex (va_wsS RX6 42 yX6_hexValue wsX6_hexValue) := goodIn_app (goodIn_of _ (by decide +kernel)) ggX6_readHex_X6_hexValue
set_option maxRecDepth 20000 in
theorem ggX6_readHex_X6_failAt : GoodIn wsX6_readHex wsX6_failAt := goodIn_r _ [15, 16, 17, 18, 19, 20] (by decide +kernel) (by decide +kernel)
set_option maxRecDepth 20000 in
theorem gX6_readHex_X6_failAt : GoodIn wsX6_readHex (wsV RX6 38 RX6 yX6_failAt wsX6_failAt) := goodIn_app (goodIn_of _ (by decide +kernel)) ggX6_readHex_X6_failAt
theorem dX6_readHex_0 : decode cX6_readHex 0 = .ok (.aload_n 0, 1) := by decide +kernel
theorem dX6_readHex_1 : decode cX6_readHex 1 = .ok (.invokevirtual 25, 3) := by decide +kernel
theorem dX6_readHex_4 : decode cX6_readHex 4 = .ok (.aload_n 0, 1) := by decide +kernel
theorem dX6_readHex_5 : decode cX6_readHex 5 = .ok (.getfield 22, 3) := by decide +kernel
theorem dX6_readHex_8 : decode cX6_readHex 8 = .ok (.istore_n 2, 1) := by decide +kernel
theorem dX6_readHex_9 : decode cX6_readHex 9 = .ok (.iconst 0, 1) := by decide +kernel
theorem dX6_readHex_10 : decode cX6_readHex 10 = .ok (.istore_n 3, 1) := by decide +kernel
theorem dX6_readHex_11 : decode cX6_readHex 11 = .ok (.aload_n 0, 1) := by decide +kernel
theorem dX6_readHex_12 : decode cX6_readHex 12 = .ok (.getfield 22, 3) := by decide +kernel
theorem dX6_readHex_15 : decode cX6_readHex 15 = .ok (.aload_n 0, 1) := by decide +kernel
theorem dX6_readHex_16 : decode cX6_readHex 16 = .ok (.getfield 19, 3) := by decide +kernel
theorem dX6_readHex_19 : decode cX6_readHex 19 = .ok (.if_icmp .ge 48, 3) := by decide +kernel
theorem dX6_readHex_22 : decode cX6_readHex 22 = .ok (.aload_n 0, 1) := by decide +kernel
theorem dX6_readHex_23 : decode cX6_readHex 23 = .ok (.getfield 9, 3) := by decide +kernel
theorem dX6_readHex_26 : decode cX6_readHex 26 = .ok (.aload_n 0, 1) := by decide +kernel
theorem dX6_readHex_27 : decode cX6_readHex 27 = .ok (.getfield 22, 3) := by decide +kernel
theorem dX6_readHex_30 : decode cX6_readHex 30 = .ok (.baload, 1) := by decide +kernel
theorem dX6_readHex_31 : decode cX6_readHex 31 = .ok (.invokestatic 42, 3) := by decide +kernel
theorem dX6_readHex_34 : decode cX6_readHex 34 = .ok (.ifCond .lt 33, 3) := by decide +kernel
theorem dX6_readHex_37 : decode cX6_readHex 37 = .ok (.iload_n 3, 1) := by decide +kernel
theorem dX6_readHex_38 : decode cX6_readHex 38 = .ok (.iconst 4, 1) := by decide +kernel
theorem dX6_readHex_39 : decode cX6_readHex 39 = .ok (.ishl, 1) := by decide +kernel
theorem dX6_readHex_40 : decode cX6_readHex 40 = .ok (.aload_n 0, 1) := by decide +kernel
theorem dX6_readHex_41 : decode cX6_readHex 41 = .ok (.getfield 9, 3) := by decide +kernel
theorem dX6_readHex_44 : decode cX6_readHex 44 = .ok (.aload_n 0, 1) := by decide +kernel
theorem dX6_readHex_45 : decode cX6_readHex 45 = .ok (.getfield 22, 3) := by decide +kernel
theorem dX6_readHex_48 : decode cX6_readHex 48 = .ok (.baload, 1) := by decide +kernel
theorem dX6_readHex_49 : decode cX6_readHex 49 = .ok (.invokestatic 42, 3) := by decide +kernel
theorem dX6_readHex_52 : decode cX6_readHex 52 = .ok (.ior, 1) := by decide +kernel
theorem dX6_readHex_53 : decode cX6_readHex 53 = .ok (.istore_n 3, 1) := by decide +kernel
theorem dX6_readHex_54 : decode cX6_readHex 54 = .ok (.aload_n 0, 1) := by decide +kernel
theorem dX6_readHex_55 : decode cX6_readHex 55 = .ok (.dup, 1) := by decide +kernel
theorem dX6_readHex_56 : decode cX6_readHex 56 = .ok (.getfield 22, 3) := by decide +kernel
theorem dX6_readHex_59 : decode cX6_readHex 59 = .ok (.iconst 1, 1) := by decide +kernel
theorem dX6_readHex_60 : decode cX6_readHex 60 = .ok (.iadd, 1) := by decide +kernel
theorem dX6_readHex_61 : decode cX6_readHex 61 = .ok (.putfield 22, 3) := by decide +kernel
theorem dX6_readHex_64 : decode cX6_readHex 64 = .ok (.goto (-53), 3) := by decide +kernel
theorem dX6_readHex_67 : decode cX6_readHex 67 = .ok (.aload_n 0, 1) := by decide +kernel
theorem dX6_readHex_68 : decode cX6_readHex 68 = .ok (.getfield 22, 3) := by decide +kernel
theorem dX6_readHex_71 : decode cX6_readHex 71 = .ok (.iload_n 2, 1) := by decide +kernel
theorem dX6_readHex_72 : decode cX6_readHex 72 = .ok (.isub, 1) := by decide +kernel
theorem dX6_readHex_73 : decode cX6_readHex 73 = .ok (.istore 4, 2) := by decide +kernel
theorem dX6_readHex_75 : decode cX6_readHex 75 = .ok (.iload 4, 2) := by decide +kernel
theorem dX6_readHex_77 : decode cX6_readHex 77 = .ok (.iconst 1, 1) := by decide +kernel
theorem dX6_readHex_78 : decode cX6_readHex 78 = .ok (.if_icmp .lt 18, 3) := by decide +kernel
theorem dX6_readHex_81 : decode cX6_readHex 81 = .ok (.iload 4, 2) := by decide +kernel
theorem dX6_readHex_83 : decode cX6_readHex 83 = .ok (.bipush 8, 2) := by decide +kernel
theorem dX6_readHex_85 : decode cX6_readHex 85 = .ok (.if_icmp .gt 11, 3) := by decide +kernel
theorem dX6_readHex_88 : decode cX6_readHex 88 = .ok (.iload_n 3, 1) := by decide +kernel
theorem dX6_readHex_89 : decode cX6_readHex 89 = .ok (.iload_n 1, 1) := by decide +kernel
theorem dX6_readHex_90 : decode cX6_readHex 90 = .ok (.iconst (-1), 1) := by decide +kernel
theorem dX6_readHex_91 : decode cX6_readHex 91 = .ok (.ixor, 1) := by decide +kernel
theorem dX6_readHex_92 : decode cX6_readHex 92 = .ok (.iand, 1) := by decide +kernel
theorem dX6_readHex_93 : decode cX6_readHex 93 = .ok (.ifCond .eq 10, 3) := by decide +kernel
theorem dX6_readHex_96 : decode cX6_readHex 96 = .ok (.aload_n 0, 1) := by decide +kernel
theorem dX6_readHex_97 : decode cX6_readHex 97 = .ok (.iload_n 2, 1) := by decide +kernel
theorem dX6_readHex_98 : decode cX6_readHex 98 = .ok (.invokevirtual 38, 3) := by decide +kernel
theorem dX6_readHex_101 : decode cX6_readHex 101 = .ok (.iconst 0, 1) := by decide +kernel
theorem dX6_readHex_102 : decode cX6_readHex 102 = .ok (.ireturn, 1) := by decide +kernel
theorem dX6_readHex_103 : decode cX6_readHex 103 = .ok (.iload_n 3, 1) := by decide +kernel
theorem dX6_readHex_104 : decode cX6_readHex 104 = .ok (.ireturn, 1) := by decide +kernel
theorem dX6_hexValue_0 : decode cX6_hexValue 0 = .ok (.iload_n 0, 1) := by decide +kernel
theorem dX6_hexValue_1 : decode cX6_hexValue 1 = .ok (.bipush 48, 2) := by decide +kernel
theorem dX6_hexValue_3 : decode cX6_hexValue 3 = .ok (.if_icmp .lt 14, 3) := by decide +kernel
theorem dX6_hexValue_6 : decode cX6_hexValue 6 = .ok (.iload_n 0, 1) := by decide +kernel
theorem dX6_hexValue_7 : decode cX6_hexValue 7 = .ok (.bipush 57, 2) := by decide +kernel
theorem dX6_hexValue_9 : decode cX6_hexValue 9 = .ok (.if_icmp .gt 8, 3) := by decide +kernel
theorem dX6_hexValue_12 : decode cX6_hexValue 12 = .ok (.iload_n 0, 1) := by decide +kernel
theorem dX6_hexValue_13 : decode cX6_hexValue 13 = .ok (.bipush 48, 2) := by decide +kernel
theorem dX6_hexValue_15 : decode cX6_hexValue 15 = .ok (.isub, 1) := by decide +kernel
theorem dX6_hexValue_16 : decode cX6_hexValue 16 = .ok (.ireturn, 1) := by decide +kernel
theorem dX6_hexValue_17 : decode cX6_hexValue 17 = .ok (.iload_n 0, 1) := by decide +kernel
theorem dX6_hexValue_18 : decode cX6_hexValue 18 = .ok (.bipush 97, 2) := by decide +kernel
theorem dX6_hexValue_20 : decode cX6_hexValue 20 = .ok (.if_icmp .lt 19, 3) := by decide +kernel
theorem dX6_hexValue_23 : decode cX6_hexValue 23 = .ok (.iload_n 0, 1) := by decide +kernel
theorem dX6_hexValue_24 : decode cX6_hexValue 24 = .ok (.bipush 102, 2) := by decide +kernel
theorem dX6_hexValue_26 : decode cX6_hexValue 26 = .ok (.if_icmp .gt 13, 3) := by decide +kernel
theorem dX6_hexValue_29 : decode cX6_hexValue 29 = .ok (.iload_n 0, 1) := by decide +kernel
theorem dX6_hexValue_30 : decode cX6_hexValue 30 = .ok (.bipush 97, 2) := by decide +kernel
theorem dX6_hexValue_32 : decode cX6_hexValue 32 = .ok (.isub, 1) := by decide +kernel
theorem dX6_hexValue_33 : decode cX6_hexValue 33 = .ok (.bipush 10, 2) := by decide +kernel
theorem dX6_hexValue_35 : decode cX6_hexValue 35 = .ok (.iadd, 1) := by decide +kernel
theorem dX6_hexValue_36 : decode cX6_hexValue 36 = .ok (.goto 4, 3) := by decide +kernel
theorem dX6_hexValue_39 : decode cX6_hexValue 39 = .ok (.iconst (-1), 1) := by decide +kernel
theorem dX6_hexValue_40 : decode cX6_hexValue 40 = .ok (.ireturn, 1) := by decide +kernel
theorem dX6_skipBlanks_0 : decode cX6_skipBlanks 0 = .ok (.aload_n 0, 1) := by decide +kernel
theorem dX6_skipBlanks_1 : decode cX6_skipBlanks 1 = .ok (.getfield 22, 3) := by decide +kernel
theorem dX6_skipBlanks_4 : decode cX6_skipBlanks 4 = .ok (.aload_n 0, 1) := by decide +kernel
theorem dX6_skipBlanks_5 : decode cX6_skipBlanks 5 = .ok (.getfield 19, 3) := by decide +kernel
theorem dX6_skipBlanks_8 : decode cX6_skipBlanks 8 = .ok (.if_icmp .ge 30, 3) := by decide +kernel
theorem dX6_skipBlanks_11 : decode cX6_skipBlanks 11 = .ok (.aload_n 0, 1) := by decide +kernel
theorem dX6_skipBlanks_12 : decode cX6_skipBlanks 12 = .ok (.getfield 9, 3) := by decide +kernel
theorem dX6_skipBlanks_15 : decode cX6_skipBlanks 15 = .ok (.aload_n 0, 1) := by decide +kernel
theorem dX6_skipBlanks_16 : decode cX6_skipBlanks 16 = .ok (.getfield 22, 3) := by decide +kernel
theorem dX6_skipBlanks_19 : decode cX6_skipBlanks 19 = .ok (.baload, 1) := by decide +kernel
theorem dX6_skipBlanks_20 : decode cX6_skipBlanks 20 = .ok (.bipush 32, 2) := by decide +kernel
theorem dX6_skipBlanks_22 : decode cX6_skipBlanks 22 = .ok (.if_icmp .ne 16, 3) := by decide +kernel
theorem dX6_skipBlanks_25 : decode cX6_skipBlanks 25 = .ok (.aload_n 0, 1) := by decide +kernel
theorem dX6_skipBlanks_26 : decode cX6_skipBlanks 26 = .ok (.dup, 1) := by decide +kernel
theorem dX6_skipBlanks_27 : decode cX6_skipBlanks 27 = .ok (.getfield 22, 3) := by decide +kernel
theorem dX6_skipBlanks_30 : decode cX6_skipBlanks 30 = .ok (.iconst 1, 1) := by decide +kernel
theorem dX6_skipBlanks_31 : decode cX6_skipBlanks 31 = .ok (.iadd, 1) := by decide +kernel
theorem dX6_skipBlanks_32 : decode cX6_skipBlanks 32 = .ok (.putfield 22, 3) := by decide +kernel
theorem dX6_skipBlanks_35 : decode cX6_skipBlanks 35 = .ok (.goto (-35), 3) := by decide +kernel
theorem dX6_skipBlanks_38 : decode cX6_skipBlanks 38 = .ok (.return_, 1) := by decide +kernel
theorem dX6_failAt_0 : decode cX6_failAt 0 = .ok (.aload_n 0, 1) := by decide +kernel
theorem dX6_failAt_1 : decode cX6_failAt 1 = .ok (.getfield 15, 3) := by decide +kernel
theorem dX6_failAt_4 : decode cX6_failAt 4 = .ok (.iconst (-1), 1) := by decide +kernel
theorem dX6_failAt_5 : decode cX6_failAt 5 = .ok (.if_icmp .ne 8, 3) := by decide +kernel
theorem dX6_failAt_8 : decode cX6_failAt 8 = .ok (.aload_n 0, 1) := by decide +kernel
theorem dX6_failAt_9 : decode cX6_failAt 9 = .ok (.iload_n 1, 1) := by decide +kernel
theorem dX6_failAt_10 : decode cX6_failAt 10 = .ok (.putfield 15, 3) := by decide +kernel
theorem dX6_failAt_13 : decode cX6_failAt 13 = .ok (.return_, 1) := by decide +kernel
theorem dX7_init_0 : decode cX7_init 0 = .ok (.aload_n 0, 1) := by decide +kernel
theorem dX7_init_1 : decode cX7_init 1 = .ok (.invokespecial 3, 3) := by decide +kernel
theorem dX7_init_4 : decode cX7_init 4 = .ok (.aload_n 0, 1) := by decide +kernel
theorem dX7_init_5 : decode cX7_init 5 = .ok (.bipush 16, 2) := by decide +kernel
theorem dX7_init_7 : decode cX7_init 7 = .ok (.newarray .int, 2) := by decide +kernel
theorem dX7_init_9 : decode cX7_init 9 = .ok (.putfield 9, 3) := by decide +kernel
theorem dX7_init_12 : decode cX7_init 12 = .ok (.return_, 1) := by decide +kernel
set_option maxRecDepth 20000 in
theorem ggX7_seek_X7_prepare : GoodIn wsX7_seek wsX7_prepare := goodIn_r _ [10, 11, 12, 13, 14, 15, 16, 2, 3, 17, 18, 19, 20, 21, 22, 23, 24, 25, 26, 27, 49, 50, 51, 52, 53, 43, 44, 45, 46, 47, 48] (by decide +kernel) (by decide +kernel)
set_option maxRecDepth 20000 in
theorem gX7_seek_X7_prepare : GoodIn wsX7_seek (wsV RX7 15 RX7 yX7_prepare wsX7_prepare) := goodIn_app (goodIn_of _ (by decide +kernel)) ggX7_seek_X7_prepare
set_option maxRecDepth 20000 in
theorem ggX7_seek_X7_stepTo : GoodIn wsX7_seek wsX7_stepTo := goodIn_r _ [31, 3, 16, 32, 33, 34, 35, 36, 43, 44, 45, 46, 47, 48] (by decide +kernel) (by decide +kernel)
set_option maxRecDepth 20000 in
theorem gX7_seek_X7_stepTo : GoodIn wsX7_seek (wsV RX7 26 RX7 yX7_stepTo wsX7_stepTo) := goodIn_app (goodIn_of _ (by decide +kernel)) ggX7_seek_X7_stepTo
set_option maxRecDepth 20000 in
theorem ggX7_seek_J6_bitCount_0f7a4 : GoodIn wsX7_seek wsJ6_bitCount_0f7a4 := goodIn_r _ [39, 40, 41, 42] (by decide +kernel) (by decide +kernel)
set_option maxRecDepth 20000 in
theorem gX7_seek_J6_bitCount_0f7a4 : GoodIn wsX7_seek (va_wsS RX7 33 yJ6_bitCount_0f7a4 wsJ6_bitCount_0f7a4) := goodIn_app (goodIn_of _ (by decide +kernel)) ggX7_seek_J6_bitCount_0f7a4
theorem dX7_seek_0 : decode cX7_seek 0 = .ok (.aload_n 0, 1) := by decide +kernel
theorem dX7_seek_1 : decode cX7_seek 1 = .ok (.aload_n 1, 1) := by decide +kernel
theorem dX7_seek_2 : decode cX7_seek 2 = .ok (.invokevirtual 15, 3) := by decide +kernel
theorem dX7_seek_5 : decode cX7_seek 5 = .ok (.aload_n 0, 1) := by decide +kernel
theorem dX7_seek_6 : decode cX7_seek 6 = .ok (.bipush 33, 2) := by decide +kernel
theorem dX7_seek_8 : decode cX7_seek 8 = .ok (.putfield 19, 3) := by decide +kernel
theorem dX7_seek_11 : decode cX7_seek 11 = .ok (.iconst 0, 1) := by decide +kernel
theorem dX7_seek_12 : decode cX7_seek 12 = .ok (.istore_n 3, 1) := by decide +kernel
theorem dX7_seek_13 : decode cX7_seek 13 = .ok (.iload_n 3, 1) := by decide +kernel
theorem dX7_seek_14 : decode cX7_seek 14 = .ok (.aload_n 0, 1) := by decide +kernel
theorem dX7_seek_15 : decode cX7_seek 15 = .ok (.getfield 23, 3) := by decide +kernel
theorem dX7_seek_18 : decode cX7_seek 18 = .ok (.if_icmp .ge 75, 3) := by decide +kernel
theorem dX7_seek_21 : decode cX7_seek 21 = .ok (.aload_n 0, 1) := by decide +kernel
theorem dX7_seek_22 : decode cX7_seek 22 = .ok (.iload_n 3, 1) := by decide +kernel
theorem dX7_seek_23 : decode cX7_seek 23 = .ok (.invokevirtual 26, 3) := by decide +kernel
theorem dX7_seek_26 : decode cX7_seek 26 = .ok (.aload_n 0, 1) := by decide +kernel
theorem dX7_seek_27 : decode cX7_seek 27 = .ok (.getfield 30, 3) := by decide +kernel
theorem dX7_seek_30 : decode cX7_seek 30 = .ok (.iload_n 2, 1) := by decide +kernel
theorem dX7_seek_31 : decode cX7_seek 31 = .ok (.ixor, 1) := by decide +kernel
theorem dX7_seek_32 : decode cX7_seek 32 = .ok (.invokestatic 33, 3) := by decide +kernel
theorem dX7_seek_35 : decode cX7_seek 35 = .ok (.istore 4, 2) := by decide +kernel
theorem dX7_seek_37 : decode cX7_seek 37 = .ok (.iload 4, 2) := by decide +kernel
theorem dX7_seek_39 : decode cX7_seek 39 = .ok (.aload_n 0, 1) := by decide +kernel
theorem dX7_seek_40 : decode cX7_seek 40 = .ok (.getfield 19, 3) := by decide +kernel
theorem dX7_seek_43 : decode cX7_seek 43 = .ok (.if_icmp .ge 25, 3) := by decide +kernel
theorem dX7_seek_46 : decode cX7_seek 46 = .ok (.aload_n 0, 1) := by decide +kernel
theorem dX7_seek_47 : decode cX7_seek 47 = .ok (.iload 4, 2) := by decide +kernel
theorem dX7_seek_49 : decode cX7_seek 49 = .ok (.putfield 19, 3) := by decide +kernel
theorem dX7_seek_52 : decode cX7_seek 52 = .ok (.aload_n 0, 1) := by decide +kernel
theorem dX7_seek_53 : decode cX7_seek 53 = .ok (.iconst 1, 1) := by decide +kernel
theorem dX7_seek_54 : decode cX7_seek 54 = .ok (.putfield 39, 3) := by decide +kernel
theorem dX7_seek_57 : decode cX7_seek 57 = .ok (.aload_n 0, 1) := by decide +kernel
theorem dX7_seek_58 : decode cX7_seek 58 = .ok (.aload_n 0, 1) := by decide +kernel
theorem dX7_seek_59 : decode cX7_seek 59 = .ok (.getfield 30, 3) := by decide +kernel
theorem dX7_seek_62 : decode cX7_seek 62 = .ok (.putfield 42, 3) := by decide +kernel
theorem dX7_seek_65 : decode cX7_seek 65 = .ok (.goto 22, 3) := by decide +kernel
theorem dX7_seek_68 : decode cX7_seek 68 = .ok (.iload 4, 2) := by decide +kernel
theorem dX7_seek_70 : decode cX7_seek 70 = .ok (.aload_n 0, 1) := by decide +kernel
theorem dX7_seek_71 : decode cX7_seek 71 = .ok (.getfield 19, 3) := by decide +kernel
theorem dX7_seek_74 : decode cX7_seek 74 = .ok (.if_icmp .ne 13, 3) := by decide +kernel
theorem dX7_seek_77 : decode cX7_seek 77 = .ok (.aload_n 0, 1) := by decide +kernel
theorem dX7_seek_78 : decode cX7_seek 78 = .ok (.dup, 1) := by decide +kernel
theorem dX7_seek_79 : decode cX7_seek 79 = .ok (.getfield 39, 3) := by decide +kernel
theorem dX7_seek_82 : decode cX7_seek 82 = .ok (.iconst 1, 1) := by decide +kernel
theorem dX7_seek_83 : decode cX7_seek 83 = .ok (.iadd, 1) := by decide +kernel
theorem dX7_seek_84 : decode cX7_seek 84 = .ok (.putfield 39, 3) := by decide +kernel
theorem dX7_seek_87 : decode cX7_seek 87 = .ok (.iinc 3 1, 3) := by decide +kernel
theorem dX7_seek_90 : decode cX7_seek 90 = .ok (.goto (-77), 3) := by decide +kernel
theorem dX7_seek_93 : decode cX7_seek 93 = .ok (.return_, 1) := by decide +kernel
set_option maxRecDepth 20000 in
theorem ggX7_howManyWeigh_X7_prepare : GoodIn wsX7_howManyWeigh wsX7_prepare := goodIn_r _ [7, 8, 9, 10, 11, 12, 13, 1, 2, 14, 15, 16, 17, 18, 19, 20, 21, 22, 23, 24, 46, 47, 48, 49, 50, 40, 41, 42, 43, 44, 45] (by decide +kernel) (by decide +kernel)
set_option maxRecDepth 20000 in
theorem gX7_howManyWeigh_X7_prepare : GoodIn wsX7_howManyWeigh (wsV RX7 15 RX7 yX7_prepare wsX7_prepare) := goodIn_app (goodIn_of _ (by decide +kernel)) ggX7_howManyWeigh_X7_prepare
set_option maxRecDepth 20000 in
theorem ggX7_howManyWeigh_X7_stepTo : GoodIn wsX7_howManyWeigh wsX7_stepTo := goodIn_r _ [28, 2, 13, 29, 30, 31, 32, 33, 40, 41, 42, 43, 44, 45] (by decide +kernel) (by decide +kernel)
set_option maxRecDepth 20000 in
theorem gX7_howManyWeigh_X7_stepTo : GoodIn wsX7_howManyWeigh (wsV RX7 26 RX7 yX7_stepTo wsX7_stepTo) := goodIn_app (goodIn_of _ (by decide +kernel)) ggX7_howManyWeigh_X7_stepTo
set_option maxRecDepth 20000 in
theorem ggX7_howManyWeigh_J6_bitCount_0f7a4 : GoodIn wsX7_howManyWeigh wsJ6_bitCount_0f7a4 := goodIn_r _ [36, 37, 38, 39] (by decide +kernel) (by decide +kernel)
set_option maxRecDepth 20000 in
theorem gX7_howManyWeigh_J6_bitCount_0f7a4 : GoodIn wsX7_howManyWeigh (va_wsS RX7 33 yJ6_bitCount_0f7a4 wsJ6_bitCount_0f7a4) := goodIn_app (goodIn_of _ (by decide +kernel)) ggX7_howManyWeigh_J6_bitCount_0f7a4
theorem dX7_howManyWeigh_0 : decode cX7_howManyWeigh 0 = .ok (.aload_n 0, 1) := by decide +kernel
theorem dX7_howManyWeigh_1 : decode cX7_howManyWeigh 1 = .ok (.aload_n 1, 1) := by decide +kernel
theorem dX7_howManyWeigh_2 : decode cX7_howManyWeigh 2 = .ok (.invokevirtual 15, 3) := by decide +kernel
theorem dX7_howManyWeigh_5 : decode cX7_howManyWeigh 5 = .ok (.iconst 0, 1) := by decide +kernel
theorem dX7_howManyWeigh_6 : decode cX7_howManyWeigh 6 = .ok (.istore_n 3, 1) := by decide +kernel
theorem dX7_howManyWeigh_7 : decode cX7_howManyWeigh 7 = .ok (.iconst 0, 1) := by decide +kernel
theorem dX7_howManyWeigh_8 : decode cX7_howManyWeigh 8 = .ok (.istore 4, 2) := by decide +kernel
theorem dX7_howManyWeigh_10 : decode cX7_howManyWeigh 10 = .ok (.iload 4, 2) := by decide +kernel
theorem dX7_howManyWeigh_12 : decode cX7_howManyWeigh 12 = .ok (.aload_n 0, 1) := by decide +kernel
theorem dX7_howManyWeigh_13 : decode cX7_howManyWeigh 13 = .ok (.getfield 23, 3) := by decide +kernel
theorem dX7_howManyWeigh_16 : decode cX7_howManyWeigh 16 = .ok (.if_icmp .ge 29, 3) := by decide +kernel
theorem dX7_howManyWeigh_19 : decode cX7_howManyWeigh 19 = .ok (.aload_n 0, 1) := by decide +kernel
theorem dX7_howManyWeigh_20 : decode cX7_howManyWeigh 20 = .ok (.iload 4, 2) := by decide +kernel
theorem dX7_howManyWeigh_22 : decode cX7_howManyWeigh 22 = .ok (.invokevirtual 26, 3) := by decide +kernel
theorem dX7_howManyWeigh_25 : decode cX7_howManyWeigh 25 = .ok (.aload_n 0, 1) := by decide +kernel
theorem dX7_howManyWeigh_26 : decode cX7_howManyWeigh 26 = .ok (.getfield 30, 3) := by decide +kernel
theorem dX7_howManyWeigh_29 : decode cX7_howManyWeigh 29 = .ok (.invokestatic 33, 3) := by decide +kernel
theorem dX7_howManyWeigh_32 : decode cX7_howManyWeigh 32 = .ok (.iload_n 2, 1) := by decide +kernel
theorem dX7_howManyWeigh_33 : decode cX7_howManyWeigh 33 = .ok (.if_icmp .ne 6, 3) := by decide +kernel
theorem dX7_howManyWeigh_36 : decode cX7_howManyWeigh 36 = .ok (.iinc 3 1, 3) := by decide +kernel
theorem dX7_howManyWeigh_39 : decode cX7_howManyWeigh 39 = .ok (.iinc 4 1, 3) := by decide +kernel
theorem dX7_howManyWeigh_42 : decode cX7_howManyWeigh 42 = .ok (.goto (-32), 3) := by decide +kernel
theorem dX7_howManyWeigh_45 : decode cX7_howManyWeigh 45 = .ok (.iload_n 3, 1) := by decide +kernel
theorem dX7_howManyWeigh_46 : decode cX7_howManyWeigh 46 = .ok (.ireturn, 1) := by decide +kernel
set_option maxRecDepth 20000 in
theorem ggX7_greatest_X7_prepare : GoodIn wsX7_greatest wsX7_prepare := goodIn_r _ [11, 12, 13, 14, 5, 15, 16, 1, 2, 17, 18, 19, 20, 21, 22, 23, 24, 25, 26, 27, 49, 50, 51, 52, 53, 43, 44, 45, 46, 47, 48] (by decide +kernel) (by decide +kernel)
set_option maxRecDepth 20000 in
theorem gX7_greatest_X7_prepare : GoodIn wsX7_greatest (wsV RX7 15 RX7 yX7_prepare wsX7_prepare) := goodIn_app (goodIn_of _ (by decide +kernel)) ggX7_greatest_X7_prepare
set_option maxRecDepth 20000 in
theorem ggX7_greatest_X3_sumFor : GoodIn wsX7_greatest wsX3_sumFor := goodIn_r _ [32, 33, 54] (by decide +kernel) (by decide +kernel)
set_option maxRecDepth 20000 in
theorem gX7_greatest_X3_sumFor : GoodIn wsX7_greatest (wsV RX7 45 RX3 yX3_sumFor wsX3_sumFor) := goodIn_app (goodIn_of _ (by decide +kernel)) ggX7_greatest_X3_sumFor
set_option maxRecDepth 20000 in
theorem ggX7_greatest_X7_stepTo : GoodIn wsX7_greatest wsX7_stepTo := goodIn_r _ [37, 2, 16, 38, 39, 40, 41, 42, 43, 44, 45, 46, 47, 48] (by decide +kernel) (by decide +kernel)
set_option maxRecDepth 20000 in
theorem gX7_greatest_X7_stepTo : GoodIn wsX7_greatest (wsV RX7 26 RX7 yX7_stepTo wsX7_stepTo) := goodIn_app (goodIn_of _ (by decide +kernel)) ggX7_greatest_X7_stepTo
theorem dX7_greatest_0 : decode cX7_greatest 0 = .ok (.aload_n 0, 1) := by decide +kernel
theorem dX7_greatest_1 : decode cX7_greatest 1 = .ok (.aload_n 1, 1) := by decide +kernel
theorem dX7_greatest_2 : decode cX7_greatest 2 = .ok (.invokevirtual 15, 3) := by decide +kernel
theorem dX7_greatest_5 : decode cX7_greatest 5 = .ok (.aload_n 2, 1) := by decide +kernel
theorem dX7_greatest_6 : decode cX7_greatest 6 = .ok (.iconst 0, 1) := by decide +kernel
theorem dX7_greatest_7 : decode cX7_greatest 7 = .ok (.invokevirtual 45, 3) := by decide +kernel
theorem dX7_greatest_10 : decode cX7_greatest 10 = .ok (.istore_n 3, 1) := by decide +kernel
theorem dX7_greatest_11 : decode cX7_greatest 11 = .ok (.iconst 0, 1) := by decide +kernel
theorem dX7_greatest_12 : decode cX7_greatest 12 = .ok (.istore 4, 2) := by decide +kernel
theorem dX7_greatest_14 : decode cX7_greatest 14 = .ok (.iload 4, 2) := by decide +kernel
theorem dX7_greatest_16 : decode cX7_greatest 16 = .ok (.aload_n 0, 1) := by decide +kernel
theorem dX7_greatest_17 : decode cX7_greatest 17 = .ok (.getfield 23, 3) := by decide +kernel
theorem dX7_greatest_20 : decode cX7_greatest 20 = .ok (.if_icmp .ge 28, 3) := by decide +kernel
theorem dX7_greatest_23 : decode cX7_greatest 23 = .ok (.aload_n 0, 1) := by decide +kernel
theorem dX7_greatest_24 : decode cX7_greatest 24 = .ok (.iload 4, 2) := by decide +kernel
theorem dX7_greatest_26 : decode cX7_greatest 26 = .ok (.invokevirtual 26, 3) := by decide +kernel
theorem dX7_greatest_29 : decode cX7_greatest 29 = .ok (.iload_n 3, 1) := by decide +kernel
theorem dX7_greatest_30 : decode cX7_greatest 30 = .ok (.aload_n 2, 1) := by decide +kernel
theorem dX7_greatest_31 : decode cX7_greatest 31 = .ok (.aload_n 0, 1) := by decide +kernel
theorem dX7_greatest_32 : decode cX7_greatest 32 = .ok (.getfield 30, 3) := by decide +kernel
theorem dX7_greatest_35 : decode cX7_greatest 35 = .ok (.invokevirtual 45, 3) := by decide +kernel
theorem dX7_greatest_38 : decode cX7_greatest 38 = .ok (.invokestatic 50, 3) := by decide +kernel
theorem dX7_greatest_41 : decode cX7_greatest 41 = .ok (.istore_n 3, 1) := by decide +kernel
theorem dX7_greatest_42 : decode cX7_greatest 42 = .ok (.iinc 4 1, 3) := by decide +kernel
theorem dX7_greatest_45 : decode cX7_greatest 45 = .ok (.goto (-31), 3) := by decide +kernel
theorem dX7_greatest_48 : decode cX7_greatest 48 = .ok (.iload_n 3, 1) := by decide +kernel
theorem dX7_greatest_49 : decode cX7_greatest 49 = .ok (.ireturn, 1) := by decide +kernel
set_option maxRecDepth 20000 in
theorem ggX7_prepare_X1_wordOfTerm : GoodIn wsX7_prepare wsX1_wordOfTerm := goodIn_r _ [13, 14, 15, 16, 17, 12, 18, 19, 20, 21, 22, 23, 24] (by decide +kernel) (by decide +kernel)
set_option maxRecDepth 20000 in
theorem gX7_prepare_X1_wordOfTerm : GoodIn wsX7_prepare (wsV RX7 64 RX1 yX1_wordOfTerm wsX1_wordOfTerm) := goodIn_app (goodIn_of _ (by decide +kernel)) ggX7_prepare_X1_wordOfTerm
theorem dX7_prepare_0 : decode cX7_prepare 0 = .ok (.aload_n 1, 1) := by decide +kernel
theorem dX7_prepare_1 : decode cX7_prepare 1 = .ok (.getfield 56, 3) := by decide +kernel
theorem dX7_prepare_4 : decode cX7_prepare 4 = .ok (.bipush 16, 2) := by decide +kernel
theorem dX7_prepare_6 : decode cX7_prepare 6 = .ok (.invokestatic 61, 3) := by decide +kernel
theorem dX7_prepare_9 : decode cX7_prepare 9 = .ok (.istore_n 2, 1) := by decide +kernel
theorem dX7_prepare_10 : decode cX7_prepare 10 = .ok (.iconst 0, 1) := by decide +kernel
theorem dX7_prepare_11 : decode cX7_prepare 11 = .ok (.istore_n 3, 1) := by decide +kernel
theorem dX7_prepare_12 : decode cX7_prepare 12 = .ok (.iconst 0, 1) := by decide +kernel
theorem dX7_prepare_13 : decode cX7_prepare 13 = .ok (.istore 4, 2) := by decide +kernel
theorem dX7_prepare_15 : decode cX7_prepare 15 = .ok (.iload 4, 2) := by decide +kernel
theorem dX7_prepare_17 : decode cX7_prepare 17 = .ok (.iload_n 2, 1) := by decide +kernel
theorem dX7_prepare_18 : decode cX7_prepare 18 = .ok (.if_icmp .ge 26, 3) := by decide +kernel
theorem dX7_prepare_21 : decode cX7_prepare 21 = .ok (.iload_n 3, 1) := by decide +kernel
theorem dX7_prepare_22 : decode cX7_prepare 22 = .ok (.aload_n 1, 1) := by decide +kernel
theorem dX7_prepare_23 : decode cX7_prepare 23 = .ok (.iload 4, 2) := by decide +kernel
theorem dX7_prepare_25 : decode cX7_prepare 25 = .ok (.invokevirtual 64, 3) := by decide +kernel
theorem dX7_prepare_28 : decode cX7_prepare 28 = .ok (.ixor, 1) := by decide +kernel
theorem dX7_prepare_29 : decode cX7_prepare 29 = .ok (.istore_n 3, 1) := by decide +kernel
theorem dX7_prepare_30 : decode cX7_prepare 30 = .ok (.aload_n 0, 1) := by decide +kernel
theorem dX7_prepare_31 : decode cX7_prepare 31 = .ok (.getfield 9, 3) := by decide +kernel
theorem dX7_prepare_34 : decode cX7_prepare 34 = .ok (.iload 4, 2) := by decide +kernel
theorem dX7_prepare_36 : decode cX7_prepare 36 = .ok (.iload_n 3, 1) := by decide +kernel
theorem dX7_prepare_37 : decode cX7_prepare 37 = .ok (.iastore, 1) := by decide +kernel
theorem dX7_prepare_38 : decode cX7_prepare 38 = .ok (.iinc 4 1, 3) := by decide +kernel
theorem dX7_prepare_41 : decode cX7_prepare 41 = .ok (.goto (-26), 3) := by decide +kernel
theorem dX7_prepare_44 : decode cX7_prepare 44 = .ok (.aload_n 0, 1) := by decide +kernel
theorem dX7_prepare_45 : decode cX7_prepare 45 = .ok (.iconst 1, 1) := by decide +kernel
theorem dX7_prepare_46 : decode cX7_prepare 46 = .ok (.iload_n 2, 1) := by decide +kernel
theorem dX7_prepare_47 : decode cX7_prepare 47 = .ok (.ishl, 1) := by decide +kernel
theorem dX7_prepare_48 : decode cX7_prepare 48 = .ok (.putfield 23, 3) := by decide +kernel
theorem dX7_prepare_51 : decode cX7_prepare 51 = .ok (.aload_n 0, 1) := by decide +kernel
theorem dX7_prepare_52 : decode cX7_prepare 52 = .ok (.iconst 0, 1) := by decide +kernel
theorem dX7_prepare_53 : decode cX7_prepare 53 = .ok (.putfield 30, 3) := by decide +kernel
theorem dX7_prepare_56 : decode cX7_prepare 56 = .ok (.return_, 1) := by decide +kernel
set_option maxRecDepth 20000 in
theorem ggX7_stepTo_J6_numberOfTrailingZeros_0f7a4 : GoodIn wsX7_stepTo wsJ6_numberOfTrailingZeros_0f7a4 := goodIn_r _ [6, 7] (by decide +kernel) (by decide +kernel)
set_option maxRecDepth 20000 in
theorem gX7_stepTo_J6_numberOfTrailingZeros_0f7a4 : GoodIn wsX7_stepTo (va_wsS RX7 67 yJ6_numberOfTrailingZeros_0f7a4 wsJ6_numberOfTrailingZeros_0f7a4) := goodIn_app (goodIn_of _ (by decide +kernel)) ggX7_stepTo_J6_numberOfTrailingZeros_0f7a4
theorem dX7_stepTo_0 : decode cX7_stepTo 0 = .ok (.iload_n 1, 1) := by decide +kernel
theorem dX7_stepTo_1 : decode cX7_stepTo 1 = .ok (.invokestatic 67, 3) := by decide +kernel
theorem dX7_stepTo_4 : decode cX7_stepTo 4 = .ok (.istore_n 2, 1) := by decide +kernel
theorem dX7_stepTo_5 : decode cX7_stepTo 5 = .ok (.iload_n 2, 1) := by decide +kernel
theorem dX7_stepTo_6 : decode cX7_stepTo 6 = .ok (.bipush 16, 2) := by decide +kernel
theorem dX7_stepTo_8 : decode cX7_stepTo 8 = .ok (.if_icmp .ge 18, 3) := by decide +kernel
theorem dX7_stepTo_11 : decode cX7_stepTo 11 = .ok (.aload_n 0, 1) := by decide +kernel
theorem dX7_stepTo_12 : decode cX7_stepTo 12 = .ok (.dup, 1) := by decide +kernel
theorem dX7_stepTo_13 : decode cX7_stepTo 13 = .ok (.getfield 30, 3) := by decide +kernel
theorem dX7_stepTo_16 : decode cX7_stepTo 16 = .ok (.aload_n 0, 1) := by decide +kernel
theorem dX7_stepTo_17 : decode cX7_stepTo 17 = .ok (.getfield 9, 3) := by decide +kernel
theorem dX7_stepTo_20 : decode cX7_stepTo 20 = .ok (.iload_n 2, 1) := by decide +kernel
theorem dX7_stepTo_21 : decode cX7_stepTo 21 = .ok (.iaload, 1) := by decide +kernel
theorem dX7_stepTo_22 : decode cX7_stepTo 22 = .ok (.ixor, 1) := by decide +kernel
theorem dX7_stepTo_23 : decode cX7_stepTo 23 = .ok (.putfield 30, 3) := by decide +kernel
theorem dX7_stepTo_26 : decode cX7_stepTo 26 = .ok (.return_, 1) := by decide +kernel
set_option maxRecDepth 20000 in
theorem ggX8_init_X5_init : GoodIn wsX8_init wsX5_init := goodIn_r _ [34, 35, 2, 3, 36, 37, 38, 39, 40, 41, 42, 43, 44, 45, 132, 133, 134, 135, 136, 98, 99, 100] (by decide +kernel) (by decide +kernel)
set_option maxRecDepth 20000 in
theorem gX8_init_X5_init_n9 : GoodIn wsX8_init (wsX5_init) := ggX8_init_X5_init
set_option maxRecDepth 20000 in
theorem ggX8_init_X4_init : GoodIn wsX8_init wsX4_init := goodIn_r _ [48, 49, 2, 3, 50, 51, 5, 6, 33, 34, 35, 36, 37, 38, 39, 40, 41, 42, 43, 44, 45, 112, 113, 114, 98, 99, 100, 132, 133, 134, 135, 136] (by decide +kernel) (by decide +kernel)
set_option maxRecDepth 20000 in
theorem gX8_init_X4_init : GoodIn wsX8_init (wsX4_init) := ggX8_init_X4_init
set_option maxRecDepth 20000 in
theorem ggX8_init_X6_init : GoodIn wsX8_init wsX6_init := goodIn_r _ [53, 54, 2, 3, 55, 56, 57, 115, 116, 117, 118] (by decide +kernel) (by decide +kernel)
set_option maxRecDepth 20000 in
theorem gX8_init_X6_init_n28 : GoodIn wsX8_init (wsX6_init) := ggX8_init_X6_init
set_option maxRecDepth 20000 in
theorem ggX8_init_X0_init : GoodIn wsX8_init wsX0_init := goodIn_r _ [59, 60, 2, 3] (by decide +kernel) (by decide +kernel)
set_option maxRecDepth 20000 in
theorem gX8_init_X0_init_n35 : GoodIn wsX8_init (wsX0_init) := ggX8_init_X0_init
set_option maxRecDepth 20000 in
theorem ggX8_init_X2_init : GoodIn wsX8_init wsX2_init := goodIn_r _ [62, 63, 2, 3, 64, 40, 65, 124] (by decide +kernel) (by decide +kernel)
set_option maxRecDepth 20000 in
theorem gX8_init_X2_init_n42 : GoodIn wsX8_init (wsX2_init) := ggX8_init_X2_init
set_option maxRecDepth 20000 in
theorem ggX8_init_X3_init : GoodIn wsX8_init wsX3_init := goodIn_r _ [67, 68, 2, 3, 40, 69, 125] (by decide +kernel) (by decide +kernel)
set_option maxRecDepth 20000 in
theorem gX8_init_X3_init_n49 : GoodIn wsX8_init (wsX3_init) := ggX8_init_X3_init
set_option maxRecDepth 20000 in
theorem ggX8_init_X7_init : GoodIn wsX8_init wsX7_init := goodIn_r _ [71, 72, 2, 3, 40, 73, 126, 127, 128, 129, 130, 131] (by decide +kernel) (by decide +kernel)
set_option maxRecDepth 20000 in
theorem gX8_init_X7_init_n56 : GoodIn wsX8_init (wsX7_init) := ggX8_init_X7_init
set_option maxRecDepth 20000 in
theorem ggX8_init_X5_start : GoodIn wsX8_init wsX5_start := goodIn_r _ [77, 39, 78, 41, 79, 80, 81, 38, 82, 83, 84, 85, 86, 45, 87, 88, 89, 90, 91, 92, 93, 94, 95, 96, 97, 98, 99, 100, 132, 133, 134, 135, 136] (by decide +kernel) (by decide +kernel)
set_option maxRecDepth 20000 in
theorem gX8_init_X5_start : GoodIn wsX8_init (wsV RX8 61 RX5 yX5_start wsX5_start) := goodIn_app (goodIn_of _ (by decide +kernel)) ggX8_init_X5_start
theorem dX8_init_0 : decode cX8_init 0 = .ok (.aload_n 0, 1) := by decide +kernel
theorem dX8_init_1 : decode cX8_init 1 = .ok (.invokespecial 1, 3) := by decide +kernel
theorem dX8_init_4 : decode cX8_init 4 = .ok (.aload_n 0, 1) := by decide +kernel
theorem dX8_init_5 : decode cX8_init 5 = .ok (.new 7, 3) := by decide +kernel
theorem dX8_init_8 : decode cX8_init 8 = .ok (.dup, 1) := by decide +kernel
theorem dX8_init_9 : decode cX8_init 9 = .ok (.invokespecial 9, 3) := by decide +kernel
theorem dX8_init_12 : decode cX8_init 12 = .ok (.putfield 10, 3) := by decide +kernel
theorem dX8_init_15 : decode cX8_init 15 = .ok (.aload_n 0, 1) := by decide +kernel
theorem dX8_init_16 : decode cX8_init 16 = .ok (.new 7, 3) := by decide +kernel
theorem dX8_init_19 : decode cX8_init 19 = .ok (.dup, 1) := by decide +kernel
theorem dX8_init_20 : decode cX8_init 20 = .ok (.invokespecial 9, 3) := by decide +kernel
theorem dX8_init_23 : decode cX8_init 23 = .ok (.putfield 16, 3) := by decide +kernel
theorem dX8_init_26 : decode cX8_init 26 = .ok (.aload_n 0, 1) := by decide +kernel
theorem dX8_init_27 : decode cX8_init 27 = .ok (.new 19, 3) := by decide +kernel
theorem dX8_init_30 : decode cX8_init 30 = .ok (.dup, 1) := by decide +kernel
theorem dX8_init_31 : decode cX8_init 31 = .ok (.invokespecial 21, 3) := by decide +kernel
theorem dX8_init_34 : decode cX8_init 34 = .ok (.putfield 22, 3) := by decide +kernel
theorem dX8_init_37 : decode cX8_init 37 = .ok (.aload_n 0, 1) := by decide +kernel
theorem dX8_init_38 : decode cX8_init 38 = .ok (.new 26, 3) := by decide +kernel
theorem dX8_init_41 : decode cX8_init 41 = .ok (.dup, 1) := by decide +kernel
theorem dX8_init_42 : decode cX8_init 42 = .ok (.invokespecial 28, 3) := by decide +kernel
theorem dX8_init_45 : decode cX8_init 45 = .ok (.putfield 29, 3) := by decide +kernel
theorem dX8_init_48 : decode cX8_init 48 = .ok (.aload_n 0, 1) := by decide +kernel
theorem dX8_init_49 : decode cX8_init 49 = .ok (.new 33, 3) := by decide +kernel
theorem dX8_init_52 : decode cX8_init 52 = .ok (.dup, 1) := by decide +kernel
theorem dX8_init_53 : decode cX8_init 53 = .ok (.invokespecial 35, 3) := by decide +kernel
theorem dX8_init_56 : decode cX8_init 56 = .ok (.putfield 36, 3) := by decide +kernel
theorem dX8_init_59 : decode cX8_init 59 = .ok (.aload_n 0, 1) := by decide +kernel
theorem dX8_init_60 : decode cX8_init 60 = .ok (.new 40, 3) := by decide +kernel
theorem dX8_init_63 : decode cX8_init 63 = .ok (.dup, 1) := by decide +kernel
theorem dX8_init_64 : decode cX8_init 64 = .ok (.invokespecial 42, 3) := by decide +kernel
theorem dX8_init_67 : decode cX8_init 67 = .ok (.putfield 43, 3) := by decide +kernel
theorem dX8_init_70 : decode cX8_init 70 = .ok (.aload_n 0, 1) := by decide +kernel
theorem dX8_init_71 : decode cX8_init 71 = .ok (.new 47, 3) := by decide +kernel
theorem dX8_init_74 : decode cX8_init 74 = .ok (.dup, 1) := by decide +kernel
theorem dX8_init_75 : decode cX8_init 75 = .ok (.invokespecial 49, 3) := by decide +kernel
theorem dX8_init_78 : decode cX8_init 78 = .ok (.putfield 50, 3) := by decide +kernel
theorem dX8_init_81 : decode cX8_init 81 = .ok (.aload_n 0, 1) := by decide +kernel
theorem dX8_init_82 : decode cX8_init 82 = .ok (.new 54, 3) := by decide +kernel
theorem dX8_init_85 : decode cX8_init 85 = .ok (.dup, 1) := by decide +kernel
theorem dX8_init_86 : decode cX8_init 86 = .ok (.invokespecial 56, 3) := by decide +kernel
theorem dX8_init_89 : decode cX8_init 89 = .ok (.putfield 57, 3) := by decide +kernel
theorem dX8_init_92 : decode cX8_init 92 = .ok (.aload_n 0, 1) := by decide +kernel
theorem dX8_init_93 : decode cX8_init 93 = .ok (.getfield 10, 3) := by decide +kernel
theorem dX8_init_96 : decode cX8_init 96 = .ok (.iconst 1, 1) := by decide +kernel
theorem dX8_init_97 : decode cX8_init 97 = .ok (.iconst 3, 1) := by decide +kernel
theorem dX8_init_98 : decode cX8_init 98 = .ok (.invokevirtual 61, 3) := by decide +kernel
theorem dX8_init_101 : decode cX8_init 101 = .ok (.return_, 1) := by decide +kernel
set_option maxRecDepth 20000 in
theorem ggX8_code_X8_refuseBad : GoodIn wsX8_code wsX8_refuseBad := goodIn_r _ [9, 10, 62, 63, 64, 65, 66, 67, 68, 69, 70, 71, 72] (by decide +kernel) (by decide +kernel)
set_option maxRecDepth 20000 in
theorem gX8_code_X8_refuseBad : GoodIn wsX8_code (wsV RX8 65 RX8 yX8_refuseBad wsX8_refuseBad) := goodIn_app (goodIn_of _ (by decide +kernel)) ggX8_code_X8_refuseBad
set_option maxRecDepth 20000 in
theorem ggX8_code_X4_keep : GoodIn wsX8_code wsX4_keep := goodIn_r _ [15, 16, 17, 18, 19, 20, 21, 22, 23, 24, 25, 26, 27, 28, 29, 30, 31, 32, 33, 34, 35, 36, 37, 38, 39, 40, 41, 42, 43, 44, 45, 46, 47, 48, 49, 50, 51, 52, 53, 81, 82, 83, 73, 74, 75, 76, 77, 78, 79, 80] (by decide +kernel) (by decide +kernel)
set_option maxRecDepth 20000 in
theorem gX8_code_X4_keep : GoodIn wsX8_code (wsV RX8 69 RX4 yX4_keep wsX4_keep) := goodIn_app (goodIn_of _ (by decide +kernel)) ggX8_code_X4_keep
set_option maxRecDepth 20000 in
theorem ggX8_code_X5_start : GoodIn wsX8_code wsX5_start := goodIn_r _ [57, 28, 31, 32, 37, 38, 39, 40, 41, 42, 43, 44, 45, 46, 47, 48, 49, 50, 51, 52, 53, 58, 59, 60, 61, 73, 74, 75, 76, 77, 78, 79, 80] (by decide +kernel) (by decide +kernel)
set_option maxRecDepth 20000 in
theorem gX8_code_X5_start : GoodIn wsX8_code (wsV RX8 61 RX5 yX5_start wsX5_start) := goodIn_app (goodIn_of _ (by decide +kernel)) ggX8_code_X5_start
theorem dX8_code_0 : decode cX8_code 0 = .ok (.iload_n 2, 1) := by decide +kernel
theorem dX8_code_1 : decode cX8_code 1 = .ok (.ifCond .lt 17, 3) := by decide +kernel
theorem dX8_code_4 : decode cX8_code 4 = .ok (.iload_n 2, 1) := by decide +kernel
theorem dX8_code_5 : decode cX8_code 5 = .ok (.iconst 5, 1) := by decide +kernel
theorem dX8_code_6 : decode cX8_code 6 = .ok (.if_icmp .gt 12, 3) := by decide +kernel
theorem dX8_code_9 : decode cX8_code 9 = .ok (.iload_n 1, 1) := by decide +kernel
theorem dX8_code_10 : decode cX8_code 10 = .ok (.ifCond .lt 8, 3) := by decide +kernel
theorem dX8_code_13 : decode cX8_code 13 = .ok (.iload_n 1, 1) := by decide +kernel
theorem dX8_code_14 : decode cX8_code 14 = .ok (.iload_n 2, 1) := by decide +kernel
theorem dX8_code_15 : decode cX8_code 15 = .ok (.if_icmp .le 10, 3) := by decide +kernel
theorem dX8_code_18 : decode cX8_code 18 = .ok (.aload_n 0, 1) := by decide +kernel
theorem dX8_code_19 : decode cX8_code 19 = .ok (.bipush (-2), 2) := by decide +kernel
theorem dX8_code_21 : decode cX8_code 21 = .ok (.invokevirtual 65, 3) := by decide +kernel
theorem dX8_code_24 : decode cX8_code 24 = .ok (.ireturn, 1) := by decide +kernel
theorem dX8_code_25 : decode cX8_code 25 = .ok (.aload_n 0, 1) := by decide +kernel
theorem dX8_code_26 : decode cX8_code 26 = .ok (.getfield 22, 3) := by decide +kernel
theorem dX8_code_29 : decode cX8_code 29 = .ok (.aload_n 0, 1) := by decide +kernel
theorem dX8_code_30 : decode cX8_code 30 = .ok (.getfield 10, 3) := by decide +kernel
theorem dX8_code_33 : decode cX8_code 33 = .ok (.invokevirtual 69, 3) := by decide +kernel
theorem dX8_code_36 : decode cX8_code 36 = .ok (.aload_n 0, 1) := by decide +kernel
theorem dX8_code_37 : decode cX8_code 37 = .ok (.getfield 10, 3) := by decide +kernel
theorem dX8_code_40 : decode cX8_code 40 = .ok (.iload_n 1, 1) := by decide +kernel
theorem dX8_code_41 : decode cX8_code 41 = .ok (.iload_n 2, 1) := by decide +kernel
theorem dX8_code_42 : decode cX8_code 42 = .ok (.invokevirtual 61, 3) := by decide +kernel
theorem dX8_code_45 : decode cX8_code 45 = .ok (.aload_n 0, 1) := by decide +kernel
theorem dX8_code_46 : decode cX8_code 46 = .ok (.getfield 10, 3) := by decide +kernel
theorem dX8_code_49 : decode cX8_code 49 = .ok (.getfield 73, 3) := by decide +kernel
theorem dX8_code_52 : decode cX8_code 52 = .ok (.getfield 77, 3) := by decide +kernel
theorem dX8_code_55 : decode cX8_code 55 = .ok (.ireturn, 1) := by decide +kernel
set_option maxRecDepth 20000 in
theorem ggX8_of_X1_distance : GoodIn wsX8_of wsX1_distance := goodIn_r _ [11, 12, 13, 34, 35, 36, 37, 38] (by decide +kernel) (by decide +kernel)
set_option maxRecDepth 20000 in
theorem gX8_of_X1_distance : GoodIn wsX8_of (wsV RX8 89 RX1 yX1_distance wsX1_distance) := goodIn_app (goodIn_of _ (by decide +kernel)) ggX8_of_X1_distance
set_option maxRecDepth 20000 in
theorem ggX8_of_X8_refuseBad : GoodIn wsX8_of wsX8_refuseBad := goodIn_r _ [18, 19, 20, 21, 22, 23, 24, 25, 26, 27, 28, 29, 30] (by decide +kernel) (by decide +kernel)
set_option maxRecDepth 20000 in
theorem gX8_of_X8_refuseBad : GoodIn wsX8_of (wsV RX8 65 RX8 yX8_refuseBad wsX8_refuseBad) := goodIn_app (goodIn_of _ (by decide +kernel)) ggX8_of_X8_refuseBad
theorem dX8_of_0 : decode cX8_of 0 = .ok (.aload_n 0, 1) := by decide +kernel
theorem dX8_of_1 : decode cX8_of 1 = .ok (.getfield 10, 3) := by decide +kernel
theorem dX8_of_4 : decode cX8_of 4 = .ok (.getfield 73, 3) := by decide +kernel
theorem dX8_of_7 : decode cX8_of 7 = .ok (.astore_n 2, 1) := by decide +kernel
theorem dX8_of_8 : decode cX8_of 8 = .ok (.iload_n 1, 1) := by decide +kernel
theorem dX8_of_9 : decode cX8_of 9 = .ok (.tableswitch 73 0 5 #[39, 44, 49, 54, 59, 64], 39) := by decide +kernel
theorem dX8_of_48 : decode cX8_of 48 = .ok (.aload_n 2, 1) := by decide +kernel
theorem dX8_of_49 : decode cX8_of 49 = .ok (.getfield 83, 3) := by decide +kernel
theorem dX8_of_52 : decode cX8_of 52 = .ok (.ireturn, 1) := by decide +kernel
theorem dX8_of_53 : decode cX8_of 53 = .ok (.aload_n 2, 1) := by decide +kernel
theorem dX8_of_54 : decode cX8_of 54 = .ok (.getfield 86, 3) := by decide +kernel
theorem dX8_of_57 : decode cX8_of 57 = .ok (.ireturn, 1) := by decide +kernel
theorem dX8_of_58 : decode cX8_of 58 = .ok (.aload_n 2, 1) := by decide +kernel
theorem dX8_of_59 : decode cX8_of 59 = .ok (.getfield 77, 3) := by decide +kernel
theorem dX8_of_62 : decode cX8_of 62 = .ok (.ireturn, 1) := by decide +kernel
theorem dX8_of_63 : decode cX8_of 63 = .ok (.aload_n 2, 1) := by decide +kernel
theorem dX8_of_64 : decode cX8_of 64 = .ok (.invokevirtual 89, 3) := by decide +kernel
theorem dX8_of_67 : decode cX8_of 67 = .ok (.ireturn, 1) := by decide +kernel
theorem dX8_of_68 : decode cX8_of 68 = .ok (.aload_n 2, 1) := by decide +kernel
theorem dX8_of_69 : decode cX8_of 69 = .ok (.getfield 93, 3) := by decide +kernel
theorem dX8_of_72 : decode cX8_of 72 = .ok (.ireturn, 1) := by decide +kernel
theorem dX8_of_73 : decode cX8_of 73 = .ok (.aload_n 2, 1) := by decide +kernel
theorem dX8_of_74 : decode cX8_of 74 = .ok (.invokevirtual 89, 3) := by decide +kernel
theorem dX8_of_77 : decode cX8_of 77 = .ok (.iconst 1, 1) := by decide +kernel
theorem dX8_of_78 : decode cX8_of 78 = .ok (.isub, 1) := by decide +kernel
theorem dX8_of_79 : decode cX8_of 79 = .ok (.iconst 2, 1) := by decide +kernel
theorem dX8_of_80 : decode cX8_of 80 = .ok (.idiv, 1) := by decide +kernel
theorem dX8_of_81 : decode cX8_of 81 = .ok (.ireturn, 1) := by decide +kernel
theorem dX8_of_82 : decode cX8_of 82 = .ok (.aload_n 0, 1) := by decide +kernel
theorem dX8_of_83 : decode cX8_of 83 = .ok (.bipush (-2), 2) := by decide +kernel
theorem dX8_of_85 : decode cX8_of 85 = .ok (.invokevirtual 65, 3) := by decide +kernel
theorem dX8_of_88 : decode cX8_of 88 = .ok (.ireturn, 1) := by decide +kernel
set_option maxRecDepth 20000 in
theorem ggX8_term_X8_refuseBad : GoodIn wsX8_term wsX8_refuseBad := goodIn_r _ [9, 10, 11, 12, 13, 14, 15, 16, 17, 18, 19, 20, 21] (by decide +kernel) (by decide +kernel)
set_option maxRecDepth 20000 in
theorem gX8_term_X8_refuseBad : GoodIn wsX8_term (wsV RX8 65 RX8 yX8_refuseBad wsX8_refuseBad) := goodIn_app (goodIn_of _ (by decide +kernel)) ggX8_term_X8_refuseBad
theorem dX8_term_0 : decode cX8_term 0 = .ok (.iload_n 1, 1) := by decide +kernel
theorem dX8_term_1 : decode cX8_term 1 = .ok (.ifCond .ge 10, 3) := by decide +kernel
theorem dX8_term_4 : decode cX8_term 4 = .ok (.aload_n 0, 1) := by decide +kernel
theorem dX8_term_5 : decode cX8_term 5 = .ok (.bipush (-2), 2) := by decide +kernel
theorem dX8_term_7 : decode cX8_term 7 = .ok (.invokevirtual 65, 3) := by decide +kernel
theorem dX8_term_10 : decode cX8_term 10 = .ok (.ireturn, 1) := by decide +kernel
theorem dX8_term_11 : decode cX8_term 11 = .ok (.iload_n 1, 1) := by decide +kernel
theorem dX8_term_12 : decode cX8_term 12 = .ok (.aload_n 0, 1) := by decide +kernel
theorem dX8_term_13 : decode cX8_term 13 = .ok (.getfield 10, 3) := by decide +kernel
theorem dX8_term_16 : decode cX8_term 16 = .ok (.getfield 73, 3) := by decide +kernel
theorem dX8_term_19 : decode cX8_term 19 = .ok (.getfield 77, 3) := by decide +kernel
theorem dX8_term_22 : decode cX8_term 22 = .ok (.if_icmp .ge 18, 3) := by decide +kernel
theorem dX8_term_25 : decode cX8_term 25 = .ok (.aload_n 0, 1) := by decide +kernel
theorem dX8_term_26 : decode cX8_term 26 = .ok (.getfield 10, 3) := by decide +kernel
theorem dX8_term_29 : decode cX8_term 29 = .ok (.getfield 73, 3) := by decide +kernel
theorem dX8_term_32 : decode cX8_term 32 = .ok (.getfield 96, 3) := by decide +kernel
theorem dX8_term_35 : decode cX8_term 35 = .ok (.iload_n 1, 1) := by decide +kernel
theorem dX8_term_36 : decode cX8_term 36 = .ok (.iaload, 1) := by decide +kernel
theorem dX8_term_37 : decode cX8_term 37 = .ok (.goto 4, 3) := by decide +kernel
theorem dX8_term_40 : decode cX8_term 40 = .ok (.iconst (-1), 1) := by decide +kernel
theorem dX8_term_41 : decode cX8_term 41 = .ok (.ireturn, 1) := by decide +kernel
set_option maxRecDepth 20000 in
theorem ggX8_word_X1_allPlaces : GoodIn wsX8_word wsX1_allPlaces := goodIn_r _ [9, 10, 11, 12, 13, 74, 75, 76, 77, 78] (by decide +kernel) (by decide +kernel)
set_option maxRecDepth 20000 in
theorem gX8_word_X1_allPlaces : GoodIn wsX8_word (wsV RX8 100 RX1 yX1_allPlaces wsX1_allPlaces) := goodIn_app (goodIn_of _ (by decide +kernel)) ggX8_word_X1_allPlaces
set_option maxRecDepth 20000 in
theorem ggX8_word_X8_refuseBad : GoodIn wsX8_word wsX8_refuseBad := goodIn_r _ [17, 18, 60, 61, 62, 63, 64, 65, 66, 67, 68, 69, 70] (by decide +kernel) (by decide +kernel)
set_option maxRecDepth 20000 in
theorem gX8_word_X8_refuseBad : GoodIn wsX8_word (wsV RX8 65 RX8 yX8_refuseBad wsX8_refuseBad) := goodIn_app (goodIn_of _ (by decide +kernel)) ggX8_word_X8_refuseBad
set_option maxRecDepth 20000 in
theorem ggX8_word_X4_keep : GoodIn wsX8_word wsX4_keep := goodIn_r _ [23, 24, 25, 26, 27, 28, 29, 30, 31, 32, 33, 34, 35, 36, 37, 38, 39, 40, 41, 42, 43, 44, 45, 46, 47, 8, 48, 49, 50, 10, 51, 52, 53, 54, 55, 56, 57, 58, 59, 79, 80, 81, 71, 72, 73, 74, 75, 76, 77, 78] (by decide +kernel) (by decide +kernel)
set_option maxRecDepth 20000 in
theorem gX8_word_X4_keep : GoodIn wsX8_word (wsV RX8 69 RX4 yX4_keep wsX4_keep) := goodIn_app (goodIn_of _ (by decide +kernel)) ggX8_word_X4_keep
theorem dX8_word_0 : decode cX8_word 0 = .ok (.iload_n 1, 1) := by decide +kernel
theorem dX8_word_1 : decode cX8_word 1 = .ok (.aload_n 0, 1) := by decide +kernel
theorem dX8_word_2 : decode cX8_word 2 = .ok (.getfield 10, 3) := by decide +kernel
theorem dX8_word_5 : decode cX8_word 5 = .ok (.getfield 73, 3) := by decide +kernel
theorem dX8_word_8 : decode cX8_word 8 = .ok (.invokevirtual 100, 3) := by decide +kernel
theorem dX8_word_11 : decode cX8_word 11 = .ok (.iconst (-1), 1) := by decide +kernel
theorem dX8_word_12 : decode cX8_word 12 = .ok (.ixor, 1) := by decide +kernel
theorem dX8_word_13 : decode cX8_word 13 = .ok (.iand, 1) := by decide +kernel
theorem dX8_word_14 : decode cX8_word 14 = .ok (.ifCond .eq 10, 3) := by decide +kernel
theorem dX8_word_17 : decode cX8_word 17 = .ok (.aload_n 0, 1) := by decide +kernel
theorem dX8_word_18 : decode cX8_word 18 = .ok (.bipush (-2), 2) := by decide +kernel
theorem dX8_word_20 : decode cX8_word 20 = .ok (.invokevirtual 65, 3) := by decide +kernel
theorem dX8_word_23 : decode cX8_word 23 = .ok (.ireturn, 1) := by decide +kernel
theorem dX8_word_24 : decode cX8_word 24 = .ok (.aload_n 0, 1) := by decide +kernel
theorem dX8_word_25 : decode cX8_word 25 = .ok (.getfield 22, 3) := by decide +kernel
theorem dX8_word_28 : decode cX8_word 28 = .ok (.aload_n 0, 1) := by decide +kernel
theorem dX8_word_29 : decode cX8_word 29 = .ok (.getfield 10, 3) := by decide +kernel
theorem dX8_word_32 : decode cX8_word 32 = .ok (.invokevirtual 69, 3) := by decide +kernel
theorem dX8_word_35 : decode cX8_word 35 = .ok (.aload_n 0, 1) := by decide +kernel
theorem dX8_word_36 : decode cX8_word 36 = .ok (.getfield 10, 3) := by decide +kernel
theorem dX8_word_39 : decode cX8_word 39 = .ok (.iload_n 1, 1) := by decide +kernel
theorem dX8_word_40 : decode cX8_word 40 = .ok (.putfield 103, 3) := by decide +kernel
theorem dX8_word_43 : decode cX8_word 43 = .ok (.iconst 1, 1) := by decide +kernel
theorem dX8_word_44 : decode cX8_word 44 = .ok (.ireturn, 1) := by decide +kernel
set_option maxRecDepth 20000 in
theorem ggX8_encode_X1_allTerms : GoodIn wsX8_encode wsX1_allTerms := goodIn_r _ [9, 10, 11, 12, 13, 87, 88, 89, 90, 91] (by decide +kernel) (by decide +kernel)
set_option maxRecDepth 20000 in
theorem gX8_encode_X1_allTerms : GoodIn wsX8_encode (wsV RX8 106 RX1 yX1_allTerms wsX1_allTerms) := goodIn_app (goodIn_of _ (by decide +kernel)) ggX8_encode_X1_allTerms
set_option maxRecDepth 20000 in
theorem ggX8_encode_X8_refuseBad : GoodIn wsX8_encode wsX8_refuseBad := goodIn_r _ [17, 18, 73, 74, 75, 76, 77, 78, 79, 80, 81, 82, 83] (by decide +kernel) (by decide +kernel)
set_option maxRecDepth 20000 in
theorem gX8_encode_X8_refuseBad : GoodIn wsX8_encode (wsV RX8 65 RX8 yX8_refuseBad wsX8_refuseBad) := goodIn_app (goodIn_of _ (by decide +kernel)) ggX8_encode_X8_refuseBad
set_option maxRecDepth 20000 in
theorem ggX8_encode_X4_keep : GoodIn wsX8_encode wsX4_keep := goodIn_r _ [23, 24, 25, 26, 27, 28, 29, 30, 31, 32, 33, 34, 35, 36, 37, 38, 39, 40, 41, 42, 43, 44, 45, 46, 47, 8, 48, 49, 50, 51, 10, 52, 53, 54, 55, 56, 57, 58, 59, 92, 93, 94, 84, 85, 86, 87, 88, 89, 90, 91] (by decide +kernel) (by decide +kernel)
set_option maxRecDepth 20000 in
theorem gX8_encode_X4_keep : GoodIn wsX8_encode (wsV RX8 69 RX4 yX4_keep wsX4_keep) := goodIn_app (goodIn_of _ (by decide +kernel)) ggX8_encode_X4_keep
set_option maxRecDepth 20000 in
theorem ggX8_encode_X1_wordOf : GoodIn wsX8_encode wsX1_wordOf := goodIn_r _ [63, 10, 52, 64, 65, 66, 8, 67, 50, 87, 88, 89, 90, 91] (by decide +kernel) (by decide +kernel)
set_option maxRecDepth 20000 in
theorem gX8_encode_X1_wordOf : GoodIn wsX8_encode (wsV RX8 109 RX1 yX1_wordOf wsX1_wordOf) := goodIn_app (goodIn_of _ (by decide +kernel)) ggX8_encode_X1_wordOf
set_option maxRecDepth 20000 in
theorem ggX8_encode_X8_weight : GoodIn wsX8_encode wsX8_weight := goodIn_r _ [71, 1, 4, 72, 54, 55, 56, 57, 58, 59, 73, 74, 75, 76, 77, 78, 79, 80, 81, 82, 83, 84, 85, 86] (by decide +kernel) (by decide +kernel)
set_option maxRecDepth 20000 in
theorem gX8_encode_X8_weight : GoodIn wsX8_encode (wsV RX8 112 RX8 yX8_weight wsX8_weight) := goodIn_app (goodIn_of _ (by decide +kernel)) ggX8_encode_X8_weight
theorem dX8_encode_0 : decode cX8_encode 0 = .ok (.iload_n 1, 1) := by decide +kernel
theorem dX8_encode_1 : decode cX8_encode 1 = .ok (.aload_n 0, 1) := by decide +kernel
theorem dX8_encode_2 : decode cX8_encode 2 = .ok (.getfield 10, 3) := by decide +kernel
theorem dX8_encode_5 : decode cX8_encode 5 = .ok (.getfield 73, 3) := by decide +kernel
theorem dX8_encode_8 : decode cX8_encode 8 = .ok (.invokevirtual 106, 3) := by decide +kernel
theorem dX8_encode_11 : decode cX8_encode 11 = .ok (.iconst (-1), 1) := by decide +kernel
theorem dX8_encode_12 : decode cX8_encode 12 = .ok (.ixor, 1) := by decide +kernel
theorem dX8_encode_13 : decode cX8_encode 13 = .ok (.iand, 1) := by decide +kernel
theorem dX8_encode_14 : decode cX8_encode 14 = .ok (.ifCond .eq 10, 3) := by decide +kernel
theorem dX8_encode_17 : decode cX8_encode 17 = .ok (.aload_n 0, 1) := by decide +kernel
theorem dX8_encode_18 : decode cX8_encode 18 = .ok (.bipush (-2), 2) := by decide +kernel
theorem dX8_encode_20 : decode cX8_encode 20 = .ok (.invokevirtual 65, 3) := by decide +kernel
theorem dX8_encode_23 : decode cX8_encode 23 = .ok (.ireturn, 1) := by decide +kernel
theorem dX8_encode_24 : decode cX8_encode 24 = .ok (.aload_n 0, 1) := by decide +kernel
theorem dX8_encode_25 : decode cX8_encode 25 = .ok (.getfield 22, 3) := by decide +kernel
theorem dX8_encode_28 : decode cX8_encode 28 = .ok (.aload_n 0, 1) := by decide +kernel
theorem dX8_encode_29 : decode cX8_encode 29 = .ok (.getfield 10, 3) := by decide +kernel
theorem dX8_encode_32 : decode cX8_encode 32 = .ok (.invokevirtual 69, 3) := by decide +kernel
theorem dX8_encode_35 : decode cX8_encode 35 = .ok (.aload_n 0, 1) := by decide +kernel
theorem dX8_encode_36 : decode cX8_encode 36 = .ok (.getfield 10, 3) := by decide +kernel
theorem dX8_encode_39 : decode cX8_encode 39 = .ok (.aload_n 0, 1) := by decide +kernel
theorem dX8_encode_40 : decode cX8_encode 40 = .ok (.getfield 10, 3) := by decide +kernel
theorem dX8_encode_43 : decode cX8_encode 43 = .ok (.getfield 73, 3) := by decide +kernel
theorem dX8_encode_46 : decode cX8_encode 46 = .ok (.iload_n 1, 1) := by decide +kernel
theorem dX8_encode_47 : decode cX8_encode 47 = .ok (.invokevirtual 109, 3) := by decide +kernel
theorem dX8_encode_50 : decode cX8_encode 50 = .ok (.putfield 103, 3) := by decide +kernel
theorem dX8_encode_53 : decode cX8_encode 53 = .ok (.aload_n 0, 1) := by decide +kernel
theorem dX8_encode_54 : decode cX8_encode 54 = .ok (.invokevirtual 112, 3) := by decide +kernel
theorem dX8_encode_57 : decode cX8_encode 57 = .ok (.ireturn, 1) := by decide +kernel
set_option maxRecDepth 20000 in
theorem ggX8_flip_X1_hasPlace : GoodIn wsX8_flip wsX1_hasPlace := goodIn_r _ [9, 10, 76, 77, 78, 79, 80] (by decide +kernel) (by decide +kernel)
set_option maxRecDepth 20000 in
theorem gX8_flip_X1_hasPlace : GoodIn wsX8_flip (wsV RX8 115 RX1 yX1_hasPlace wsX1_hasPlace) := goodIn_app (goodIn_of _ (by decide +kernel)) ggX8_flip_X1_hasPlace
set_option maxRecDepth 20000 in
theorem ggX8_flip_X8_refuseBad : GoodIn wsX8_flip wsX8_refuseBad := goodIn_r _ [15, 16, 62, 63, 64, 65, 66, 67, 68, 69, 70, 71, 72] (by decide +kernel) (by decide +kernel)
set_option maxRecDepth 20000 in
theorem gX8_flip_X8_refuseBad : GoodIn wsX8_flip (wsV RX8 65 RX8 yX8_refuseBad wsX8_refuseBad) := goodIn_app (goodIn_of _ (by decide +kernel)) ggX8_flip_X8_refuseBad
set_option maxRecDepth 20000 in
theorem ggX8_flip_X4_keep : GoodIn wsX8_flip wsX4_keep := goodIn_r _ [21, 22, 23, 24, 25, 26, 27, 28, 29, 30, 31, 32, 33, 34, 35, 36, 37, 38, 39, 40, 41, 42, 43, 44, 45, 8, 46, 47, 48, 10, 49, 50, 51, 52, 53, 54, 55, 56, 57, 81, 82, 83, 73, 74, 75, 76, 77, 78, 79, 80] (by decide +kernel) (by decide +kernel)
set_option maxRecDepth 20000 in
theorem gX8_flip_X4_keep : GoodIn wsX8_flip (wsV RX8 69 RX4 yX4_keep wsX4_keep) := goodIn_app (goodIn_of _ (by decide +kernel)) ggX8_flip_X4_keep
set_option maxRecDepth 20000 in
theorem ggX8_flip_X5_bit : GoodIn wsX8_flip wsX5_bit := goodIn_r _ [61, 37, 73, 74, 75] (by decide +kernel) (by decide +kernel)
set_option maxRecDepth 20000 in
theorem gX8_flip_X5_bit : GoodIn wsX8_flip (wsV RX8 119 RX5 yX5_bit wsX5_bit) := goodIn_app (goodIn_of _ (by decide +kernel)) ggX8_flip_X5_bit
theorem dX8_flip_0 : decode cX8_flip 0 = .ok (.aload_n 0, 1) := by decide +kernel
theorem dX8_flip_1 : decode cX8_flip 1 = .ok (.getfield 10, 3) := by decide +kernel
theorem dX8_flip_4 : decode cX8_flip 4 = .ok (.getfield 73, 3) := by decide +kernel
theorem dX8_flip_7 : decode cX8_flip 7 = .ok (.iload_n 1, 1) := by decide +kernel
theorem dX8_flip_8 : decode cX8_flip 8 = .ok (.invokevirtual 115, 3) := by decide +kernel
theorem dX8_flip_11 : decode cX8_flip 11 = .ok (.ifCond .ne 10, 3) := by decide +kernel
theorem dX8_flip_14 : decode cX8_flip 14 = .ok (.aload_n 0, 1) := by decide +kernel
theorem dX8_flip_15 : decode cX8_flip 15 = .ok (.bipush (-2), 2) := by decide +kernel
theorem dX8_flip_17 : decode cX8_flip 17 = .ok (.invokevirtual 65, 3) := by decide +kernel
theorem dX8_flip_20 : decode cX8_flip 20 = .ok (.ireturn, 1) := by decide +kernel
theorem dX8_flip_21 : decode cX8_flip 21 = .ok (.aload_n 0, 1) := by decide +kernel
theorem dX8_flip_22 : decode cX8_flip 22 = .ok (.getfield 22, 3) := by decide +kernel
theorem dX8_flip_25 : decode cX8_flip 25 = .ok (.aload_n 0, 1) := by decide +kernel
theorem dX8_flip_26 : decode cX8_flip 26 = .ok (.getfield 10, 3) := by decide +kernel
theorem dX8_flip_29 : decode cX8_flip 29 = .ok (.invokevirtual 69, 3) := by decide +kernel
theorem dX8_flip_32 : decode cX8_flip 32 = .ok (.aload_n 0, 1) := by decide +kernel
theorem dX8_flip_33 : decode cX8_flip 33 = .ok (.getfield 10, 3) := by decide +kernel
theorem dX8_flip_36 : decode cX8_flip 36 = .ok (.dup, 1) := by decide +kernel
theorem dX8_flip_37 : decode cX8_flip 37 = .ok (.getfield 103, 3) := by decide +kernel
theorem dX8_flip_40 : decode cX8_flip 40 = .ok (.iconst 1, 1) := by decide +kernel
theorem dX8_flip_41 : decode cX8_flip 41 = .ok (.iload_n 1, 1) := by decide +kernel
theorem dX8_flip_42 : decode cX8_flip 42 = .ok (.ishl, 1) := by decide +kernel
theorem dX8_flip_43 : decode cX8_flip 43 = .ok (.ixor, 1) := by decide +kernel
theorem dX8_flip_44 : decode cX8_flip 44 = .ok (.putfield 103, 3) := by decide +kernel
theorem dX8_flip_47 : decode cX8_flip 47 = .ok (.aload_n 0, 1) := by decide +kernel
theorem dX8_flip_48 : decode cX8_flip 48 = .ok (.getfield 10, 3) := by decide +kernel
theorem dX8_flip_51 : decode cX8_flip 51 = .ok (.iload_n 1, 1) := by decide +kernel
theorem dX8_flip_52 : decode cX8_flip 52 = .ok (.invokevirtual 119, 3) := by decide +kernel
theorem dX8_flip_55 : decode cX8_flip 55 = .ok (.ireturn, 1) := by decide +kernel
set_option maxRecDepth 20000 in
theorem ggX8_hurt_X8_refuseBad : GoodIn wsX8_hurt wsX8_refuseBad := goodIn_r _ [11, 12, 68, 69, 70, 71, 72, 73, 74, 75, 76, 77, 78] (by decide +kernel) (by decide +kernel)
set_option maxRecDepth 20000 in
theorem gX8_hurt_X8_refuseBad : GoodIn wsX8_hurt (wsV RX8 65 RX8 yX8_refuseBad wsX8_refuseBad) := goodIn_app (goodIn_of _ (by decide +kernel)) ggX8_hurt_X8_refuseBad
set_option maxRecDepth 20000 in
theorem ggX8_hurt_X4_keep : GoodIn wsX8_hurt wsX4_keep := goodIn_r _ [17, 18, 19, 20, 21, 22, 23, 24, 25, 26, 27, 28, 29, 30, 31, 32, 33, 34, 35, 36, 37, 38, 39, 40, 41, 42, 43, 44, 45, 46, 47, 48, 49, 50, 51, 52, 53, 54, 55, 87, 88, 89, 79, 80, 81, 82, 83, 84, 85, 86] (by decide +kernel) (by decide +kernel)
set_option maxRecDepth 20000 in
theorem gX8_hurt_X4_keep : GoodIn wsX8_hurt (wsV RX8 69 RX4 yX4_keep wsX4_keep) := goodIn_app (goodIn_of _ (by decide +kernel)) ggX8_hurt_X4_keep
set_option maxRecDepth 20000 in
theorem ggX8_hurt_X8_drawPlaces : GoodIn wsX8_hurt wsX8_drawPlaces := goodIn_r _ [59, 2, 3, 4, 60, 61, 62, 68, 69, 70, 71, 72, 73, 74, 75, 76, 77, 78, 79, 80, 81, 82, 83, 84, 85, 86] (by decide +kernel) (by decide +kernel)
set_option maxRecDepth 20000 in
theorem gX8_hurt_X8_drawPlaces : GoodIn wsX8_hurt (wsV RX8 123 RX8 yX8_drawPlaces wsX8_drawPlaces) := goodIn_app (goodIn_of _ (by decide +kernel)) ggX8_hurt_X8_drawPlaces
set_option maxRecDepth 20000 in
theorem ggX8_hurt_X8_weight : GoodIn wsX8_hurt wsX8_weight := goodIn_r _ [66, 2, 6, 67, 50, 51, 52, 53, 54, 55, 68, 69, 70, 71, 72, 73, 74, 75, 76, 77, 78, 79, 80, 81] (by decide +kernel) (by decide +kernel)
set_option maxRecDepth 20000 in
theorem gX8_hurt_X8_weight : GoodIn wsX8_hurt (wsV RX8 112 RX8 yX8_weight wsX8_weight) := goodIn_app (goodIn_of _ (by decide +kernel)) ggX8_hurt_X8_weight
theorem dX8_hurt_0 : decode cX8_hurt 0 = .ok (.iload_n 1, 1) := by decide +kernel
theorem dX8_hurt_1 : decode cX8_hurt 1 = .ok (.ifCond .lt 27, 3) := by decide +kernel
theorem dX8_hurt_4 : decode cX8_hurt 4 = .ok (.iload_n 1, 1) := by decide +kernel
theorem dX8_hurt_5 : decode cX8_hurt 5 = .ok (.ldc 122, 2) := by decide +kernel
theorem dX8_hurt_7 : decode cX8_hurt 7 = .ok (.if_icmp .gt 21, 3) := by decide +kernel
theorem dX8_hurt_10 : decode cX8_hurt 10 = .ok (.iload_n 2, 1) := by decide +kernel
theorem dX8_hurt_11 : decode cX8_hurt 11 = .ok (.ifCond .lt 17, 3) := by decide +kernel
theorem dX8_hurt_14 : decode cX8_hurt 14 = .ok (.iload_n 2, 1) := by decide +kernel
theorem dX8_hurt_15 : decode cX8_hurt 15 = .ok (.aload_n 0, 1) := by decide +kernel
theorem dX8_hurt_16 : decode cX8_hurt 16 = .ok (.getfield 10, 3) := by decide +kernel
theorem dX8_hurt_19 : decode cX8_hurt 19 = .ok (.getfield 73, 3) := by decide +kernel
theorem dX8_hurt_22 : decode cX8_hurt 22 = .ok (.getfield 93, 3) := by decide +kernel
theorem dX8_hurt_25 : decode cX8_hurt 25 = .ok (.if_icmp .le 10, 3) := by decide +kernel
theorem dX8_hurt_28 : decode cX8_hurt 28 = .ok (.aload_n 0, 1) := by decide +kernel
theorem dX8_hurt_29 : decode cX8_hurt 29 = .ok (.bipush (-2), 2) := by decide +kernel
theorem dX8_hurt_31 : decode cX8_hurt 31 = .ok (.invokevirtual 65, 3) := by decide +kernel
theorem dX8_hurt_34 : decode cX8_hurt 34 = .ok (.ireturn, 1) := by decide +kernel
theorem dX8_hurt_35 : decode cX8_hurt 35 = .ok (.aload_n 0, 1) := by decide +kernel
theorem dX8_hurt_36 : decode cX8_hurt 36 = .ok (.getfield 22, 3) := by decide +kernel
theorem dX8_hurt_39 : decode cX8_hurt 39 = .ok (.aload_n 0, 1) := by decide +kernel
theorem dX8_hurt_40 : decode cX8_hurt 40 = .ok (.getfield 10, 3) := by decide +kernel
theorem dX8_hurt_43 : decode cX8_hurt 43 = .ok (.invokevirtual 69, 3) := by decide +kernel
theorem dX8_hurt_46 : decode cX8_hurt 46 = .ok (.aload_n 0, 1) := by decide +kernel
theorem dX8_hurt_47 : decode cX8_hurt 47 = .ok (.getfield 10, 3) := by decide +kernel
theorem dX8_hurt_50 : decode cX8_hurt 50 = .ok (.dup, 1) := by decide +kernel
theorem dX8_hurt_51 : decode cX8_hurt 51 = .ok (.getfield 103, 3) := by decide +kernel
theorem dX8_hurt_54 : decode cX8_hurt 54 = .ok (.aload_n 0, 1) := by decide +kernel
theorem dX8_hurt_55 : decode cX8_hurt 55 = .ok (.iload_n 1, 1) := by decide +kernel
theorem dX8_hurt_56 : decode cX8_hurt 56 = .ok (.iload_n 2, 1) := by decide +kernel
theorem dX8_hurt_57 : decode cX8_hurt 57 = .ok (.invokevirtual 123, 3) := by decide +kernel
theorem dX8_hurt_60 : decode cX8_hurt 60 = .ok (.ixor, 1) := by decide +kernel
theorem dX8_hurt_61 : decode cX8_hurt 61 = .ok (.putfield 103, 3) := by decide +kernel
theorem dX8_hurt_64 : decode cX8_hurt 64 = .ok (.aload_n 0, 1) := by decide +kernel
theorem dX8_hurt_65 : decode cX8_hurt 65 = .ok (.invokevirtual 112, 3) := by decide +kernel
theorem dX8_hurt_68 : decode cX8_hurt 68 = .ok (.ireturn, 1) := by decide +kernel
theorem dX8_now_0 : decode cX8_now 0 = .ok (.aload_n 0, 1) := by decide +kernel
theorem dX8_now_1 : decode cX8_now 1 = .ok (.getfield 10, 3) := by decide +kernel
theorem dX8_now_4 : decode cX8_now 4 = .ok (.getfield 103, 3) := by decide +kernel
theorem dX8_now_7 : decode cX8_now 7 = .ok (.ireturn, 1) := by decide +kernel
set_option maxRecDepth 20000 in
theorem ggX8_at_X1_hasPlace : GoodIn wsX8_at wsX1_hasPlace := goodIn_r _ [7, 8, 35, 36, 37, 38, 39] (by decide +kernel) (by decide +kernel)
set_option maxRecDepth 20000 in
theorem gX8_at_X1_hasPlace : GoodIn wsX8_at (wsV RX8 115 RX1 yX1_hasPlace wsX1_hasPlace) := goodIn_app (goodIn_of _ (by decide +kernel)) ggX8_at_X1_hasPlace
set_option maxRecDepth 20000 in
theorem ggX8_at_X5_bit : GoodIn wsX8_at wsX5_bit := goodIn_r _ [13, 14, 32, 33, 34] (by decide +kernel) (by decide +kernel)
set_option maxRecDepth 20000 in
theorem gX8_at_X5_bit : GoodIn wsX8_at (wsV RX8 119 RX5 yX5_bit wsX5_bit) := goodIn_app (goodIn_of _ (by decide +kernel)) ggX8_at_X5_bit
set_option maxRecDepth 20000 in
theorem ggX8_at_X8_refuseBad : GoodIn wsX8_at wsX8_refuseBad := goodIn_r _ [19, 20, 21, 22, 23, 24, 25, 26, 27, 28, 29, 30, 31] (by decide +kernel) (by decide +kernel)
set_option maxRecDepth 20000 in
theorem gX8_at_X8_refuseBad : GoodIn wsX8_at (wsV RX8 65 RX8 yX8_refuseBad wsX8_refuseBad) := goodIn_app (goodIn_of _ (by decide +kernel)) ggX8_at_X8_refuseBad
theorem dX8_at_0 : decode cX8_at 0 = .ok (.aload_n 0, 1) := by decide +kernel
theorem dX8_at_1 : decode cX8_at 1 = .ok (.getfield 10, 3) := by decide +kernel
theorem dX8_at_4 : decode cX8_at 4 = .ok (.getfield 73, 3) := by decide +kernel
theorem dX8_at_7 : decode cX8_at 7 = .ok (.iload_n 1, 1) := by decide +kernel
