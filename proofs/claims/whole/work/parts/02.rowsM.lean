theorem dX9_init_0 : decode cX9_init 0 = .ok (.aload_n 0, 1) := by decide +kernel
theorem dX9_init_1 : decode cX9_init 1 = .ok (.invokespecial 1, 3) := by decide +kernel
theorem dX9_init_4 : decode cX9_init 4 = .ok (.aload_n 0, 1) := by decide +kernel
theorem dX9_init_5 : decode cX9_init 5 = .ok (.bipush 35, 2) := by decide +kernel
theorem dX9_init_7 : decode cX9_init 7 = .ok (.newarray .int, 2) := by decide +kernel
theorem dX9_init_9 : decode cX9_init 9 = .ok (.putfield 7, 3) := by decide +kernel
theorem dX9_init_12 : decode cX9_init 12 = .ok (.aload_n 0, 1) := by decide +kernel
theorem dX9_init_13 : decode cX9_init 13 = .ok (.sipush 280, 3) := by decide +kernel
theorem dX9_init_16 : decode cX9_init 16 = .ok (.newarray .int, 2) := by decide +kernel
theorem dX9_init_18 : decode cX9_init 18 = .ok (.putfield 13, 3) := by decide +kernel
theorem dX9_init_21 : decode cX9_init 21 = .ok (.aload_n 0, 1) := by decide +kernel
theorem dX9_init_22 : decode cX9_init 22 = .ok (.iconst 3, 1) := by decide +kernel
theorem dX9_init_23 : decode cX9_init 23 = .ok (.newarray .int, 2) := by decide +kernel
theorem dX9_init_25 : decode cX9_init 25 = .ok (.putfield 16, 3) := by decide +kernel
theorem dX9_init_28 : decode cX9_init 28 = .ok (.aload_n 0, 1) := by decide +kernel
theorem dX9_init_29 : decode cX9_init 29 = .ok (.bipush 32, 2) := by decide +kernel
theorem dX9_init_31 : decode cX9_init 31 = .ok (.newarray .int, 2) := by decide +kernel
theorem dX9_init_33 : decode cX9_init 33 = .ok (.putfield 19, 3) := by decide +kernel
theorem dX9_init_36 : decode cX9_init 36 = .ok (.aload_n 0, 1) := by decide +kernel
theorem dX9_init_37 : decode cX9_init 37 = .ok (.bipush 32, 2) := by decide +kernel
theorem dX9_init_39 : decode cX9_init 39 = .ok (.newarray .int, 2) := by decide +kernel
theorem dX9_init_41 : decode cX9_init 41 = .ok (.putfield 22, 3) := by decide +kernel
theorem dX9_init_44 : decode cX9_init 44 = .ok (.aload_n 0, 1) := by decide +kernel
theorem dX9_init_45 : decode cX9_init 45 = .ok (.sipush 192, 3) := by decide +kernel
theorem dX9_init_48 : decode cX9_init 48 = .ok (.newarray .int, 2) := by decide +kernel
theorem dX9_init_50 : decode cX9_init 50 = .ok (.putfield 25, 3) := by decide +kernel
theorem dX9_init_53 : decode cX9_init 53 = .ok (.aload_n 0, 1) := by decide +kernel
theorem dX9_init_54 : decode cX9_init 54 = .ok (.bipush 6, 2) := by decide +kernel
theorem dX9_init_56 : decode cX9_init 56 = .ok (.newarray .int, 2) := by decide +kernel
theorem dX9_init_58 : decode cX9_init 58 = .ok (.putfield 28, 3) := by decide +kernel
theorem dX9_init_61 : decode cX9_init 61 = .ok (.aload_n 0, 1) := by decide +kernel
theorem dX9_init_62 : decode cX9_init 62 = .ok (.bipush 6, 2) := by decide +kernel
theorem dX9_init_64 : decode cX9_init 64 = .ok (.newarray .int, 2) := by decide +kernel
theorem dX9_init_66 : decode cX9_init 66 = .ok (.putfield 31, 3) := by decide +kernel
theorem dX9_init_69 : decode cX9_init 69 = .ok (.aload_n 0, 1) := by decide +kernel
theorem dX9_init_70 : decode cX9_init 70 = .ok (.bipush 6, 2) := by decide +kernel
theorem dX9_init_72 : decode cX9_init 72 = .ok (.newarray .int, 2) := by decide +kernel
theorem dX9_init_74 : decode cX9_init 74 = .ok (.putfield 34, 3) := by decide +kernel
theorem dX9_init_77 : decode cX9_init 77 = .ok (.aload_n 0, 1) := by decide +kernel
theorem dX9_init_78 : decode cX9_init 78 = .ok (.bipush 6, 2) := by decide +kernel
theorem dX9_init_80 : decode cX9_init 80 = .ok (.newarray .int, 2) := by decide +kernel
theorem dX9_init_82 : decode cX9_init 82 = .ok (.putfield 37, 3) := by decide +kernel
theorem dX9_init_85 : decode cX9_init 85 = .ok (.aload_n 0, 1) := by decide +kernel
theorem dX9_init_86 : decode cX9_init 86 = .ok (.bipush 120, 2) := by decide +kernel
theorem dX9_init_88 : decode cX9_init 88 = .ok (.newarray .int, 2) := by decide +kernel
theorem dX9_init_90 : decode cX9_init 90 = .ok (.putfield 40, 3) := by decide +kernel
theorem dX9_init_93 : decode cX9_init 93 = .ok (.aload_n 0, 1) := by decide +kernel
theorem dX9_init_94 : decode cX9_init 94 = .ok (.bipush 35, 2) := by decide +kernel
theorem dX9_init_96 : decode cX9_init 96 = .ok (.newarray .int, 2) := by decide +kernel
theorem dX9_init_98 : decode cX9_init 98 = .ok (.putfield 43, 3) := by decide +kernel
theorem dX9_init_101 : decode cX9_init 101 = .ok (.aload_n 0, 1) := by decide +kernel
theorem dX9_init_102 : decode cX9_init 102 = .ok (.bipush 35, 2) := by decide +kernel
theorem dX9_init_104 : decode cX9_init 104 = .ok (.newarray .int, 2) := by decide +kernel
theorem dX9_init_106 : decode cX9_init 106 = .ok (.putfield 46, 3) := by decide +kernel
theorem dX9_init_109 : decode cX9_init 109 = .ok (.aload_n 0, 1) := by decide +kernel
theorem dX9_init_110 : decode cX9_init 110 = .ok (.getfield 7, 3) := by decide +kernel
theorem dX9_init_113 : decode cX9_init 113 = .ok (.iconst 0, 1) := by decide +kernel
theorem dX9_init_114 : decode cX9_init 114 = .ok (.iconst 1, 1) := by decide +kernel
theorem dX9_init_115 : decode cX9_init 115 = .ok (.iastore, 1) := by decide +kernel
theorem dX9_init_116 : decode cX9_init 116 = .ok (.aload_n 0, 1) := by decide +kernel
theorem dX9_init_117 : decode cX9_init 117 = .ok (.getfield 7, 3) := by decide +kernel
theorem dX9_init_120 : decode cX9_init 120 = .ok (.iconst 1, 1) := by decide +kernel
theorem dX9_init_121 : decode cX9_init 121 = .ok (.iconst 3, 1) := by decide +kernel
theorem dX9_init_122 : decode cX9_init 122 = .ok (.iastore, 1) := by decide +kernel
theorem dX9_init_123 : decode cX9_init 123 = .ok (.return_, 1) := by decide +kernel
theorem dX9_in_0 : decode cX9_in 0 = .ok (.lload_n 0, 1) := by decide +kernel
theorem dX9_in_1 : decode cX9_in 1 = .ok (.lload_n 2, 1) := by decide +kernel
theorem dX9_in_2 : decode cX9_in 2 = .ok (.lcmp, 1) := by decide +kernel
theorem dX9_in_3 : decode cX9_in 3 = .ok (.ifCond .lt 14, 3) := by decide +kernel
theorem dX9_in_6 : decode cX9_in 6 = .ok (.lload_n 0, 1) := by decide +kernel
theorem dX9_in_7 : decode cX9_in 7 = .ok (.lload 4, 2) := by decide +kernel
theorem dX9_in_9 : decode cX9_in 9 = .ok (.lcmp, 1) := by decide +kernel
theorem dX9_in_10 : decode cX9_in 10 = .ok (.ifCond .gt 7, 3) := by decide +kernel
theorem dX9_in_13 : decode cX9_in 13 = .ok (.iconst 1, 1) := by decide +kernel
theorem dX9_in_14 : decode cX9_in 14 = .ok (.goto 4, 3) := by decide +kernel
theorem dX9_in_17 : decode cX9_in 17 = .ok (.iconst 0, 1) := by decide +kernel
theorem dX9_in_18 : decode cX9_in 18 = .ok (.ireturn, 1) := by decide +kernel
theorem dX9_bad_0 : decode cX9_bad 0 = .ok (.aload_n 0, 1) := by decide +kernel
theorem dX9_bad_1 : decode cX9_bad 1 = .ok (.getfield 16, 3) := by decide +kernel
theorem dX9_bad_4 : decode cX9_bad 4 = .ok (.iconst 0, 1) := by decide +kernel
theorem dX9_bad_5 : decode cX9_bad 5 = .ok (.dup2, 1) := by decide +kernel
theorem dX9_bad_6 : decode cX9_bad 6 = .ok (.iaload, 1) := by decide +kernel
theorem dX9_bad_7 : decode cX9_bad 7 = .ok (.iconst 1, 1) := by decide +kernel
theorem dX9_bad_8 : decode cX9_bad 8 = .ok (.iadd, 1) := by decide +kernel
theorem dX9_bad_9 : decode cX9_bad 9 = .ok (.iastore, 1) := by decide +kernel
theorem dX9_bad_10 : decode cX9_bad 10 = .ok (.iload_n 1, 1) := by decide +kernel
theorem dX9_bad_11 : decode cX9_bad 11 = .ok (.ireturn, 1) := by decide +kernel
theorem dX9_no_0 : decode cX9_no 0 = .ok (.aload_n 0, 1) := by decide +kernel
theorem dX9_no_1 : decode cX9_no 1 = .ok (.getfield 16, 3) := by decide +kernel
theorem dX9_no_4 : decode cX9_no 4 = .ok (.iconst 1, 1) := by decide +kernel
theorem dX9_no_5 : decode cX9_no 5 = .ok (.dup2, 1) := by decide +kernel
theorem dX9_no_6 : decode cX9_no 6 = .ok (.iaload, 1) := by decide +kernel
theorem dX9_no_7 : decode cX9_no 7 = .ok (.iconst 1, 1) := by decide +kernel
theorem dX9_no_8 : decode cX9_no 8 = .ok (.iadd, 1) := by decide +kernel
theorem dX9_no_9 : decode cX9_no 9 = .ok (.iastore, 1) := by decide +kernel
theorem dX9_no_10 : decode cX9_no 10 = .ok (.iload_n 1, 1) := by decide +kernel
theorem dX9_no_11 : decode cX9_no 11 = .ok (.ireturn, 1) := by decide +kernel
theorem dX9_full_0 : decode cX9_full 0 = .ok (.aload_n 0, 1) := by decide +kernel
theorem dX9_full_1 : decode cX9_full 1 = .ok (.getfield 16, 3) := by decide +kernel
theorem dX9_full_4 : decode cX9_full 4 = .ok (.iconst 2, 1) := by decide +kernel
theorem dX9_full_5 : decode cX9_full 5 = .ok (.dup2, 1) := by decide +kernel
theorem dX9_full_6 : decode cX9_full 6 = .ok (.iaload, 1) := by decide +kernel
theorem dX9_full_7 : decode cX9_full 7 = .ok (.iconst 1, 1) := by decide +kernel
theorem dX9_full_8 : decode cX9_full 8 = .ok (.iadd, 1) := by decide +kernel
theorem dX9_full_9 : decode cX9_full 9 = .ok (.iastore, 1) := by decide +kernel
theorem dX9_full_10 : decode cX9_full 10 = .ok (.bipush (-4), 2) := by decide +kernel
theorem dX9_full_12 : decode cX9_full 12 = .ok (.ireturn, 1) := by decide +kernel
theorem dX9_has_0 : decode cX9_has 0 = .ok (.iload_n 0, 1) := by decide +kernel
theorem dX9_has_1 : decode cX9_has 1 = .ok (.iload_n 1, 1) := by decide +kernel
theorem dX9_has_2 : decode cX9_has 2 = .ok (.ishr, 1) := by decide +kernel
theorem dX9_has_3 : decode cX9_has 3 = .ok (.iconst 1, 1) := by decide +kernel
theorem dX9_has_4 : decode cX9_has 4 = .ok (.iand, 1) := by decide +kernel
theorem dX9_has_5 : decode cX9_has 5 = .ok (.iconst 1, 1) := by decide +kernel
theorem dX9_has_6 : decode cX9_has 6 = .ok (.if_icmp .ne 7, 3) := by decide +kernel
theorem dX9_has_9 : decode cX9_has 9 = .ok (.iconst 1, 1) := by decide +kernel
theorem dX9_has_10 : decode cX9_has 10 = .ok (.goto 4, 3) := by decide +kernel
theorem dX9_has_13 : decode cX9_has 13 = .ok (.iconst 0, 1) := by decide +kernel
theorem dX9_has_14 : decode cX9_has 14 = .ok (.ireturn, 1) := by decide +kernel
theorem dX9_bits_0 : decode cX9_bits 0 = .ok (.iconst 0, 1) := by decide +kernel
theorem dX9_bits_1 : decode cX9_bits 1 = .ok (.istore_n 1, 1) := by decide +kernel
theorem dX9_bits_2 : decode cX9_bits 2 = .ok (.iload_n 0, 1) := by decide +kernel
theorem dX9_bits_3 : decode cX9_bits 3 = .ok (.istore_n 2, 1) := by decide +kernel
theorem dX9_bits_4 : decode cX9_bits 4 = .ok (.iload_n 2, 1) := by decide +kernel
theorem dX9_bits_5 : decode cX9_bits 5 = .ok (.ifCond .eq 15, 3) := by decide +kernel
theorem dX9_bits_8 : decode cX9_bits 8 = .ok (.iinc 1 1, 3) := by decide +kernel
theorem dX9_bits_11 : decode cX9_bits 11 = .ok (.iload_n 2, 1) := by decide +kernel
theorem dX9_bits_12 : decode cX9_bits 12 = .ok (.iload_n 2, 1) := by decide +kernel
theorem dX9_bits_13 : decode cX9_bits 13 = .ok (.iconst 1, 1) := by decide +kernel
theorem dX9_bits_14 : decode cX9_bits 14 = .ok (.isub, 1) := by decide +kernel
theorem dX9_bits_15 : decode cX9_bits 15 = .ok (.iand, 1) := by decide +kernel
theorem dX9_bits_16 : decode cX9_bits 16 = .ok (.istore_n 2, 1) := by decide +kernel
theorem dX9_bits_17 : decode cX9_bits 17 = .ok (.goto (-13), 3) := by decide +kernel
theorem dX9_bits_20 : decode cX9_bits 20 = .ok (.iload_n 1, 1) := by decide +kernel
theorem dX9_bits_21 : decode cX9_bits 21 = .ok (.ireturn, 1) := by decide +kernel
theorem dX9_order_0 : decode cX9_order 0 = .ok (.aload_n 0, 1) := by decide +kernel
theorem dX9_order_1 : decode cX9_order 1 = .ok (.getfield 7, 3) := by decide +kernel
theorem dX9_order_4 : decode cX9_order 4 = .ok (.iconst 0, 1) := by decide +kernel
theorem dX9_order_5 : decode cX9_order 5 = .ok (.iaload, 1) := by decide +kernel
theorem dX9_order_6 : decode cX9_order 6 = .ok (.ireturn, 1) := by decide +kernel
theorem dX9_length_0 : decode cX9_length 0 = .ok (.aload_n 0, 1) := by decide +kernel
theorem dX9_length_1 : decode cX9_length 1 = .ok (.getfield 7, 3) := by decide +kernel
theorem dX9_length_4 : decode cX9_length 4 = .ok (.iconst 1, 1) := by decide +kernel
theorem dX9_length_5 : decode cX9_length 5 = .ok (.iaload, 1) := by decide +kernel
theorem dX9_length_6 : decode cX9_length 6 = .ok (.ireturn, 1) := by decide +kernel
set_option maxRecDepth 20000 in
theorem ggX9_places_X9_length : GoodIn wsX9_places wsX9_length := goodIn_r _ [5, 6, 7, 8, 9, 10, 11, 12, 13, 14, 15, 16, 17, 18, 19, 20, 21, 22, 23, 24, 25, 26, 27, 28, 29, 30, 31, 32, 33] (by decide +kernel) (by decide +kernel)
set_option maxRecDepth 20000 in
theorem gX9_places_X9_length : GoodIn wsX9_places (wsV RX9 49 RX9 yX9_length wsX9_length) := goodIn_app (goodIn_of _ (by decide +kernel)) ggX9_places_X9_length
theorem dX9_places_0 : decode cX9_places 0 = .ok (.iconst 1, 1) := by decide +kernel
theorem dX9_places_1 : decode cX9_places 1 = .ok (.aload_n 0, 1) := by decide +kernel
theorem dX9_places_2 : decode cX9_places 2 = .ok (.invokevirtual 49, 3) := by decide +kernel
theorem dX9_places_5 : decode cX9_places 5 = .ok (.ishl, 1) := by decide +kernel
theorem dX9_places_6 : decode cX9_places 6 = .ok (.ireturn, 1) := by decide +kernel
theorem dX9_theWord_0 : decode cX9_theWord 0 = .ok (.aload_n 0, 1) := by decide +kernel
theorem dX9_theWord_1 : decode cX9_theWord 1 = .ok (.getfield 7, 3) := by decide +kernel
theorem dX9_theWord_4 : decode cX9_theWord 4 = .ok (.iconst 2, 1) := by decide +kernel
theorem dX9_theWord_5 : decode cX9_theWord 5 = .ok (.iaload, 1) := by decide +kernel
theorem dX9_theWord_6 : decode cX9_theWord 6 = .ok (.ireturn, 1) := by decide +kernel
theorem dX9_allOf_0 : decode cX9_allOf 0 = .ok (.iload_n 0, 1) := by decide +kernel
theorem dX9_allOf_1 : decode cX9_allOf 1 = .ok (.bipush 32, 2) := by decide +kernel
theorem dX9_allOf_3 : decode cX9_allOf 3 = .ok (.if_icmp .lt 7, 3) := by decide +kernel
theorem dX9_allOf_6 : decode cX9_allOf 6 = .ok (.iconst (-1), 1) := by decide +kernel
theorem dX9_allOf_7 : decode cX9_allOf 7 = .ok (.goto 8, 3) := by decide +kernel
theorem dX9_allOf_10 : decode cX9_allOf 10 = .ok (.iconst 1, 1) := by decide +kernel
theorem dX9_allOf_11 : decode cX9_allOf 11 = .ok (.iload_n 0, 1) := by decide +kernel
theorem dX9_allOf_12 : decode cX9_allOf 12 = .ok (.ishl, 1) := by decide +kernel
theorem dX9_allOf_13 : decode cX9_allOf 13 = .ok (.iconst 1, 1) := by decide +kernel
theorem dX9_allOf_14 : decode cX9_allOf 14 = .ok (.isub, 1) := by decide +kernel
theorem dX9_allOf_15 : decode cX9_allOf 15 = .ok (.ireturn, 1) := by decide +kernel
theorem dX9_keep_0 : decode cX9_keep 0 = .ok (.aload_n 0, 1) := by decide +kernel
theorem dX9_keep_1 : decode cX9_keep 1 = .ok (.getfield 53, 3) := by decide +kernel
theorem dX9_keep_4 : decode cX9_keep 4 = .ok (.bipush 8, 2) := by decide +kernel
theorem dX9_keep_6 : decode cX9_keep 6 = .ok (.if_icmp .ne 43, 3) := by decide +kernel
theorem dX9_keep_9 : decode cX9_keep 9 = .ok (.iconst 0, 1) := by decide +kernel
theorem dX9_keep_10 : decode cX9_keep 10 = .ok (.istore_n 1, 1) := by decide +kernel
theorem dX9_keep_11 : decode cX9_keep 11 = .ok (.iload_n 1, 1) := by decide +kernel
theorem dX9_keep_12 : decode cX9_keep 12 = .ok (.sipush 245, 3) := by decide +kernel
theorem dX9_keep_15 : decode cX9_keep 15 = .ok (.if_icmp .ge 24, 3) := by decide +kernel
theorem dX9_keep_18 : decode cX9_keep 18 = .ok (.aload_n 0, 1) := by decide +kernel
theorem dX9_keep_19 : decode cX9_keep 19 = .ok (.getfield 13, 3) := by decide +kernel
theorem dX9_keep_22 : decode cX9_keep 22 = .ok (.iload_n 1, 1) := by decide +kernel
theorem dX9_keep_23 : decode cX9_keep 23 = .ok (.aload_n 0, 1) := by decide +kernel
theorem dX9_keep_24 : decode cX9_keep 24 = .ok (.getfield 13, 3) := by decide +kernel
theorem dX9_keep_27 : decode cX9_keep 27 = .ok (.iload_n 1, 1) := by decide +kernel
theorem dX9_keep_28 : decode cX9_keep 28 = .ok (.bipush 35, 2) := by decide +kernel
theorem dX9_keep_30 : decode cX9_keep 30 = .ok (.iadd, 1) := by decide +kernel
theorem dX9_keep_31 : decode cX9_keep 31 = .ok (.iaload, 1) := by decide +kernel
theorem dX9_keep_32 : decode cX9_keep 32 = .ok (.iastore, 1) := by decide +kernel
theorem dX9_keep_33 : decode cX9_keep 33 = .ok (.iinc 1 1, 3) := by decide +kernel
theorem dX9_keep_36 : decode cX9_keep 36 = .ok (.goto (-25), 3) := by decide +kernel
theorem dX9_keep_39 : decode cX9_keep 39 = .ok (.aload_n 0, 1) := by decide +kernel
theorem dX9_keep_40 : decode cX9_keep 40 = .ok (.dup, 1) := by decide +kernel
theorem dX9_keep_41 : decode cX9_keep 41 = .ok (.getfield 53, 3) := by decide +kernel
theorem dX9_keep_44 : decode cX9_keep 44 = .ok (.iconst 1, 1) := by decide +kernel
theorem dX9_keep_45 : decode cX9_keep 45 = .ok (.isub, 1) := by decide +kernel
theorem dX9_keep_46 : decode cX9_keep 46 = .ok (.putfield 53, 3) := by decide +kernel
theorem dX9_keep_49 : decode cX9_keep 49 = .ok (.iconst 0, 1) := by decide +kernel
theorem dX9_keep_50 : decode cX9_keep 50 = .ok (.istore_n 1, 1) := by decide +kernel
theorem dX9_keep_51 : decode cX9_keep 51 = .ok (.iload_n 1, 1) := by decide +kernel
theorem dX9_keep_52 : decode cX9_keep 52 = .ok (.bipush 35, 2) := by decide +kernel
theorem dX9_keep_54 : decode cX9_keep 54 = .ok (.if_icmp .ge 29, 3) := by decide +kernel
theorem dX9_keep_57 : decode cX9_keep 57 = .ok (.aload_n 0, 1) := by decide +kernel
theorem dX9_keep_58 : decode cX9_keep 58 = .ok (.getfield 13, 3) := by decide +kernel
theorem dX9_keep_61 : decode cX9_keep 61 = .ok (.bipush 35, 2) := by decide +kernel
theorem dX9_keep_63 : decode cX9_keep 63 = .ok (.aload_n 0, 1) := by decide +kernel
theorem dX9_keep_64 : decode cX9_keep 64 = .ok (.getfield 53, 3) := by decide +kernel
theorem dX9_keep_67 : decode cX9_keep 67 = .ok (.imul, 1) := by decide +kernel
theorem dX9_keep_68 : decode cX9_keep 68 = .ok (.iload_n 1, 1) := by decide +kernel
theorem dX9_keep_69 : decode cX9_keep 69 = .ok (.iadd, 1) := by decide +kernel
theorem dX9_keep_70 : decode cX9_keep 70 = .ok (.aload_n 0, 1) := by decide +kernel
theorem dX9_keep_71 : decode cX9_keep 71 = .ok (.getfield 7, 3) := by decide +kernel
theorem dX9_keep_74 : decode cX9_keep 74 = .ok (.iload_n 1, 1) := by decide +kernel
theorem dX9_keep_75 : decode cX9_keep 75 = .ok (.iaload, 1) := by decide +kernel
theorem dX9_keep_76 : decode cX9_keep 76 = .ok (.iastore, 1) := by decide +kernel
theorem dX9_keep_77 : decode cX9_keep 77 = .ok (.iinc 1 1, 3) := by decide +kernel
theorem dX9_keep_80 : decode cX9_keep 80 = .ok (.goto (-29), 3) := by decide +kernel
theorem dX9_keep_83 : decode cX9_keep 83 = .ok (.aload_n 0, 1) := by decide +kernel
theorem dX9_keep_84 : decode cX9_keep 84 = .ok (.dup, 1) := by decide +kernel
theorem dX9_keep_85 : decode cX9_keep 85 = .ok (.getfield 53, 3) := by decide +kernel
theorem dX9_keep_88 : decode cX9_keep 88 = .ok (.iconst 1, 1) := by decide +kernel
theorem dX9_keep_89 : decode cX9_keep 89 = .ok (.iadd, 1) := by decide +kernel
theorem dX9_keep_90 : decode cX9_keep 90 = .ok (.putfield 53, 3) := by decide +kernel
theorem dX9_keep_93 : decode cX9_keep 93 = .ok (.return_, 1) := by decide +kernel
set_option maxRecDepth 20000 in
theorem ggX9_lays_X9_places : GoodIn wsX9_lays wsX9_places := goodIn_r _ [7, 8, 9, 10, 6, 11, 12, 16, 17, 18, 19, 20, 21, 22, 23, 24, 25, 26, 27, 28, 29, 30, 31, 32, 33, 34, 35, 36, 37, 38, 39, 40, 41, 42] (by decide +kernel) (by decide +kernel)
set_option maxRecDepth 20000 in
theorem gX9_lays_X9_places : GoodIn wsX9_lays (wsV RX9 60 RX9 yX9_places wsX9_places) := goodIn_app (goodIn_of _ (by decide +kernel)) ggX9_lays_X9_places
set_option maxRecDepth 20000 in
theorem ggX9_lays_X9_bits : GoodIn wsX9_lays wsX9_bits := goodIn_r _ [15] (by decide +kernel) (by decide +kernel)
set_option maxRecDepth 20000 in
theorem gX9_lays_X9_bits : GoodIn wsX9_lays (va_wsS RX9 63 yX9_bits wsX9_bits) := goodIn_app (goodIn_of _ (by decide +kernel)) ggX9_lays_X9_bits
theorem dX9_lays_0 : decode cX9_lays 0 = .ok (.aload_n 0, 1) := by decide +kernel
theorem dX9_lays_1 : decode cX9_lays 1 = .ok (.iconst 0, 1) := by decide +kernel
theorem dX9_lays_2 : decode cX9_lays 2 = .ok (.putfield 57, 3) := by decide +kernel
theorem dX9_lays_5 : decode cX9_lays 5 = .ok (.iconst 0, 1) := by decide +kernel
theorem dX9_lays_6 : decode cX9_lays 6 = .ok (.istore_n 2, 1) := by decide +kernel
theorem dX9_lays_7 : decode cX9_lays 7 = .ok (.iload_n 2, 1) := by decide +kernel
theorem dX9_lays_8 : decode cX9_lays 8 = .ok (.iload_n 1, 1) := by decide +kernel
theorem dX9_lays_9 : decode cX9_lays 9 = .ok (.if_icmp .gt 53, 3) := by decide +kernel
theorem dX9_lays_12 : decode cX9_lays 12 = .ok (.iconst 0, 1) := by decide +kernel
theorem dX9_lays_13 : decode cX9_lays 13 = .ok (.istore_n 3, 1) := by decide +kernel
theorem dX9_lays_14 : decode cX9_lays 14 = .ok (.iload_n 3, 1) := by decide +kernel
theorem dX9_lays_15 : decode cX9_lays 15 = .ok (.aload_n 0, 1) := by decide +kernel
theorem dX9_lays_16 : decode cX9_lays 16 = .ok (.invokevirtual 60, 3) := by decide +kernel
theorem dX9_lays_19 : decode cX9_lays 19 = .ok (.if_icmp .ge 37, 3) := by decide +kernel
theorem dX9_lays_22 : decode cX9_lays 22 = .ok (.iload_n 3, 1) := by decide +kernel
theorem dX9_lays_23 : decode cX9_lays 23 = .ok (.invokestatic 63, 3) := by decide +kernel
theorem dX9_lays_26 : decode cX9_lays 26 = .ok (.iload_n 2, 1) := by decide +kernel
theorem dX9_lays_27 : decode cX9_lays 27 = .ok (.if_icmp .ne 23, 3) := by decide +kernel
theorem dX9_lays_30 : decode cX9_lays 30 = .ok (.aload_n 0, 1) := by decide +kernel
theorem dX9_lays_31 : decode cX9_lays 31 = .ok (.getfield 19, 3) := by decide +kernel
theorem dX9_lays_34 : decode cX9_lays 34 = .ok (.aload_n 0, 1) := by decide +kernel
theorem dX9_lays_35 : decode cX9_lays 35 = .ok (.getfield 57, 3) := by decide +kernel
theorem dX9_lays_38 : decode cX9_lays 38 = .ok (.iload_n 3, 1) := by decide +kernel
theorem dX9_lays_39 : decode cX9_lays 39 = .ok (.iastore, 1) := by decide +kernel
theorem dX9_lays_40 : decode cX9_lays 40 = .ok (.aload_n 0, 1) := by decide +kernel
theorem dX9_lays_41 : decode cX9_lays 41 = .ok (.dup, 1) := by decide +kernel
theorem dX9_lays_42 : decode cX9_lays 42 = .ok (.getfield 57, 3) := by decide +kernel
theorem dX9_lays_45 : decode cX9_lays 45 = .ok (.iconst 1, 1) := by decide +kernel
theorem dX9_lays_46 : decode cX9_lays 46 = .ok (.iadd, 1) := by decide +kernel
theorem dX9_lays_47 : decode cX9_lays 47 = .ok (.putfield 57, 3) := by decide +kernel
theorem dX9_lays_50 : decode cX9_lays 50 = .ok (.iinc 3 1, 3) := by decide +kernel
theorem dX9_lays_53 : decode cX9_lays 53 = .ok (.goto (-39), 3) := by decide +kernel
theorem dX9_lays_56 : decode cX9_lays 56 = .ok (.iinc 2 1, 3) := by decide +kernel
theorem dX9_lays_59 : decode cX9_lays 59 = .ok (.goto (-52), 3) := by decide +kernel
theorem dX9_lays_62 : decode cX9_lays 62 = .ok (.return_, 1) := by decide +kernel
set_option maxRecDepth 20000 in
theorem ggX9_many_X9_order : GoodIn wsX9_many wsX9_order := goodIn_r _ [6, 7, 24, 25, 26, 27, 28, 29, 30, 31, 32, 33, 34, 35, 36, 37, 38, 39, 40, 41, 42, 43, 44, 45, 46, 47, 48, 49, 50] (by decide +kernel) (by decide +kernel)
set_option maxRecDepth 20000 in
theorem gX9_many_X9_order : GoodIn wsX9_many (wsV RX9 67 RX9 yX9_order wsX9_order) := goodIn_app (goodIn_of _ (by decide +kernel)) ggX9_many_X9_order
set_option maxRecDepth 20000 in
theorem ggX9_many_X9_lays : GoodIn wsX9_many wsX9_lays := goodIn_r _ [11, 1, 12, 13, 14, 15, 5, 16, 17, 18, 19, 20, 7, 21, 22, 23, 24, 25, 26, 27, 28, 29, 30, 31, 32, 33, 34, 35, 36, 37, 38, 39, 40, 41, 42, 43, 44, 45, 46, 47, 48, 49, 50] (by decide +kernel) (by decide +kernel)
set_option maxRecDepth 20000 in
theorem gX9_many_X9_lays : GoodIn wsX9_many (wsV RX9 70 RX9 yX9_lays wsX9_lays) := goodIn_app (goodIn_of _ (by decide +kernel)) ggX9_many_X9_lays
theorem dX9_many_0 : decode cX9_many 0 = .ok (.aload_n 0, 1) := by decide +kernel
theorem dX9_many_1 : decode cX9_many 1 = .ok (.aload_n 0, 1) := by decide +kernel
theorem dX9_many_2 : decode cX9_many 2 = .ok (.invokevirtual 67, 3) := by decide +kernel
theorem dX9_many_5 : decode cX9_many 5 = .ok (.invokevirtual 70, 3) := by decide +kernel
theorem dX9_many_8 : decode cX9_many 8 = .ok (.aload_n 0, 1) := by decide +kernel
theorem dX9_many_9 : decode cX9_many 9 = .ok (.getfield 57, 3) := by decide +kernel
theorem dX9_many_12 : decode cX9_many 12 = .ok (.ireturn, 1) := by decide +kernel
set_option maxRecDepth 20000 in
theorem ggX9_wordOf_X9_places : GoodIn wsX9_wordOf wsX9_places := goodIn_r _ [5, 6, 7, 8, 4, 9, 10, 11, 12, 13, 14, 15, 16, 17, 18, 19, 20, 21, 22, 23, 24, 25, 26, 27, 28, 29, 30, 31, 32, 33, 34, 35, 36, 37] (by decide +kernel) (by decide +kernel)
set_option maxRecDepth 20000 in
theorem gX9_wordOf_X9_places : GoodIn wsX9_wordOf (wsV RX9 60 RX9 yX9_places wsX9_places) := goodIn_app (goodIn_of _ (by decide +kernel)) ggX9_wordOf_X9_places
theorem dX9_wordOf_0 : decode cX9_wordOf 0 = .ok (.iconst 0, 1) := by decide +kernel
theorem dX9_wordOf_1 : decode cX9_wordOf 1 = .ok (.istore_n 2, 1) := by decide +kernel
theorem dX9_wordOf_2 : decode cX9_wordOf 2 = .ok (.iconst 0, 1) := by decide +kernel
theorem dX9_wordOf_3 : decode cX9_wordOf 3 = .ok (.istore_n 3, 1) := by decide +kernel
theorem dX9_wordOf_4 : decode cX9_wordOf 4 = .ok (.iload_n 3, 1) := by decide +kernel
theorem dX9_wordOf_5 : decode cX9_wordOf 5 = .ok (.aload_n 0, 1) := by decide +kernel
theorem dX9_wordOf_6 : decode cX9_wordOf 6 = .ok (.invokevirtual 60, 3) := by decide +kernel
theorem dX9_wordOf_9 : decode cX9_wordOf 9 = .ok (.if_icmp .ge 26, 3) := by decide +kernel
theorem dX9_wordOf_12 : decode cX9_wordOf 12 = .ok (.iload_n 2, 1) := by decide +kernel
theorem dX9_wordOf_13 : decode cX9_wordOf 13 = .ok (.iload_n 3, 1) := by decide +kernel
theorem dX9_wordOf_14 : decode cX9_wordOf 14 = .ok (.iload_n 1, 1) := by decide +kernel
theorem dX9_wordOf_15 : decode cX9_wordOf 15 = .ok (.iand, 1) := by decide +kernel
theorem dX9_wordOf_16 : decode cX9_wordOf 16 = .ok (.iload_n 1, 1) := by decide +kernel
theorem dX9_wordOf_17 : decode cX9_wordOf 17 = .ok (.if_icmp .ne 9, 3) := by decide +kernel
theorem dX9_wordOf_20 : decode cX9_wordOf 20 = .ok (.iconst 1, 1) := by decide +kernel
theorem dX9_wordOf_21 : decode cX9_wordOf 21 = .ok (.iload_n 3, 1) := by decide +kernel
theorem dX9_wordOf_22 : decode cX9_wordOf 22 = .ok (.ishl, 1) := by decide +kernel
theorem dX9_wordOf_23 : decode cX9_wordOf 23 = .ok (.goto 4, 3) := by decide +kernel
theorem dX9_wordOf_26 : decode cX9_wordOf 26 = .ok (.iconst 0, 1) := by decide +kernel
theorem dX9_wordOf_27 : decode cX9_wordOf 27 = .ok (.ior, 1) := by decide +kernel
theorem dX9_wordOf_28 : decode cX9_wordOf 28 = .ok (.istore_n 2, 1) := by decide +kernel
theorem dX9_wordOf_29 : decode cX9_wordOf 29 = .ok (.iinc 3 1, 3) := by decide +kernel
theorem dX9_wordOf_32 : decode cX9_wordOf 32 = .ok (.goto (-28), 3) := by decide +kernel
theorem dX9_wordOf_35 : decode cX9_wordOf 35 = .ok (.iload_n 2, 1) := by decide +kernel
theorem dX9_wordOf_36 : decode cX9_wordOf 36 = .ok (.ireturn, 1) := by decide +kernel
set_option maxRecDepth 20000 in
theorem ggX9_sumOf_X9_has : GoodIn wsX9_sumOf wsX9_has := goodIn_r _ [5] (by decide +kernel) (by decide +kernel)
set_option maxRecDepth 20000 in
theorem gX9_sumOf_X9_has : GoodIn wsX9_sumOf (va_wsS RX9 74 yX9_has wsX9_has) := goodIn_app (goodIn_of _ (by decide +kernel)) ggX9_sumOf_X9_has
set_option maxRecDepth 20000 in
theorem ggX9_sumOf_X9_wordOf : GoodIn wsX9_sumOf wsX9_wordOf := goodIn_r _ [9, 10, 11, 12, 4, 13, 14, 15, 16, 17, 18, 19, 20, 21, 22, 23, 24, 25, 26, 27, 28, 29, 30, 31, 32, 33, 34, 35, 36, 37, 38, 39, 40, 41, 42, 43, 44, 45] (by decide +kernel) (by decide +kernel)
set_option maxRecDepth 20000 in
theorem gX9_sumOf_X9_wordOf : GoodIn wsX9_sumOf (wsV RX9 78 RX9 yX9_wordOf wsX9_wordOf) := goodIn_app (goodIn_of _ (by decide +kernel)) ggX9_sumOf_X9_wordOf
theorem dX9_sumOf_0 : decode cX9_sumOf 0 = .ok (.iconst 0, 1) := by decide +kernel
theorem dX9_sumOf_1 : decode cX9_sumOf 1 = .ok (.istore_n 3, 1) := by decide +kernel
theorem dX9_sumOf_2 : decode cX9_sumOf 2 = .ok (.iconst 0, 1) := by decide +kernel
theorem dX9_sumOf_3 : decode cX9_sumOf 3 = .ok (.istore 4, 2) := by decide +kernel
theorem dX9_sumOf_5 : decode cX9_sumOf 5 = .ok (.iload 4, 2) := by decide +kernel
theorem dX9_sumOf_7 : decode cX9_sumOf 7 = .ok (.iload_n 2, 1) := by decide +kernel
theorem dX9_sumOf_8 : decode cX9_sumOf 8 = .ok (.if_icmp .ge 36, 3) := by decide +kernel
theorem dX9_sumOf_11 : decode cX9_sumOf 11 = .ok (.iload_n 3, 1) := by decide +kernel
theorem dX9_sumOf_12 : decode cX9_sumOf 12 = .ok (.iload_n 1, 1) := by decide +kernel
theorem dX9_sumOf_13 : decode cX9_sumOf 13 = .ok (.iload 4, 2) := by decide +kernel
theorem dX9_sumOf_15 : decode cX9_sumOf 15 = .ok (.invokestatic 74, 3) := by decide +kernel
theorem dX9_sumOf_18 : decode cX9_sumOf 18 = .ok (.ifCond .eq 17, 3) := by decide +kernel
theorem dX9_sumOf_21 : decode cX9_sumOf 21 = .ok (.aload_n 0, 1) := by decide +kernel
theorem dX9_sumOf_22 : decode cX9_sumOf 22 = .ok (.aload_n 0, 1) := by decide +kernel
theorem dX9_sumOf_23 : decode cX9_sumOf 23 = .ok (.getfield 19, 3) := by decide +kernel
theorem dX9_sumOf_26 : decode cX9_sumOf 26 = .ok (.iload 4, 2) := by decide +kernel
theorem dX9_sumOf_28 : decode cX9_sumOf 28 = .ok (.iaload, 1) := by decide +kernel
theorem dX9_sumOf_29 : decode cX9_sumOf 29 = .ok (.invokevirtual 78, 3) := by decide +kernel
theorem dX9_sumOf_32 : decode cX9_sumOf 32 = .ok (.goto 4, 3) := by decide +kernel
theorem dX9_sumOf_35 : decode cX9_sumOf 35 = .ok (.iconst 0, 1) := by decide +kernel
theorem dX9_sumOf_36 : decode cX9_sumOf 36 = .ok (.ixor, 1) := by decide +kernel
theorem dX9_sumOf_37 : decode cX9_sumOf 37 = .ok (.istore_n 3, 1) := by decide +kernel
theorem dX9_sumOf_38 : decode cX9_sumOf 38 = .ok (.iinc 4 1, 3) := by decide +kernel
theorem dX9_sumOf_41 : decode cX9_sumOf 41 = .ok (.goto (-36), 3) := by decide +kernel
theorem dX9_sumOf_44 : decode cX9_sumOf 44 = .ok (.iload_n 3, 1) := by decide +kernel
theorem dX9_sumOf_45 : decode cX9_sumOf 45 = .ok (.ireturn, 1) := by decide +kernel
set_option maxRecDepth 20000 in
theorem ggX9_isCode_X9_in : GoodIn wsX9_isCode wsX9_in := goodIn_r _ [5] (by decide +kernel) (by decide +kernel)
set_option maxRecDepth 20000 in
theorem gX9_isCode_X9_in : GoodIn wsX9_isCode (va_wsS RX9 83 yX9_in wsX9_in) := goodIn_app (goodIn_of _ (by decide +kernel)) ggX9_isCode_X9_in
theorem dX9_isCode_0 : decode cX9_isCode 0 = .ok (.iload_n 2, 1) := by decide +kernel
theorem dX9_isCode_1 : decode cX9_isCode 1 = .ok (.i2l, 1) := by decide +kernel
theorem dX9_isCode_2 : decode cX9_isCode 2 = .ok (.lconst 0, 1) := by decide +kernel
theorem dX9_isCode_3 : decode cX9_isCode 3 = .ok (.ldc2_w 81, 3) := by decide +kernel
theorem dX9_isCode_6 : decode cX9_isCode 6 = .ok (.invokestatic 83, 3) := by decide +kernel
theorem dX9_isCode_9 : decode cX9_isCode 9 = .ok (.ifCond .eq 18, 3) := by decide +kernel
theorem dX9_isCode_12 : decode cX9_isCode 12 = .ok (.iload_n 1, 1) := by decide +kernel
theorem dX9_isCode_13 : decode cX9_isCode 13 = .ok (.i2l, 1) := by decide +kernel
theorem dX9_isCode_14 : decode cX9_isCode 14 = .ok (.lconst 0, 1) := by decide +kernel
theorem dX9_isCode_15 : decode cX9_isCode 15 = .ok (.iload_n 2, 1) := by decide +kernel
theorem dX9_isCode_16 : decode cX9_isCode 16 = .ok (.i2l, 1) := by decide +kernel
theorem dX9_isCode_17 : decode cX9_isCode 17 = .ok (.invokestatic 83, 3) := by decide +kernel
theorem dX9_isCode_20 : decode cX9_isCode 20 = .ok (.ifCond .eq 7, 3) := by decide +kernel
theorem dX9_isCode_23 : decode cX9_isCode 23 = .ok (.iconst 1, 1) := by decide +kernel
theorem dX9_isCode_24 : decode cX9_isCode 24 = .ok (.goto 4, 3) := by decide +kernel
theorem dX9_isCode_27 : decode cX9_isCode 27 = .ok (.iconst 0, 1) := by decide +kernel
theorem dX9_isCode_28 : decode cX9_isCode 28 = .ok (.ireturn, 1) := by decide +kernel
theorem dX9_becomesCode_0 : decode cX9_becomesCode 0 = .ok (.iconst 0, 1) := by decide +kernel
theorem dX9_becomesCode_1 : decode cX9_becomesCode 1 = .ok (.istore_n 3, 1) := by decide +kernel
theorem dX9_becomesCode_2 : decode cX9_becomesCode 2 = .ok (.iload_n 3, 1) := by decide +kernel
theorem dX9_becomesCode_3 : decode cX9_becomesCode 3 = .ok (.bipush 35, 2) := by decide +kernel
theorem dX9_becomesCode_5 : decode cX9_becomesCode 5 = .ok (.if_icmp .ge 16, 3) := by decide +kernel
theorem dX9_becomesCode_8 : decode cX9_becomesCode 8 = .ok (.aload_n 0, 1) := by decide +kernel
theorem dX9_becomesCode_9 : decode cX9_becomesCode 9 = .ok (.getfield 7, 3) := by decide +kernel
theorem dX9_becomesCode_12 : decode cX9_becomesCode 12 = .ok (.iload_n 3, 1) := by decide +kernel
theorem dX9_becomesCode_13 : decode cX9_becomesCode 13 = .ok (.iconst 0, 1) := by decide +kernel
theorem dX9_becomesCode_14 : decode cX9_becomesCode 14 = .ok (.iastore, 1) := by decide +kernel
theorem dX9_becomesCode_15 : decode cX9_becomesCode 15 = .ok (.iinc 3 1, 3) := by decide +kernel
theorem dX9_becomesCode_18 : decode cX9_becomesCode 18 = .ok (.goto (-16), 3) := by decide +kernel
theorem dX9_becomesCode_21 : decode cX9_becomesCode 21 = .ok (.aload_n 0, 1) := by decide +kernel
theorem dX9_becomesCode_22 : decode cX9_becomesCode 22 = .ok (.getfield 7, 3) := by decide +kernel
theorem dX9_becomesCode_25 : decode cX9_becomesCode 25 = .ok (.iconst 0, 1) := by decide +kernel
theorem dX9_becomesCode_26 : decode cX9_becomesCode 26 = .ok (.iload_n 1, 1) := by decide +kernel
theorem dX9_becomesCode_27 : decode cX9_becomesCode 27 = .ok (.iastore, 1) := by decide +kernel
theorem dX9_becomesCode_28 : decode cX9_becomesCode 28 = .ok (.aload_n 0, 1) := by decide +kernel
theorem dX9_becomesCode_29 : decode cX9_becomesCode 29 = .ok (.getfield 7, 3) := by decide +kernel
theorem dX9_becomesCode_32 : decode cX9_becomesCode 32 = .ok (.iconst 1, 1) := by decide +kernel
theorem dX9_becomesCode_33 : decode cX9_becomesCode 33 = .ok (.iload_n 2, 1) := by decide +kernel
theorem dX9_becomesCode_34 : decode cX9_becomesCode 34 = .ok (.iastore, 1) := by decide +kernel
theorem dX9_becomesCode_35 : decode cX9_becomesCode 35 = .ok (.return_, 1) := by decide +kernel
set_option maxRecDepth 20000 in
theorem ggX9_code_X9_isCode : GoodIn wsX9_code wsX9_isCode := goodIn_r _ [5, 6, 7, 8, 4, 9] (by decide +kernel) (by decide +kernel)
set_option maxRecDepth 20000 in
theorem gX9_code_X9_isCode : GoodIn wsX9_code (wsV RX9 87 RX9 yX9_isCode wsX9_isCode) := goodIn_app (goodIn_of _ (by decide +kernel)) ggX9_code_X9_isCode
set_option maxRecDepth 20000 in
theorem ggX9_code_X9_bad : GoodIn wsX9_code wsX9_bad := goodIn_r _ [13, 14, 51, 52, 53, 54, 55, 56, 57, 58, 59, 60, 61, 62, 63, 64, 65, 66, 67, 68, 69, 70, 71, 72, 73, 74, 75, 76, 77] (by decide +kernel) (by decide +kernel)
set_option maxRecDepth 20000 in
theorem gX9_code_X9_bad : GoodIn wsX9_code (wsV RX9 90 RX9 yX9_bad wsX9_bad) := goodIn_app (goodIn_of _ (by decide +kernel)) ggX9_code_X9_bad
set_option maxRecDepth 20000 in
theorem ggX9_code_X9_keep : GoodIn wsX9_code wsX9_keep := goodIn_r _ [18, 19, 20, 21, 51, 52, 53, 54, 55, 56, 57, 58, 59, 60, 61, 62, 63, 64, 65, 66, 67, 68, 69, 70, 71, 72, 73, 74, 75, 76, 77] (by decide +kernel) (by decide +kernel)
set_option maxRecDepth 20000 in
theorem gX9_code_X9_keep : GoodIn wsX9_code (wsV RX9 93 RX9 yX9_keep wsX9_keep) := goodIn_app (goodIn_of _ (by decide +kernel)) ggX9_code_X9_keep
set_option maxRecDepth 20000 in
theorem ggX9_code_X9_becomesCode : GoodIn wsX9_code wsX9_becomesCode := goodIn_r _ [25, 21, 51, 52, 53, 54, 55, 56, 57, 58, 59, 60, 61, 62, 63, 64, 65, 66, 67, 68, 69, 70, 71, 72, 73, 74, 75, 76, 77] (by decide +kernel) (by decide +kernel)
set_option maxRecDepth 20000 in
theorem gX9_code_X9_becomesCode : GoodIn wsX9_code (wsV RX9 96 RX9 yX9_becomesCode wsX9_becomesCode) := goodIn_app (goodIn_of _ (by decide +kernel)) ggX9_code_X9_becomesCode
set_option maxRecDepth 20000 in
theorem ggX9_code_X9_many : GoodIn wsX9_code wsX9_many := goodIn_r _ [29, 30, 31, 32, 33, 4, 34, 21, 35, 36, 37, 38, 39, 40, 41, 42, 43, 44, 45, 46, 47, 48, 49, 50, 51, 52, 53, 54, 55, 56, 57, 58, 59, 60, 61, 62, 63, 64, 65, 66, 67, 68, 69, 70, 71, 72, 73, 74, 75, 76, 77] (by decide +kernel) (by decide +kernel)
set_option maxRecDepth 20000 in
theorem gX9_code_X9_many : GoodIn wsX9_code (wsV RX9 100 RX9 yX9_many wsX9_many) := goodIn_app (goodIn_of _ (by decide +kernel)) ggX9_code_X9_many
theorem dX9_code_0 : decode cX9_code 0 = .ok (.aload_n 0, 1) := by decide +kernel
theorem dX9_code_1 : decode cX9_code 1 = .ok (.iload_n 1, 1) := by decide +kernel
theorem dX9_code_2 : decode cX9_code 2 = .ok (.iload_n 2, 1) := by decide +kernel
theorem dX9_code_3 : decode cX9_code 3 = .ok (.invokevirtual 87, 3) := by decide +kernel
theorem dX9_code_6 : decode cX9_code 6 = .ok (.ifCond .ne 10, 3) := by decide +kernel
theorem dX9_code_9 : decode cX9_code 9 = .ok (.aload_n 0, 1) := by decide +kernel
theorem dX9_code_10 : decode cX9_code 10 = .ok (.bipush (-2), 2) := by decide +kernel
theorem dX9_code_12 : decode cX9_code 12 = .ok (.invokevirtual 90, 3) := by decide +kernel
theorem dX9_code_15 : decode cX9_code 15 = .ok (.ireturn, 1) := by decide +kernel
theorem dX9_code_16 : decode cX9_code 16 = .ok (.aload_n 0, 1) := by decide +kernel
theorem dX9_code_17 : decode cX9_code 17 = .ok (.invokevirtual 93, 3) := by decide +kernel
theorem dX9_code_20 : decode cX9_code 20 = .ok (.aload_n 0, 1) := by decide +kernel
theorem dX9_code_21 : decode cX9_code 21 = .ok (.iload_n 1, 1) := by decide +kernel
theorem dX9_code_22 : decode cX9_code 22 = .ok (.iload_n 2, 1) := by decide +kernel
theorem dX9_code_23 : decode cX9_code 23 = .ok (.invokevirtual 96, 3) := by decide +kernel
theorem dX9_code_26 : decode cX9_code 26 = .ok (.aload_n 0, 1) := by decide +kernel
theorem dX9_code_27 : decode cX9_code 27 = .ok (.invokevirtual 100, 3) := by decide +kernel
theorem dX9_code_30 : decode cX9_code 30 = .ok (.ireturn, 1) := by decide +kernel
set_option maxRecDepth 20000 in
theorem ggX9_distance_X9_length : GoodIn wsX9_distance wsX9_length := goodIn_r _ [5, 6, 11, 12, 13, 14, 15, 16, 17, 18, 19, 20, 21, 22, 23, 24, 25, 26, 27, 28, 29, 30, 31, 32, 33, 34, 35, 36, 37] (by decide +kernel) (by decide +kernel)
set_option maxRecDepth 20000 in
theorem gX9_distance_X9_length : GoodIn wsX9_distance (wsV RX9 49 RX9 yX9_length wsX9_length) := goodIn_app (goodIn_of _ (by decide +kernel)) ggX9_distance_X9_length
set_option maxRecDepth 20000 in
theorem ggX9_distance_X9_order : GoodIn wsX9_distance wsX9_order := goodIn_r _ [10, 6, 11, 12, 13, 14, 15, 16, 17, 18, 19, 20, 21, 22, 23, 24, 25, 26, 27, 28, 29, 30, 31, 32, 33, 34, 35, 36, 37] (by decide +kernel) (by decide +kernel)
set_option maxRecDepth 20000 in
theorem gX9_distance_X9_order : GoodIn wsX9_distance (wsV RX9 67 RX9 yX9_order wsX9_order) := goodIn_app (goodIn_of _ (by decide +kernel)) ggX9_distance_X9_order
theorem dX9_distance_0 : decode cX9_distance 0 = .ok (.iconst 1, 1) := by decide +kernel
theorem dX9_distance_1 : decode cX9_distance 1 = .ok (.aload_n 0, 1) := by decide +kernel
theorem dX9_distance_2 : decode cX9_distance 2 = .ok (.invokevirtual 49, 3) := by decide +kernel
theorem dX9_distance_5 : decode cX9_distance 5 = .ok (.aload_n 0, 1) := by decide +kernel
theorem dX9_distance_6 : decode cX9_distance 6 = .ok (.invokevirtual 67, 3) := by decide +kernel
theorem dX9_distance_9 : decode cX9_distance 9 = .ok (.isub, 1) := by decide +kernel
theorem dX9_distance_10 : decode cX9_distance 10 = .ok (.ishl, 1) := by decide +kernel
theorem dX9_distance_11 : decode cX9_distance 11 = .ok (.ireturn, 1) := by decide +kernel
set_option maxRecDepth 20000 in
theorem ggX9_of_X9_in : GoodIn wsX9_of wsX9_in := goodIn_r _ [5] (by decide +kernel) (by decide +kernel)
set_option maxRecDepth 20000 in
theorem gX9_of_X9_in : GoodIn wsX9_of (va_wsS RX9 83 yX9_in wsX9_in) := goodIn_app (goodIn_of _ (by decide +kernel)) ggX9_of_X9_in
set_option maxRecDepth 20000 in
theorem ggX9_of_X9_bad : GoodIn wsX9_of wsX9_bad := goodIn_r _ [9, 10, 41, 42, 43, 44, 45, 46, 47, 48, 49, 50, 51, 52, 53, 54, 55, 56, 57, 58, 59, 60, 61, 62, 63, 64, 65, 66, 67] (by decide +kernel) (by decide +kernel)
set_option maxRecDepth 20000 in
theorem gX9_of_X9_bad : GoodIn wsX9_of (wsV RX9 90 RX9 yX9_bad wsX9_bad) := goodIn_app (goodIn_of _ (by decide +kernel)) ggX9_of_X9_bad
set_option maxRecDepth 20000 in
theorem ggX9_of_X9_order : GoodIn wsX9_of wsX9_order := goodIn_r _ [14, 15, 41, 42, 43, 44, 45, 46, 47, 48, 49, 50, 51, 52, 53, 54, 55, 56, 57, 58, 59, 60, 61, 62, 63, 64, 65, 66, 67] (by decide +kernel) (by decide +kernel)
set_option maxRecDepth 20000 in
theorem gX9_of_X9_order : GoodIn wsX9_of (wsV RX9 67 RX9 yX9_order wsX9_order) := goodIn_app (goodIn_of _ (by decide +kernel)) ggX9_of_X9_order
set_option maxRecDepth 20000 in
theorem ggX9_of_X9_length : GoodIn wsX9_of wsX9_length := goodIn_r _ [19, 15, 41, 42, 43, 44, 45, 46, 47, 48, 49, 50, 51, 52, 53, 54, 55, 56, 57, 58, 59, 60, 61, 62, 63, 64, 65, 66, 67] (by decide +kernel) (by decide +kernel)
set_option maxRecDepth 20000 in
theorem gX9_of_X9_length : GoodIn wsX9_of (wsV RX9 49 RX9 yX9_length wsX9_length) := goodIn_app (goodIn_of _ (by decide +kernel)) ggX9_of_X9_length
set_option maxRecDepth 20000 in
theorem ggX9_of_X9_many : GoodIn wsX9_of wsX9_many := goodIn_r _ [23, 24, 11, 12, 13, 4, 14, 15, 25, 26, 27, 28, 29, 30, 31, 32, 33, 16, 17, 18, 19, 34, 35, 36, 41, 42, 43, 44, 45, 46, 47, 48, 49, 50, 51, 52, 53, 54, 55, 56, 57, 58, 59, 60, 61, 62, 63, 64, 65, 66, 67] (by decide +kernel) (by decide +kernel)
set_option maxRecDepth 20000 in
theorem gX9_of_X9_many : GoodIn wsX9_of (wsV RX9 100 RX9 yX9_many wsX9_many) := goodIn_app (goodIn_of _ (by decide +kernel)) ggX9_of_X9_many
set_option maxRecDepth 20000 in
theorem ggX9_of_X9_distance : GoodIn wsX9_of wsX9_distance := goodIn_r _ [40, 16, 17, 18, 4, 19, 15, 11, 12, 13, 14, 41, 42, 43, 44, 45, 46, 47, 48, 49, 50, 51, 52, 53, 54, 55, 56, 57, 58, 59, 60, 61, 62, 63, 64, 65, 66, 67] (by decide +kernel) (by decide +kernel)
set_option maxRecDepth 20000 in
theorem gX9_of_X9_distance : GoodIn wsX9_of (wsV RX9 103 RX9 yX9_distance wsX9_distance) := goodIn_app (goodIn_of _ (by decide +kernel)) ggX9_of_X9_distance
set_option maxRecDepth 20000 in
theorem ggX9_of_X9_places : GoodIn wsX9_of wsX9_places := goodIn_r _ [33, 16, 17, 18, 4, 19, 15, 41, 42, 43, 44, 45, 46, 47, 48, 49, 50, 51, 52, 53, 54, 55, 56, 57, 58, 59, 60, 61, 62, 63, 64, 65, 66, 67] (by decide +kernel) (by decide +kernel)
set_option maxRecDepth 20000 in
theorem gX9_of_X9_places : GoodIn wsX9_of (wsV RX9 60 RX9 yX9_places wsX9_places) := goodIn_app (goodIn_of _ (by decide +kernel)) ggX9_of_X9_places
theorem dX9_of_0 : decode cX9_of 0 = .ok (.iload_n 1, 1) := by decide +kernel
theorem dX9_of_1 : decode cX9_of 1 = .ok (.i2l, 1) := by decide +kernel
theorem dX9_of_2 : decode cX9_of 2 = .ok (.lconst 0, 1) := by decide +kernel
theorem dX9_of_3 : decode cX9_of 3 = .ok (.ldc2_w 81, 3) := by decide +kernel
theorem dX9_of_6 : decode cX9_of 6 = .ok (.invokestatic 83, 3) := by decide +kernel
theorem dX9_of_9 : decode cX9_of 9 = .ok (.ifCond .ne 10, 3) := by decide +kernel
theorem dX9_of_12 : decode cX9_of 12 = .ok (.aload_n 0, 1) := by decide +kernel
theorem dX9_of_13 : decode cX9_of 13 = .ok (.bipush (-2), 2) := by decide +kernel
theorem dX9_of_15 : decode cX9_of 15 = .ok (.invokevirtual 90, 3) := by decide +kernel
theorem dX9_of_18 : decode cX9_of 18 = .ok (.ireturn, 1) := by decide +kernel
theorem dX9_of_19 : decode cX9_of 19 = .ok (.iload_n 1, 1) := by decide +kernel
theorem dX9_of_20 : decode cX9_of 20 = .ok (.ifCond .ne 10, 3) := by decide +kernel
theorem dX9_of_23 : decode cX9_of 23 = .ok (.aload_n 0, 1) := by decide +kernel
theorem dX9_of_24 : decode cX9_of 24 = .ok (.invokevirtual 67, 3) := by decide +kernel
theorem dX9_of_27 : decode cX9_of 27 = .ok (.goto 59, 3) := by decide +kernel
theorem dX9_of_30 : decode cX9_of 30 = .ok (.iload_n 1, 1) := by decide +kernel
theorem dX9_of_31 : decode cX9_of 31 = .ok (.iconst 1, 1) := by decide +kernel
theorem dX9_of_32 : decode cX9_of 32 = .ok (.if_icmp .ne 10, 3) := by decide +kernel
theorem dX9_of_35 : decode cX9_of 35 = .ok (.aload_n 0, 1) := by decide +kernel
theorem dX9_of_36 : decode cX9_of 36 = .ok (.invokevirtual 49, 3) := by decide +kernel
theorem dX9_of_39 : decode cX9_of 39 = .ok (.goto 47, 3) := by decide +kernel
theorem dX9_of_42 : decode cX9_of 42 = .ok (.iload_n 1, 1) := by decide +kernel
theorem dX9_of_43 : decode cX9_of 43 = .ok (.iconst 2, 1) := by decide +kernel
theorem dX9_of_44 : decode cX9_of 44 = .ok (.if_icmp .ne 10, 3) := by decide +kernel
theorem dX9_of_47 : decode cX9_of 47 = .ok (.aload_n 0, 1) := by decide +kernel
theorem dX9_of_48 : decode cX9_of 48 = .ok (.invokevirtual 100, 3) := by decide +kernel
theorem dX9_of_51 : decode cX9_of 51 = .ok (.goto 35, 3) := by decide +kernel
theorem dX9_of_54 : decode cX9_of 54 = .ok (.iload_n 1, 1) := by decide +kernel
theorem dX9_of_55 : decode cX9_of 55 = .ok (.iconst 3, 1) := by decide +kernel
theorem dX9_of_56 : decode cX9_of 56 = .ok (.if_icmp .ne 10, 3) := by decide +kernel
theorem dX9_of_59 : decode cX9_of 59 = .ok (.aload_n 0, 1) := by decide +kernel
theorem dX9_of_60 : decode cX9_of 60 = .ok (.invokevirtual 103, 3) := by decide +kernel
theorem dX9_of_63 : decode cX9_of 63 = .ok (.goto 23, 3) := by decide +kernel
theorem dX9_of_66 : decode cX9_of 66 = .ok (.iload_n 1, 1) := by decide +kernel
theorem dX9_of_67 : decode cX9_of 67 = .ok (.iconst 4, 1) := by decide +kernel
theorem dX9_of_68 : decode cX9_of 68 = .ok (.if_icmp .ne 10, 3) := by decide +kernel
theorem dX9_of_71 : decode cX9_of 71 = .ok (.aload_n 0, 1) := by decide +kernel
theorem dX9_of_72 : decode cX9_of 72 = .ok (.invokevirtual 60, 3) := by decide +kernel
theorem dX9_of_75 : decode cX9_of 75 = .ok (.goto 11, 3) := by decide +kernel
theorem dX9_of_78 : decode cX9_of 78 = .ok (.aload_n 0, 1) := by decide +kernel
theorem dX9_of_79 : decode cX9_of 79 = .ok (.invokevirtual 103, 3) := by decide +kernel
theorem dX9_of_82 : decode cX9_of 82 = .ok (.iconst 1, 1) := by decide +kernel
theorem dX9_of_83 : decode cX9_of 83 = .ok (.isub, 1) := by decide +kernel
theorem dX9_of_84 : decode cX9_of 84 = .ok (.iconst 2, 1) := by decide +kernel
theorem dX9_of_85 : decode cX9_of 85 = .ok (.idiv, 1) := by decide +kernel
theorem dX9_of_86 : decode cX9_of 86 = .ok (.ireturn, 1) := by decide +kernel
set_option maxRecDepth 20000 in
theorem ggX9_term_X9_bad : GoodIn wsX9_term wsX9_bad := goodIn_r _ [6, 7, 33, 34, 35, 36, 37, 38, 39, 40, 41, 42, 43, 44, 45, 46, 47, 48, 49, 50, 51, 52, 53, 54, 55, 56, 57, 58, 59] (by decide +kernel) (by decide +kernel)
set_option maxRecDepth 20000 in
theorem gX9_term_X9_bad : GoodIn wsX9_term (wsV RX9 90 RX9 yX9_bad wsX9_bad) := goodIn_app (goodIn_of _ (by decide +kernel)) ggX9_term_X9_bad
set_option maxRecDepth 20000 in
theorem ggX9_term_X9_many : GoodIn wsX9_term wsX9_many := goodIn_r _ [11, 12, 13, 14, 15, 5, 16, 17, 18, 19, 20, 21, 1, 22, 23, 24, 25, 26, 27, 28, 29, 30, 31, 32, 33, 34, 35, 36, 37, 38, 39, 40, 41, 42, 43, 44, 45, 46, 47, 48, 49, 50, 51, 52, 53, 54, 55, 56, 57, 58, 59] (by decide +kernel) (by decide +kernel)
set_option maxRecDepth 20000 in
theorem gX9_term_X9_many : GoodIn wsX9_term (wsV RX9 100 RX9 yX9_many wsX9_many) := goodIn_app (goodIn_of _ (by decide +kernel)) ggX9_term_X9_many
theorem dX9_term_0 : decode cX9_term 0 = .ok (.iload_n 1, 1) := by decide +kernel
theorem dX9_term_1 : decode cX9_term 1 = .ok (.ifCond .ge 10, 3) := by decide +kernel
theorem dX9_term_4 : decode cX9_term 4 = .ok (.aload_n 0, 1) := by decide +kernel
theorem dX9_term_5 : decode cX9_term 5 = .ok (.bipush (-2), 2) := by decide +kernel
theorem dX9_term_7 : decode cX9_term 7 = .ok (.invokevirtual 90, 3) := by decide +kernel
theorem dX9_term_10 : decode cX9_term 10 = .ok (.ireturn, 1) := by decide +kernel
theorem dX9_term_11 : decode cX9_term 11 = .ok (.iload_n 1, 1) := by decide +kernel
theorem dX9_term_12 : decode cX9_term 12 = .ok (.aload_n 0, 1) := by decide +kernel
theorem dX9_term_13 : decode cX9_term 13 = .ok (.invokevirtual 100, 3) := by decide +kernel
theorem dX9_term_16 : decode cX9_term 16 = .ok (.if_icmp .ge 12, 3) := by decide +kernel
theorem dX9_term_19 : decode cX9_term 19 = .ok (.aload_n 0, 1) := by decide +kernel
theorem dX9_term_20 : decode cX9_term 20 = .ok (.getfield 19, 3) := by decide +kernel
theorem dX9_term_23 : decode cX9_term 23 = .ok (.iload_n 1, 1) := by decide +kernel
theorem dX9_term_24 : decode cX9_term 24 = .ok (.iaload, 1) := by decide +kernel
theorem dX9_term_25 : decode cX9_term 25 = .ok (.goto 4, 3) := by decide +kernel
theorem dX9_term_28 : decode cX9_term 28 = .ok (.iconst (-1), 1) := by decide +kernel
theorem dX9_term_29 : decode cX9_term 29 = .ok (.ireturn, 1) := by decide +kernel
set_option maxRecDepth 20000 in
theorem ggX9_isWithin_X9_allOf : GoodIn wsX9_isWithin wsX9_allOf := goodIn_r _ [4] (by decide +kernel) (by decide +kernel)
set_option maxRecDepth 20000 in
theorem gX9_isWithin_X9_allOf : GoodIn wsX9_isWithin (va_wsS RX9 106 yX9_allOf wsX9_allOf) := goodIn_app (goodIn_of _ (by decide +kernel)) ggX9_isWithin_X9_allOf
theorem dX9_isWithin_0 : decode cX9_isWithin 0 = .ok (.iload_n 1, 1) := by decide +kernel
theorem dX9_isWithin_1 : decode cX9_isWithin 1 = .ok (.iload_n 2, 1) := by decide +kernel
theorem dX9_isWithin_2 : decode cX9_isWithin 2 = .ok (.invokestatic 106, 3) := by decide +kernel
theorem dX9_isWithin_5 : decode cX9_isWithin 5 = .ok (.iconst (-1), 1) := by decide +kernel
theorem dX9_isWithin_6 : decode cX9_isWithin 6 = .ok (.ixor, 1) := by decide +kernel
theorem dX9_isWithin_7 : decode cX9_isWithin 7 = .ok (.iand, 1) := by decide +kernel
theorem dX9_isWithin_8 : decode cX9_isWithin 8 = .ok (.ifCond .ne 7, 3) := by decide +kernel
theorem dX9_isWithin_11 : decode cX9_isWithin 11 = .ok (.iconst 1, 1) := by decide +kernel
theorem dX9_isWithin_12 : decode cX9_isWithin 12 = .ok (.goto 4, 3) := by decide +kernel
theorem dX9_isWithin_15 : decode cX9_isWithin 15 = .ok (.iconst 0, 1) := by decide +kernel
theorem dX9_isWithin_16 : decode cX9_isWithin 16 = .ok (.ireturn, 1) := by decide +kernel
set_option maxRecDepth 20000 in
theorem ggX9_word_X9_places : GoodIn wsX9_word wsX9_places := goodIn_r _ [6, 7, 8, 9, 5, 10, 1, 29, 30, 31, 32, 33, 34, 35, 36, 37, 38, 39, 40, 41, 42, 43, 44, 45, 46, 47, 48, 49, 50, 51, 52, 53, 54, 55] (by decide +kernel) (by decide +kernel)
set_option maxRecDepth 20000 in
theorem gX9_word_X9_places : GoodIn wsX9_word (wsV RX9 60 RX9 yX9_places wsX9_places) := goodIn_app (goodIn_of _ (by decide +kernel)) ggX9_word_X9_places
set_option maxRecDepth 20000 in
theorem ggX9_word_X9_isWithin : GoodIn wsX9_word wsX9_isWithin := goodIn_r _ [14, 15, 16, 5, 17] (by decide +kernel) (by decide +kernel)
set_option maxRecDepth 20000 in
theorem gX9_word_X9_isWithin : GoodIn wsX9_word (wsV RX9 109 RX9 yX9_isWithin wsX9_isWithin) := goodIn_app (goodIn_of _ (by decide +kernel)) ggX9_word_X9_isWithin
set_option maxRecDepth 20000 in
theorem ggX9_word_X9_bad : GoodIn wsX9_word wsX9_bad := goodIn_r _ [21, 22, 29, 30, 31, 32, 33, 34, 35, 36, 37, 38, 39, 40, 41, 42, 43, 44, 45, 46, 47, 48, 49, 50, 51, 52, 53, 54, 55] (by decide +kernel) (by decide +kernel)
set_option maxRecDepth 20000 in
theorem gX9_word_X9_bad : GoodIn wsX9_word (wsV RX9 90 RX9 yX9_bad wsX9_bad) := goodIn_app (goodIn_of _ (by decide +kernel)) ggX9_word_X9_bad
set_option maxRecDepth 20000 in
theorem ggX9_word_X9_keep : GoodIn wsX9_word wsX9_keep := goodIn_r _ [26, 27, 28, 1, 29, 30, 31, 32, 33, 34, 35, 36, 37, 38, 39, 40, 41, 42, 43, 44, 45, 46, 47, 48, 49, 50, 51, 52, 53, 54, 55] (by decide +kernel) (by decide +kernel)
set_option maxRecDepth 20000 in
theorem gX9_word_X9_keep : GoodIn wsX9_word (wsV RX9 93 RX9 yX9_keep wsX9_keep) := goodIn_app (goodIn_of _ (by decide +kernel)) ggX9_word_X9_keep
theorem dX9_word_0 : decode cX9_word 0 = .ok (.aload_n 0, 1) := by decide +kernel
theorem dX9_word_1 : decode cX9_word 1 = .ok (.iload_n 1, 1) := by decide +kernel
theorem dX9_word_2 : decode cX9_word 2 = .ok (.aload_n 0, 1) := by decide +kernel
theorem dX9_word_3 : decode cX9_word 3 = .ok (.invokevirtual 60, 3) := by decide +kernel
theorem dX9_word_6 : decode cX9_word 6 = .ok (.invokevirtual 109, 3) := by decide +kernel
theorem dX9_word_9 : decode cX9_word 9 = .ok (.ifCond .ne 10, 3) := by decide +kernel
theorem dX9_word_12 : decode cX9_word 12 = .ok (.aload_n 0, 1) := by decide +kernel
theorem dX9_word_13 : decode cX9_word 13 = .ok (.bipush (-2), 2) := by decide +kernel
theorem dX9_word_15 : decode cX9_word 15 = .ok (.invokevirtual 90, 3) := by decide +kernel
theorem dX9_word_18 : decode cX9_word 18 = .ok (.ireturn, 1) := by decide +kernel
theorem dX9_word_19 : decode cX9_word 19 = .ok (.aload_n 0, 1) := by decide +kernel
theorem dX9_word_20 : decode cX9_word 20 = .ok (.invokevirtual 93, 3) := by decide +kernel
theorem dX9_word_23 : decode cX9_word 23 = .ok (.aload_n 0, 1) := by decide +kernel
theorem dX9_word_24 : decode cX9_word 24 = .ok (.getfield 7, 3) := by decide +kernel
theorem dX9_word_27 : decode cX9_word 27 = .ok (.iconst 2, 1) := by decide +kernel
theorem dX9_word_28 : decode cX9_word 28 = .ok (.iload_n 1, 1) := by decide +kernel
theorem dX9_word_29 : decode cX9_word 29 = .ok (.iastore, 1) := by decide +kernel
theorem dX9_word_30 : decode cX9_word 30 = .ok (.iconst 1, 1) := by decide +kernel
theorem dX9_word_31 : decode cX9_word 31 = .ok (.ireturn, 1) := by decide +kernel
set_option maxRecDepth 20000 in
theorem ggX9_encodes_X9_many : GoodIn wsX9_encodes wsX9_many := goodIn_r _ [6, 7, 8, 9, 10, 5, 11, 1, 12, 13, 14, 15, 16, 17, 18, 19, 20, 21, 22, 23, 24, 25, 26, 27, 43, 44, 45, 46, 47, 48, 49, 50, 51, 52, 53, 54, 55, 56, 57, 58, 59, 60, 61, 62, 63, 64, 65, 66, 67, 68, 69] (by decide +kernel) (by decide +kernel)
set_option maxRecDepth 20000 in
theorem gX9_encodes_X9_many : GoodIn wsX9_encodes (wsV RX9 100 RX9 yX9_many wsX9_many) := goodIn_app (goodIn_of _ (by decide +kernel)) ggX9_encodes_X9_many
set_option maxRecDepth 20000 in
theorem ggX9_encodes_X9_sumOf : GoodIn wsX9_encodes wsX9_sumOf := goodIn_r _ [31, 16, 32, 33, 5, 34, 35, 36, 37, 38, 17, 18, 19, 20, 21, 22, 23, 24, 1, 43, 44, 45, 46, 47, 48, 49, 50, 51, 52, 53, 54, 55, 56, 57, 58, 59, 60, 61, 62, 63, 64, 65, 66, 67, 68, 69] (by decide +kernel) (by decide +kernel)
set_option maxRecDepth 20000 in
theorem gX9_encodes_X9_sumOf : GoodIn wsX9_encodes (wsV RX9 112 RX9 yX9_sumOf wsX9_sumOf) := goodIn_app (goodIn_of _ (by decide +kernel)) ggX9_encodes_X9_sumOf
set_option maxRecDepth 20000 in
theorem ggX9_encodes_X9_theWord : GoodIn wsX9_encodes wsX9_theWord := goodIn_r _ [42, 1, 43, 44, 45, 46, 47, 48, 49, 50, 51, 52, 53, 54, 55, 56, 57, 58, 59, 60, 61, 62, 63, 64, 65, 66, 67, 68, 69] (by decide +kernel) (by decide +kernel)
set_option maxRecDepth 20000 in
theorem gX9_encodes_X9_theWord : GoodIn wsX9_encodes (wsV RX9 116 RX9 yX9_theWord wsX9_theWord) := goodIn_app (goodIn_of _ (by decide +kernel)) ggX9_encodes_X9_theWord
set_option maxRecDepth 20000 in
theorem ggX9_encodes_X9_bits : GoodIn wsX9_encodes wsX9_bits := goodIn_r _ [27] (by decide +kernel) (by decide +kernel)
set_option maxRecDepth 20000 in
theorem gX9_encodes_X9_bits : GoodIn wsX9_encodes (va_wsS RX9 63 yX9_bits wsX9_bits) := goodIn_app (goodIn_of _ (by decide +kernel)) ggX9_encodes_X9_bits
theorem dX9_encodes_0 : decode cX9_encodes 0 = .ok (.aload_n 0, 1) := by decide +kernel
theorem dX9_encodes_1 : decode cX9_encodes 1 = .ok (.invokevirtual 100, 3) := by decide +kernel
theorem dX9_encodes_4 : decode cX9_encodes 4 = .ok (.istore_n 2, 1) := by decide +kernel
theorem dX9_encodes_5 : decode cX9_encodes 5 = .ok (.aload_n 0, 1) := by decide +kernel
theorem dX9_encodes_6 : decode cX9_encodes 6 = .ok (.getfield 7, 3) := by decide +kernel
theorem dX9_encodes_9 : decode cX9_encodes 9 = .ok (.iconst 2, 1) := by decide +kernel
theorem dX9_encodes_10 : decode cX9_encodes 10 = .ok (.aload_n 0, 1) := by decide +kernel
theorem dX9_encodes_11 : decode cX9_encodes 11 = .ok (.iload_n 1, 1) := by decide +kernel
theorem dX9_encodes_12 : decode cX9_encodes 12 = .ok (.iload_n 2, 1) := by decide +kernel
theorem dX9_encodes_13 : decode cX9_encodes 13 = .ok (.invokevirtual 112, 3) := by decide +kernel
theorem dX9_encodes_16 : decode cX9_encodes 16 = .ok (.iastore, 1) := by decide +kernel
theorem dX9_encodes_17 : decode cX9_encodes 17 = .ok (.aload_n 0, 1) := by decide +kernel
theorem dX9_encodes_18 : decode cX9_encodes 18 = .ok (.invokevirtual 116, 3) := by decide +kernel
theorem dX9_encodes_21 : decode cX9_encodes 21 = .ok (.invokestatic 63, 3) := by decide +kernel
theorem dX9_encodes_24 : decode cX9_encodes 24 = .ok (.ireturn, 1) := by decide +kernel
set_option maxRecDepth 20000 in
theorem ggX9_encode_X9_many : GoodIn wsX9_encode wsX9_many := goodIn_r _ [5, 6, 7, 8, 9, 4, 10, 11, 12, 13, 14, 15, 16, 17, 18, 19, 20, 21, 22, 23, 24, 25, 26, 27, 65, 66, 67, 68, 69, 70, 71, 72, 73, 74, 75, 76, 77, 78, 79, 80, 81, 82, 83, 84, 85, 86, 87, 88, 89, 90, 91] (by decide +kernel) (by decide +kernel)
set_option maxRecDepth 20000 in
theorem gX9_encode_X9_many : GoodIn wsX9_encode (wsV RX9 100 RX9 yX9_many wsX9_many) := goodIn_app (goodIn_of _ (by decide +kernel)) ggX9_encode_X9_many
set_option maxRecDepth 20000 in
theorem ggX9_encode_X9_isWithin : GoodIn wsX9_encode wsX9_isWithin := goodIn_r _ [31, 32, 33, 4, 34] (by decide +kernel) (by decide +kernel)
set_option maxRecDepth 20000 in
theorem gX9_encode_X9_isWithin : GoodIn wsX9_encode (wsV RX9 109 RX9 yX9_isWithin wsX9_isWithin) := goodIn_app (goodIn_of _ (by decide +kernel)) ggX9_encode_X9_isWithin
set_option maxRecDepth 20000 in
theorem ggX9_encode_X9_bad : GoodIn wsX9_encode wsX9_bad := goodIn_r _ [38, 39, 65, 66, 67, 68, 69, 70, 71, 72, 73, 74, 75, 76, 77, 78, 79, 80, 81, 82, 83, 84, 85, 86, 87, 88, 89, 90, 91] (by decide +kernel) (by decide +kernel)
set_option maxRecDepth 20000 in
theorem gX9_encode_X9_bad : GoodIn wsX9_encode (wsV RX9 90 RX9 yX9_bad wsX9_bad) := goodIn_app (goodIn_of _ (by decide +kernel)) ggX9_encode_X9_bad
set_option maxRecDepth 20000 in
theorem ggX9_encode_X9_keep : GoodIn wsX9_encode wsX9_keep := goodIn_r _ [43, 44, 45, 11, 65, 66, 67, 68, 69, 70, 71, 72, 73, 74, 75, 76, 77, 78, 79, 80, 81, 82, 83, 84, 85, 86, 87, 88, 89, 90, 91] (by decide +kernel) (by decide +kernel)
set_option maxRecDepth 20000 in
theorem gX9_encode_X9_keep : GoodIn wsX9_encode (wsV RX9 93 RX9 yX9_keep wsX9_keep) := goodIn_app (goodIn_of _ (by decide +kernel)) ggX9_encode_X9_keep
set_option maxRecDepth 20000 in
theorem ggX9_encode_X9_encodes : GoodIn wsX9_encode wsX9_encodes := goodIn_r _ [49, 11, 1, 2, 3, 4, 5, 6, 7, 8, 9, 10, 12, 13, 14, 15, 16, 17, 18, 19, 20, 21, 22, 23, 24, 25, 26, 27, 50, 51, 52, 53, 54, 55, 56, 57, 58, 59, 60, 61, 62, 63, 64, 65, 66, 67, 68, 69, 70, 71, 72, 73, 74, 75, 76, 77, 78, 79, 80, 81, 82, 83, 84, 85, 86, 87, 88, 89, 90, 91] (by decide +kernel) (by decide +kernel)
set_option maxRecDepth 20000 in
theorem gX9_encode_X9_encodes : GoodIn wsX9_encode (wsV RX9 119 RX9 yX9_encodes wsX9_encodes) := goodIn_app (goodIn_of _ (by decide +kernel)) ggX9_encode_X9_encodes
theorem dX9_encode_0 : decode cX9_encode 0 = .ok (.aload_n 0, 1) := by decide +kernel
theorem dX9_encode_1 : decode cX9_encode 1 = .ok (.iload_n 1, 1) := by decide +kernel
theorem dX9_encode_2 : decode cX9_encode 2 = .ok (.aload_n 0, 1) := by decide +kernel
theorem dX9_encode_3 : decode cX9_encode 3 = .ok (.invokevirtual 100, 3) := by decide +kernel
theorem dX9_encode_6 : decode cX9_encode 6 = .ok (.invokevirtual 109, 3) := by decide +kernel
theorem dX9_encode_9 : decode cX9_encode 9 = .ok (.ifCond .ne 10, 3) := by decide +kernel
theorem dX9_encode_12 : decode cX9_encode 12 = .ok (.aload_n 0, 1) := by decide +kernel
theorem dX9_encode_13 : decode cX9_encode 13 = .ok (.bipush (-2), 2) := by decide +kernel
theorem dX9_encode_15 : decode cX9_encode 15 = .ok (.invokevirtual 90, 3) := by decide +kernel
theorem dX9_encode_18 : decode cX9_encode 18 = .ok (.ireturn, 1) := by decide +kernel
theorem dX9_encode_19 : decode cX9_encode 19 = .ok (.aload_n 0, 1) := by decide +kernel
theorem dX9_encode_20 : decode cX9_encode 20 = .ok (.invokevirtual 93, 3) := by decide +kernel
theorem dX9_encode_23 : decode cX9_encode 23 = .ok (.aload_n 0, 1) := by decide +kernel
theorem dX9_encode_24 : decode cX9_encode 24 = .ok (.iload_n 1, 1) := by decide +kernel
theorem dX9_encode_25 : decode cX9_encode 25 = .ok (.invokevirtual 119, 3) := by decide +kernel
theorem dX9_encode_28 : decode cX9_encode 28 = .ok (.ireturn, 1) := by decide +kernel
set_option maxRecDepth 20000 in
theorem ggX9_isPlace_X9_places : GoodIn wsX9_isPlace wsX9_places := goodIn_r _ [5, 6, 7, 8, 4, 9, 10, 14, 15, 16, 17, 18, 19, 20, 21, 22, 23, 24, 25, 26, 27, 28, 29, 30, 31, 32, 33, 34, 35, 36, 37, 38, 39, 40] (by decide +kernel) (by decide +kernel)
set_option maxRecDepth 20000 in
theorem gX9_isPlace_X9_places : GoodIn wsX9_isPlace (wsV RX9 60 RX9 yX9_places wsX9_places) := goodIn_app (goodIn_of _ (by decide +kernel)) ggX9_isPlace_X9_places
set_option maxRecDepth 20000 in
theorem ggX9_isPlace_X9_in : GoodIn wsX9_isPlace wsX9_in := goodIn_r _ [13] (by decide +kernel) (by decide +kernel)
set_option maxRecDepth 20000 in
theorem gX9_isPlace_X9_in : GoodIn wsX9_isPlace (va_wsS RX9 83 yX9_in wsX9_in) := goodIn_app (goodIn_of _ (by decide +kernel)) ggX9_isPlace_X9_in
theorem dX9_isPlace_0 : decode cX9_isPlace 0 = .ok (.iload_n 1, 1) := by decide +kernel
theorem dX9_isPlace_1 : decode cX9_isPlace 1 = .ok (.i2l, 1) := by decide +kernel
theorem dX9_isPlace_2 : decode cX9_isPlace 2 = .ok (.lconst 0, 1) := by decide +kernel
theorem dX9_isPlace_3 : decode cX9_isPlace 3 = .ok (.aload_n 0, 1) := by decide +kernel
theorem dX9_isPlace_4 : decode cX9_isPlace 4 = .ok (.invokevirtual 60, 3) := by decide +kernel
theorem dX9_isPlace_7 : decode cX9_isPlace 7 = .ok (.iconst 1, 1) := by decide +kernel
theorem dX9_isPlace_8 : decode cX9_isPlace 8 = .ok (.isub, 1) := by decide +kernel
theorem dX9_isPlace_9 : decode cX9_isPlace 9 = .ok (.i2l, 1) := by decide +kernel
theorem dX9_isPlace_10 : decode cX9_isPlace 10 = .ok (.invokestatic 83, 3) := by decide +kernel
theorem dX9_isPlace_13 : decode cX9_isPlace 13 = .ok (.ireturn, 1) := by decide +kernel
set_option maxRecDepth 20000 in
theorem ggX9_flips_X9_theWord : GoodIn wsX9_flips wsX9_theWord := goodIn_r _ [6, 1, 10, 11, 12, 13, 14, 15, 16, 17, 18, 19, 20, 21, 22, 23, 24, 25, 26, 27, 28, 29, 30, 31, 32, 33, 34, 35, 36] (by decide +kernel) (by decide +kernel)
set_option maxRecDepth 20000 in
theorem gX9_flips_X9_theWord : GoodIn wsX9_flips (wsV RX9 116 RX9 yX9_theWord wsX9_theWord) := goodIn_app (goodIn_of _ (by decide +kernel)) ggX9_flips_X9_theWord
set_option maxRecDepth 20000 in
theorem ggX9_flips_X9_has : GoodIn wsX9_flips wsX9_has := goodIn_r _ [9] (by decide +kernel) (by decide +kernel)
set_option maxRecDepth 20000 in
theorem gX9_flips_X9_has : GoodIn wsX9_flips (va_wsS RX9 74 yX9_has wsX9_has) := goodIn_app (goodIn_of _ (by decide +kernel)) ggX9_flips_X9_has
theorem dX9_flips_0 : decode cX9_flips 0 = .ok (.aload_n 0, 1) := by decide +kernel
theorem dX9_flips_1 : decode cX9_flips 1 = .ok (.getfield 7, 3) := by decide +kernel
theorem dX9_flips_4 : decode cX9_flips 4 = .ok (.iconst 2, 1) := by decide +kernel
theorem dX9_flips_5 : decode cX9_flips 5 = .ok (.dup2, 1) := by decide +kernel
theorem dX9_flips_6 : decode cX9_flips 6 = .ok (.iaload, 1) := by decide +kernel
theorem dX9_flips_7 : decode cX9_flips 7 = .ok (.iconst 1, 1) := by decide +kernel
theorem dX9_flips_8 : decode cX9_flips 8 = .ok (.iload_n 1, 1) := by decide +kernel
theorem dX9_flips_9 : decode cX9_flips 9 = .ok (.ishl, 1) := by decide +kernel
theorem dX9_flips_10 : decode cX9_flips 10 = .ok (.ixor, 1) := by decide +kernel
theorem dX9_flips_11 : decode cX9_flips 11 = .ok (.iastore, 1) := by decide +kernel
theorem dX9_flips_12 : decode cX9_flips 12 = .ok (.aload_n 0, 1) := by decide +kernel
theorem dX9_flips_13 : decode cX9_flips 13 = .ok (.invokevirtual 116, 3) := by decide +kernel
theorem dX9_flips_16 : decode cX9_flips 16 = .ok (.iload_n 1, 1) := by decide +kernel
theorem dX9_flips_17 : decode cX9_flips 17 = .ok (.invokestatic 74, 3) := by decide +kernel
theorem dX9_flips_20 : decode cX9_flips 20 = .ok (.ifCond .eq 7, 3) := by decide +kernel
theorem dX9_flips_23 : decode cX9_flips 23 = .ok (.iconst 1, 1) := by decide +kernel
theorem dX9_flips_24 : decode cX9_flips 24 = .ok (.goto 4, 3) := by decide +kernel
theorem dX9_flips_27 : decode cX9_flips 27 = .ok (.iconst 0, 1) := by decide +kernel
theorem dX9_flips_28 : decode cX9_flips 28 = .ok (.ireturn, 1) := by decide +kernel
set_option maxRecDepth 20000 in
theorem ggX9_flip_X9_isPlace : GoodIn wsX9_flip wsX9_isPlace := goodIn_r _ [5, 6, 7, 8, 4, 9, 10, 11, 12, 13, 14, 15, 16, 17, 40, 41, 42, 43, 44, 45, 46, 47, 48, 49, 50, 51, 52, 53, 54, 55, 56, 57, 58, 59, 60, 61, 62, 63, 64, 65, 66] (by decide +kernel) (by decide +kernel)
set_option maxRecDepth 20000 in
theorem gX9_flip_X9_isPlace : GoodIn wsX9_flip (wsV RX9 122 RX9 yX9_isPlace wsX9_isPlace) := goodIn_app (goodIn_of _ (by decide +kernel)) ggX9_flip_X9_isPlace
set_option maxRecDepth 20000 in
theorem ggX9_flip_X9_bad : GoodIn wsX9_flip wsX9_bad := goodIn_r _ [21, 22, 40, 41, 42, 43, 44, 45, 46, 47, 48, 49, 50, 51, 52, 53, 54, 55, 56, 57, 58, 59, 60, 61, 62, 63, 64, 65, 66] (by decide +kernel) (by decide +kernel)
set_option maxRecDepth 20000 in
theorem gX9_flip_X9_bad : GoodIn wsX9_flip (wsV RX9 90 RX9 yX9_bad wsX9_bad) := goodIn_app (goodIn_of _ (by decide +kernel)) ggX9_flip_X9_bad
set_option maxRecDepth 20000 in
theorem ggX9_flip_X9_keep : GoodIn wsX9_flip wsX9_keep := goodIn_r _ [26, 27, 28, 14, 40, 41, 42, 43, 44, 45, 46, 47, 48, 49, 50, 51, 52, 53, 54, 55, 56, 57, 58, 59, 60, 61, 62, 63, 64, 65, 66] (by decide +kernel) (by decide +kernel)
set_option maxRecDepth 20000 in
theorem gX9_flip_X9_keep : GoodIn wsX9_flip (wsV RX9 93 RX9 yX9_keep wsX9_keep) := goodIn_app (goodIn_of _ (by decide +kernel)) ggX9_flip_X9_keep
set_option maxRecDepth 20000 in
theorem ggX9_flip_X9_flips : GoodIn wsX9_flip wsX9_flips := goodIn_r _ [32, 14, 33, 34, 35, 4, 36, 37, 38, 39, 40, 41, 42, 43, 44, 45, 46, 47, 48, 49, 50, 51, 52, 53, 54, 55, 56, 57, 58, 59, 60, 61, 62, 63, 64, 65, 66] (by decide +kernel) (by decide +kernel)
set_option maxRecDepth 20000 in
theorem gX9_flip_X9_flips : GoodIn wsX9_flip (wsV RX9 126 RX9 yX9_flips wsX9_flips) := goodIn_app (goodIn_of _ (by decide +kernel)) ggX9_flip_X9_flips
theorem dX9_flip_0 : decode cX9_flip 0 = .ok (.aload_n 0, 1) := by decide +kernel
theorem dX9_flip_1 : decode cX9_flip 1 = .ok (.iload_n 1, 1) := by decide +kernel
theorem dX9_flip_2 : decode cX9_flip 2 = .ok (.invokevirtual 122, 3) := by decide +kernel
theorem dX9_flip_5 : decode cX9_flip 5 = .ok (.ifCond .ne 10, 3) := by decide +kernel
theorem dX9_flip_8 : decode cX9_flip 8 = .ok (.aload_n 0, 1) := by decide +kernel
theorem dX9_flip_9 : decode cX9_flip 9 = .ok (.bipush (-2), 2) := by decide +kernel
theorem dX9_flip_11 : decode cX9_flip 11 = .ok (.invokevirtual 90, 3) := by decide +kernel
theorem dX9_flip_14 : decode cX9_flip 14 = .ok (.ireturn, 1) := by decide +kernel
theorem dX9_flip_15 : decode cX9_flip 15 = .ok (.aload_n 0, 1) := by decide +kernel
theorem dX9_flip_16 : decode cX9_flip 16 = .ok (.invokevirtual 93, 3) := by decide +kernel
theorem dX9_flip_19 : decode cX9_flip 19 = .ok (.aload_n 0, 1) := by decide +kernel
theorem dX9_flip_20 : decode cX9_flip 20 = .ok (.iload_n 1, 1) := by decide +kernel
theorem dX9_flip_21 : decode cX9_flip 21 = .ok (.invokevirtual 126, 3) := by decide +kernel
theorem dX9_flip_24 : decode cX9_flip 24 = .ok (.ireturn, 1) := by decide +kernel
set_option maxRecDepth 20000 in
theorem ggX9_hurt_X9_in : GoodIn wsX9_hurt wsX9_in := goodIn_r _ [10] (by decide +kernel) (by decide +kernel)
set_option maxRecDepth 20000 in
theorem gX9_hurt_X9_in : GoodIn wsX9_hurt (va_wsS RX9 83 yX9_in wsX9_in) := goodIn_app (goodIn_of _ (by decide +kernel)) ggX9_hurt_X9_in
set_option maxRecDepth 20000 in
theorem ggX9_hurt_X9_places : GoodIn wsX9_hurt wsX9_places := goodIn_r _ [14, 15, 16, 17, 9, 18, 6, 40, 41, 42, 43, 44, 45, 46, 47, 48, 49, 50, 51, 52, 53, 54, 55, 56, 57, 58, 59, 60, 61, 62, 63, 64, 65, 66] (by decide +kernel) (by decide +kernel)
set_option maxRecDepth 20000 in
theorem gX9_hurt_X9_places : GoodIn wsX9_hurt (wsV RX9 60 RX9 yX9_places wsX9_places) := goodIn_app (goodIn_of _ (by decide +kernel)) ggX9_hurt_X9_places
set_option maxRecDepth 20000 in
theorem ggX9_hurt_X9_bad : GoodIn wsX9_hurt wsX9_bad := goodIn_r _ [22, 23, 40, 41, 42, 43, 44, 45, 46, 47, 48, 49, 50, 51, 52, 53, 54, 55, 56, 57, 58, 59, 60, 61, 62, 63, 64, 65, 66] (by decide +kernel) (by decide +kernel)
set_option maxRecDepth 20000 in
theorem gX9_hurt_X9_bad : GoodIn wsX9_hurt (wsV RX9 90 RX9 yX9_bad wsX9_bad) := goodIn_app (goodIn_of _ (by decide +kernel)) ggX9_hurt_X9_bad
set_option maxRecDepth 20000 in
theorem ggX9_hurt_X9_keep : GoodIn wsX9_hurt wsX9_keep := goodIn_r _ [27, 28, 29, 6, 40, 41, 42, 43, 44, 45, 46, 47, 48, 49, 50, 51, 52, 53, 54, 55, 56, 57, 58, 59, 60, 61, 62, 63, 64, 65, 66] (by decide +kernel) (by decide +kernel)
set_option maxRecDepth 20000 in
theorem gX9_hurt_X9_keep : GoodIn wsX9_hurt (wsV RX9 93 RX9 yX9_keep wsX9_keep) := goodIn_app (goodIn_of _ (by decide +kernel)) ggX9_hurt_X9_keep
set_option maxRecDepth 20000 in
theorem ggX9_hurt_X9_has : GoodIn wsX9_hurt wsX9_has := goodIn_r _ [32] (by decide +kernel) (by decide +kernel)
set_option maxRecDepth 20000 in
theorem gX9_hurt_X9_has : GoodIn wsX9_hurt (va_wsS RX9 74 yX9_has wsX9_has) := goodIn_app (goodIn_of _ (by decide +kernel)) ggX9_hurt_X9_has
set_option maxRecDepth 20000 in
theorem ggX9_hurt_X9_theWord : GoodIn wsX9_hurt wsX9_theWord := goodIn_r _ [36, 6, 40, 41, 42, 43, 44, 45, 46, 47, 48, 49, 50, 51, 52, 53, 54, 55, 56, 57, 58, 59, 60, 61, 62, 63, 64, 65, 66] (by decide +kernel) (by decide +kernel)
set_option maxRecDepth 20000 in
theorem gX9_hurt_X9_theWord : GoodIn wsX9_hurt (wsV RX9 116 RX9 yX9_theWord wsX9_theWord) := goodIn_app (goodIn_of _ (by decide +kernel)) ggX9_hurt_X9_theWord
set_option maxRecDepth 20000 in
theorem ggX9_hurt_X9_bits : GoodIn wsX9_hurt wsX9_bits := goodIn_r _ [39] (by decide +kernel) (by decide +kernel)
set_option maxRecDepth 20000 in
theorem gX9_hurt_X9_bits : GoodIn wsX9_hurt (va_wsS RX9 63 yX9_bits wsX9_bits) := goodIn_app (goodIn_of _ (by decide +kernel)) ggX9_hurt_X9_bits
theorem dX9_hurt_0 : decode cX9_hurt 0 = .ok (.iload_n 1, 1) := by decide +kernel
theorem dX9_hurt_1 : decode cX9_hurt 1 = .ok (.i2l, 1) := by decide +kernel
theorem dX9_hurt_2 : decode cX9_hurt 2 = .ok (.lconst 0, 1) := by decide +kernel
theorem dX9_hurt_3 : decode cX9_hurt 3 = .ok (.ldc2_w 129, 3) := by decide +kernel
theorem dX9_hurt_6 : decode cX9_hurt 6 = .ok (.invokestatic 83, 3) := by decide +kernel
theorem dX9_hurt_9 : decode cX9_hurt 9 = .ok (.ifCond .eq 17, 3) := by decide +kernel
theorem dX9_hurt_12 : decode cX9_hurt 12 = .ok (.iload_n 2, 1) := by decide +kernel
theorem dX9_hurt_13 : decode cX9_hurt 13 = .ok (.i2l, 1) := by decide +kernel
theorem dX9_hurt_14 : decode cX9_hurt 14 = .ok (.lconst 0, 1) := by decide +kernel
theorem dX9_hurt_15 : decode cX9_hurt 15 = .ok (.aload_n 0, 1) := by decide +kernel
theorem dX9_hurt_16 : decode cX9_hurt 16 = .ok (.invokevirtual 60, 3) := by decide +kernel
theorem dX9_hurt_19 : decode cX9_hurt 19 = .ok (.i2l, 1) := by decide +kernel
theorem dX9_hurt_20 : decode cX9_hurt 20 = .ok (.invokestatic 83, 3) := by decide +kernel
theorem dX9_hurt_23 : decode cX9_hurt 23 = .ok (.ifCond .ne 10, 3) := by decide +kernel
theorem dX9_hurt_26 : decode cX9_hurt 26 = .ok (.aload_n 0, 1) := by decide +kernel
theorem dX9_hurt_27 : decode cX9_hurt 27 = .ok (.bipush (-2), 2) := by decide +kernel
theorem dX9_hurt_29 : decode cX9_hurt 29 = .ok (.invokevirtual 90, 3) := by decide +kernel
theorem dX9_hurt_32 : decode cX9_hurt 32 = .ok (.ireturn, 1) := by decide +kernel
theorem dX9_hurt_33 : decode cX9_hurt 33 = .ok (.iload_n 1, 1) := by decide +kernel
theorem dX9_hurt_34 : decode cX9_hurt 34 = .ok (.i2l, 1) := by decide +kernel
theorem dX9_hurt_35 : decode cX9_hurt 35 = .ok (.lstore_n 3, 1) := by decide +kernel
theorem dX9_hurt_36 : decode cX9_hurt 36 = .ok (.iconst 0, 1) := by decide +kernel
theorem dX9_hurt_37 : decode cX9_hurt 37 = .ok (.istore 5, 2) := by decide +kernel
theorem dX9_hurt_39 : decode cX9_hurt 39 = .ok (.aload_n 0, 1) := by decide +kernel
theorem dX9_hurt_40 : decode cX9_hurt 40 = .ok (.invokevirtual 93, 3) := by decide +kernel
theorem dX9_hurt_43 : decode cX9_hurt 43 = .ok (.iconst 0, 1) := by decide +kernel
theorem dX9_hurt_44 : decode cX9_hurt 44 = .ok (.istore 6, 2) := by decide +kernel
theorem dX9_hurt_46 : decode cX9_hurt 46 = .ok (.iload 6, 2) := by decide +kernel
theorem dX9_hurt_48 : decode cX9_hurt 48 = .ok (.iload_n 2, 1) := by decide +kernel
theorem dX9_hurt_49 : decode cX9_hurt 49 = .ok (.if_icmp .ge 70, 3) := by decide +kernel
theorem dX9_hurt_52 : decode cX9_hurt 52 = .ok (.lload_n 3, 1) := by decide +kernel
theorem dX9_hurt_53 : decode cX9_hurt 53 = .ok (.ldc2_w 131, 3) := by decide +kernel
theorem dX9_hurt_56 : decode cX9_hurt 56 = .ok (.lmul, 1) := by decide +kernel
theorem dX9_hurt_57 : decode cX9_hurt 57 = .ok (.ldc2_w 133, 3) := by decide +kernel
theorem dX9_hurt_60 : decode cX9_hurt 60 = .ok (.ladd, 1) := by decide +kernel
theorem dX9_hurt_61 : decode cX9_hurt 61 = .ok (.ldc2_w 135, 3) := by decide +kernel
theorem dX9_hurt_64 : decode cX9_hurt 64 = .ok (.lrem, 1) := by decide +kernel
theorem dX9_hurt_65 : decode cX9_hurt 65 = .ok (.lstore_n 3, 1) := by decide +kernel
theorem dX9_hurt_66 : decode cX9_hurt 66 = .ok (.lload_n 3, 1) := by decide +kernel
theorem dX9_hurt_67 : decode cX9_hurt 67 = .ok (.ldc2_w 137, 3) := by decide +kernel
theorem dX9_hurt_70 : decode cX9_hurt 70 = .ok (.ldiv, 1) := by decide +kernel
theorem dX9_hurt_71 : decode cX9_hurt 71 = .ok (.aload_n 0, 1) := by decide +kernel
theorem dX9_hurt_72 : decode cX9_hurt 72 = .ok (.invokevirtual 60, 3) := by decide +kernel
theorem dX9_hurt_75 : decode cX9_hurt 75 = .ok (.i2l, 1) := by decide +kernel
theorem dX9_hurt_76 : decode cX9_hurt 76 = .ok (.lrem, 1) := by decide +kernel
theorem dX9_hurt_77 : decode cX9_hurt 77 = .ok (.l2i, 1) := by decide +kernel
theorem dX9_hurt_78 : decode cX9_hurt 78 = .ok (.istore 7, 2) := by decide +kernel
theorem dX9_hurt_80 : decode cX9_hurt 80 = .ok (.iload 5, 2) := by decide +kernel
theorem dX9_hurt_82 : decode cX9_hurt 82 = .ok (.iload 7, 2) := by decide +kernel
theorem dX9_hurt_84 : decode cX9_hurt 84 = .ok (.invokestatic 74, 3) := by decide +kernel
theorem dX9_hurt_87 : decode cX9_hurt 87 = .ok (.ifCond .eq 17, 3) := by decide +kernel
theorem dX9_hurt_90 : decode cX9_hurt 90 = .ok (.iload 7, 2) := by decide +kernel
theorem dX9_hurt_92 : decode cX9_hurt 92 = .ok (.iconst 1, 1) := by decide +kernel
theorem dX9_hurt_93 : decode cX9_hurt 93 = .ok (.iadd, 1) := by decide +kernel
theorem dX9_hurt_94 : decode cX9_hurt 94 = .ok (.aload_n 0, 1) := by decide +kernel
theorem dX9_hurt_95 : decode cX9_hurt 95 = .ok (.invokevirtual 60, 3) := by decide +kernel
theorem dX9_hurt_98 : decode cX9_hurt 98 = .ok (.irem, 1) := by decide +kernel
theorem dX9_hurt_99 : decode cX9_hurt 99 = .ok (.istore 7, 2) := by decide +kernel
theorem dX9_hurt_101 : decode cX9_hurt 101 = .ok (.goto (-21), 3) := by decide +kernel
theorem dX9_hurt_104 : decode cX9_hurt 104 = .ok (.iload 5, 2) := by decide +kernel
theorem dX9_hurt_106 : decode cX9_hurt 106 = .ok (.iconst 1, 1) := by decide +kernel
theorem dX9_hurt_107 : decode cX9_hurt 107 = .ok (.iload 7, 2) := by decide +kernel
theorem dX9_hurt_109 : decode cX9_hurt 109 = .ok (.ishl, 1) := by decide +kernel
theorem dX9_hurt_110 : decode cX9_hurt 110 = .ok (.ior, 1) := by decide +kernel
theorem dX9_hurt_111 : decode cX9_hurt 111 = .ok (.istore 5, 2) := by decide +kernel
theorem dX9_hurt_113 : decode cX9_hurt 113 = .ok (.iinc 6 1, 3) := by decide +kernel
theorem dX9_hurt_116 : decode cX9_hurt 116 = .ok (.goto (-70), 3) := by decide +kernel
theorem dX9_hurt_119 : decode cX9_hurt 119 = .ok (.aload_n 0, 1) := by decide +kernel
theorem dX9_hurt_120 : decode cX9_hurt 120 = .ok (.getfield 7, 3) := by decide +kernel
theorem dX9_hurt_123 : decode cX9_hurt 123 = .ok (.iconst 2, 1) := by decide +kernel
theorem dX9_hurt_124 : decode cX9_hurt 124 = .ok (.dup2, 1) := by decide +kernel
theorem dX9_hurt_125 : decode cX9_hurt 125 = .ok (.iaload, 1) := by decide +kernel
theorem dX9_hurt_126 : decode cX9_hurt 126 = .ok (.iload 5, 2) := by decide +kernel
theorem dX9_hurt_128 : decode cX9_hurt 128 = .ok (.ixor, 1) := by decide +kernel
theorem dX9_hurt_129 : decode cX9_hurt 129 = .ok (.iastore, 1) := by decide +kernel
theorem dX9_hurt_130 : decode cX9_hurt 130 = .ok (.aload_n 0, 1) := by decide +kernel
theorem dX9_hurt_131 : decode cX9_hurt 131 = .ok (.invokevirtual 116, 3) := by decide +kernel
theorem dX9_hurt_134 : decode cX9_hurt 134 = .ok (.invokestatic 63, 3) := by decide +kernel
theorem dX9_hurt_137 : decode cX9_hurt 137 = .ok (.ireturn, 1) := by decide +kernel
set_option maxRecDepth 20000 in
theorem ggX9_now_X9_theWord : GoodIn wsX9_now wsX9_theWord := goodIn_r _ [5, 6, 7, 8, 9, 10, 11, 12, 13, 14, 15, 16, 17, 18, 19, 20, 21, 22, 23, 24, 25, 26, 27, 28, 29, 30, 31, 32, 33] (by decide +kernel) (by decide +kernel)
set_option maxRecDepth 20000 in
theorem gX9_now_X9_theWord : GoodIn wsX9_now (wsV RX9 116 RX9 yX9_theWord wsX9_theWord) := goodIn_app (goodIn_of _ (by decide +kernel)) ggX9_now_X9_theWord
theorem dX9_now_0 : decode cX9_now 0 = .ok (.aload_n 0, 1) := by decide +kernel
theorem dX9_now_1 : decode cX9_now 1 = .ok (.invokevirtual 116, 3) := by decide +kernel
theorem dX9_now_4 : decode cX9_now 4 = .ok (.ireturn, 1) := by decide +kernel
set_option maxRecDepth 20000 in
theorem ggX9_at_X9_isPlace : GoodIn wsX9_at wsX9_isPlace := goodIn_r _ [5, 6, 7, 8, 4, 9, 10, 11, 12, 13, 14, 15, 16, 17, 27, 28, 29, 30, 31, 32, 33, 34, 35, 36, 37, 38, 39, 40, 41, 42, 43, 44, 45, 46, 47, 48, 49, 50, 51, 52, 53] (by decide +kernel) (by decide +kernel)
set_option maxRecDepth 20000 in
theorem gX9_at_X9_isPlace : GoodIn wsX9_at (wsV RX9 122 RX9 yX9_isPlace wsX9_isPlace) := goodIn_app (goodIn_of _ (by decide +kernel)) ggX9_at_X9_isPlace
set_option maxRecDepth 20000 in
theorem ggX9_at_X9_theWord : GoodIn wsX9_at wsX9_theWord := goodIn_r _ [21, 14, 27, 28, 29, 30, 31, 32, 33, 34, 35, 36, 37, 38, 39, 40, 41, 42, 43, 44, 45, 46, 47, 48, 49, 50, 51, 52, 53] (by decide +kernel) (by decide +kernel)
set_option maxRecDepth 20000 in
theorem gX9_at_X9_theWord : GoodIn wsX9_at (wsV RX9 116 RX9 yX9_theWord wsX9_theWord) := goodIn_app (goodIn_of _ (by decide +kernel)) ggX9_at_X9_theWord
set_option maxRecDepth 20000 in
theorem ggX9_at_X9_bad : GoodIn wsX9_at wsX9_bad := goodIn_r _ [25, 26, 27, 28, 29, 30, 31, 32, 33, 34, 35, 36, 37, 38, 39, 40, 41, 42, 43, 44, 45, 46, 47, 48, 49, 50, 51, 52, 53] (by decide +kernel) (by decide +kernel)
set_option maxRecDepth 20000 in
theorem gX9_at_X9_bad : GoodIn wsX9_at (wsV RX9 90 RX9 yX9_bad wsX9_bad) := goodIn_app (goodIn_of _ (by decide +kernel)) ggX9_at_X9_bad
theorem dX9_at_0 : decode cX9_at 0 = .ok (.aload_n 0, 1) := by decide +kernel
theorem dX9_at_1 : decode cX9_at 1 = .ok (.iload_n 1, 1) := by decide +kernel
theorem dX9_at_2 : decode cX9_at 2 = .ok (.invokevirtual 122, 3) := by decide +kernel
theorem dX9_at_5 : decode cX9_at 5 = .ok (.ifCond .eq 14, 3) := by decide +kernel
theorem dX9_at_8 : decode cX9_at 8 = .ok (.aload_n 0, 1) := by decide +kernel
theorem dX9_at_9 : decode cX9_at 9 = .ok (.invokevirtual 116, 3) := by decide +kernel
theorem dX9_at_12 : decode cX9_at 12 = .ok (.iload_n 1, 1) := by decide +kernel
theorem dX9_at_13 : decode cX9_at 13 = .ok (.ishr, 1) := by decide +kernel
theorem dX9_at_14 : decode cX9_at 14 = .ok (.iconst 1, 1) := by decide +kernel
theorem dX9_at_15 : decode cX9_at 15 = .ok (.iand, 1) := by decide +kernel
theorem dX9_at_16 : decode cX9_at 16 = .ok (.goto 9, 3) := by decide +kernel
theorem dX9_at_19 : decode cX9_at 19 = .ok (.aload_n 0, 1) := by decide +kernel
theorem dX9_at_20 : decode cX9_at 20 = .ok (.bipush (-2), 2) := by decide +kernel
theorem dX9_at_22 : decode cX9_at 22 = .ok (.invokevirtual 90, 3) := by decide +kernel
theorem dX9_at_25 : decode cX9_at 25 = .ok (.ireturn, 1) := by decide +kernel
set_option maxRecDepth 20000 in
theorem ggX9_weight_X9_theWord : GoodIn wsX9_weight wsX9_theWord := goodIn_r _ [5, 6, 10, 11, 12, 13, 14, 15, 16, 17, 18, 19, 20, 21, 22, 23, 24, 25, 26, 27, 28, 29, 30, 31, 32, 33, 34, 35, 36] (by decide +kernel) (by decide +kernel)
set_option maxRecDepth 20000 in
theorem gX9_weight_X9_theWord : GoodIn wsX9_weight (wsV RX9 116 RX9 yX9_theWord wsX9_theWord) := goodIn_app (goodIn_of _ (by decide +kernel)) ggX9_weight_X9_theWord
set_option maxRecDepth 20000 in
theorem ggX9_weight_X9_bits : GoodIn wsX9_weight wsX9_bits := goodIn_r _ [9] (by decide +kernel) (by decide +kernel)
set_option maxRecDepth 20000 in
theorem gX9_weight_X9_bits : GoodIn wsX9_weight (va_wsS RX9 63 yX9_bits wsX9_bits) := goodIn_app (goodIn_of _ (by decide +kernel)) ggX9_weight_X9_bits
theorem dX9_weight_0 : decode cX9_weight 0 = .ok (.aload_n 0, 1) := by decide +kernel
theorem dX9_weight_1 : decode cX9_weight 1 = .ok (.invokevirtual 116, 3) := by decide +kernel
theorem dX9_weight_4 : decode cX9_weight 4 = .ok (.invokestatic 63, 3) := by decide +kernel
theorem dX9_weight_7 : decode cX9_weight 7 = .ok (.ireturn, 1) := by decide +kernel
set_option maxRecDepth 20000 in
theorem ggX9_coefficientOf_X9_places : GoodIn wsX9_coefficientOf wsX9_places := goodIn_r _ [5, 6, 7, 8, 4, 9, 10, 11, 12, 13, 14, 15, 16, 17, 18, 19, 20, 21, 22, 23, 24, 25, 26, 27, 28, 29, 30, 31, 32, 33, 34, 35, 36, 37] (by decide +kernel) (by decide +kernel)
set_option maxRecDepth 20000 in
theorem gX9_coefficientOf_X9_places : GoodIn wsX9_coefficientOf (wsV RX9 60 RX9 yX9_places wsX9_places) := goodIn_app (goodIn_of _ (by decide +kernel)) ggX9_coefficientOf_X9_places
theorem dX9_coefficientOf_0 : decode cX9_coefficientOf 0 = .ok (.iconst 0, 1) := by decide +kernel
theorem dX9_coefficientOf_1 : decode cX9_coefficientOf 1 = .ok (.istore_n 3, 1) := by decide +kernel
theorem dX9_coefficientOf_2 : decode cX9_coefficientOf 2 = .ok (.iconst 0, 1) := by decide +kernel
theorem dX9_coefficientOf_3 : decode cX9_coefficientOf 3 = .ok (.istore 4, 2) := by decide +kernel
theorem dX9_coefficientOf_5 : decode cX9_coefficientOf 5 = .ok (.iload 4, 2) := by decide +kernel
theorem dX9_coefficientOf_7 : decode cX9_coefficientOf 7 = .ok (.aload_n 0, 1) := by decide +kernel
theorem dX9_coefficientOf_8 : decode cX9_coefficientOf 8 = .ok (.invokevirtual 60, 3) := by decide +kernel
theorem dX9_coefficientOf_11 : decode cX9_coefficientOf 11 = .ok (.if_icmp .ge 31, 3) := by decide +kernel
theorem dX9_coefficientOf_14 : decode cX9_coefficientOf 14 = .ok (.iload_n 3, 1) := by decide +kernel
theorem dX9_coefficientOf_15 : decode cX9_coefficientOf 15 = .ok (.iload 4, 2) := by decide +kernel
theorem dX9_coefficientOf_17 : decode cX9_coefficientOf 17 = .ok (.iload_n 2, 1) := by decide +kernel
theorem dX9_coefficientOf_18 : decode cX9_coefficientOf 18 = .ok (.iand, 1) := by decide +kernel
theorem dX9_coefficientOf_19 : decode cX9_coefficientOf 19 = .ok (.iload 4, 2) := by decide +kernel
theorem dX9_coefficientOf_21 : decode cX9_coefficientOf 21 = .ok (.if_icmp .ne 12, 3) := by decide +kernel
theorem dX9_coefficientOf_24 : decode cX9_coefficientOf 24 = .ok (.iload_n 1, 1) := by decide +kernel
theorem dX9_coefficientOf_25 : decode cX9_coefficientOf 25 = .ok (.iload 4, 2) := by decide +kernel
theorem dX9_coefficientOf_27 : decode cX9_coefficientOf 27 = .ok (.ishr, 1) := by decide +kernel
theorem dX9_coefficientOf_28 : decode cX9_coefficientOf 28 = .ok (.iconst 1, 1) := by decide +kernel
theorem dX9_coefficientOf_29 : decode cX9_coefficientOf 29 = .ok (.iand, 1) := by decide +kernel
theorem dX9_coefficientOf_30 : decode cX9_coefficientOf 30 = .ok (.goto 4, 3) := by decide +kernel
theorem dX9_coefficientOf_33 : decode cX9_coefficientOf 33 = .ok (.iconst 0, 1) := by decide +kernel
theorem dX9_coefficientOf_34 : decode cX9_coefficientOf 34 = .ok (.ixor, 1) := by decide +kernel
theorem dX9_coefficientOf_35 : decode cX9_coefficientOf 35 = .ok (.istore_n 3, 1) := by decide +kernel
theorem dX9_coefficientOf_36 : decode cX9_coefficientOf 36 = .ok (.iinc 4 1, 3) := by decide +kernel
theorem dX9_coefficientOf_39 : decode cX9_coefficientOf 39 = .ok (.goto (-34), 3) := by decide +kernel
theorem dX9_coefficientOf_42 : decode cX9_coefficientOf 42 = .ok (.iload_n 3, 1) := by decide +kernel
theorem dX9_coefficientOf_43 : decode cX9_coefficientOf 43 = .ok (.ireturn, 1) := by decide +kernel
set_option maxRecDepth 20000 in
theorem ggX9_isWord_X9_places : GoodIn wsX9_isWord wsX9_places := goodIn_r _ [5, 6, 7, 8, 4, 9, 10, 26, 27, 28, 29, 30, 31, 32, 33, 34, 35, 36, 37, 38, 39, 40, 41, 42, 43, 44, 45, 46, 47, 48, 49, 50, 51, 52] (by decide +kernel) (by decide +kernel)
set_option maxRecDepth 20000 in
theorem gX9_isWord_X9_places : GoodIn wsX9_isWord (wsV RX9 60 RX9 yX9_places wsX9_places) := goodIn_app (goodIn_of _ (by decide +kernel)) ggX9_isWord_X9_places
set_option maxRecDepth 20000 in
theorem ggX9_isWord_X9_bits : GoodIn wsX9_isWord wsX9_bits := goodIn_r _ [13] (by decide +kernel) (by decide +kernel)
set_option maxRecDepth 20000 in
theorem gX9_isWord_X9_bits : GoodIn wsX9_isWord (va_wsS RX9 63 yX9_bits wsX9_bits) := goodIn_app (goodIn_of _ (by decide +kernel)) ggX9_isWord_X9_bits
set_option maxRecDepth 20000 in
theorem ggX9_isWord_X9_order : GoodIn wsX9_isWord wsX9_order := goodIn_r _ [17, 10, 26, 27, 28, 29, 30, 31, 32, 33, 34, 35, 36, 37, 38, 39, 40, 41, 42, 43, 44, 45, 46, 47, 48, 49, 50, 51, 52] (by decide +kernel) (by decide +kernel)
set_option maxRecDepth 20000 in
theorem gX9_isWord_X9_order : GoodIn wsX9_isWord (wsV RX9 67 RX9 yX9_order wsX9_order) := goodIn_app (goodIn_of _ (by decide +kernel)) ggX9_isWord_X9_order
set_option maxRecDepth 20000 in
theorem ggX9_isWord_X9_theWord : GoodIn wsX9_isWord wsX9_theWord := goodIn_r _ [21, 10, 26, 27, 28, 29, 30, 31, 32, 33, 34, 35, 36, 37, 38, 39, 40, 41, 42, 43, 44, 45, 46, 47, 48, 49, 50, 51, 52] (by decide +kernel) (by decide +kernel)
set_option maxRecDepth 20000 in
theorem gX9_isWord_X9_theWord : GoodIn wsX9_isWord (wsV RX9 116 RX9 yX9_theWord wsX9_theWord) := goodIn_app (goodIn_of _ (by decide +kernel)) ggX9_isWord_X9_theWord
set_option maxRecDepth 20000 in
theorem ggX9_isWord_X9_coefficientOf : GoodIn wsX9_isWord wsX9_coefficientOf := goodIn_r _ [25, 1, 2, 3, 4, 5, 6, 7, 8, 9, 10, 26, 27, 28, 29, 30, 31, 32, 33, 34, 35, 36, 37, 38, 39, 40, 41, 42, 43, 44, 45, 46, 47, 48, 49, 50, 51, 52] (by decide +kernel) (by decide +kernel)
set_option maxRecDepth 20000 in
theorem gX9_isWord_X9_coefficientOf : GoodIn wsX9_isWord (wsV RX9 139 RX9 yX9_coefficientOf wsX9_coefficientOf) := goodIn_app (goodIn_of _ (by decide +kernel)) ggX9_isWord_X9_coefficientOf
theorem dX9_isWord_0 : decode cX9_isWord 0 = .ok (.iconst 1, 1) := by decide +kernel
theorem dX9_isWord_1 : decode cX9_isWord 1 = .ok (.istore_n 1, 1) := by decide +kernel
theorem dX9_isWord_2 : decode cX9_isWord 2 = .ok (.iconst 0, 1) := by decide +kernel
theorem dX9_isWord_3 : decode cX9_isWord 3 = .ok (.istore_n 2, 1) := by decide +kernel
theorem dX9_isWord_4 : decode cX9_isWord 4 = .ok (.iload_n 2, 1) := by decide +kernel
theorem dX9_isWord_5 : decode cX9_isWord 5 = .ok (.aload_n 0, 1) := by decide +kernel
theorem dX9_isWord_6 : decode cX9_isWord 6 = .ok (.invokevirtual 60, 3) := by decide +kernel
theorem dX9_isWord_9 : decode cX9_isWord 9 = .ok (.if_icmp .ge 39, 3) := by decide +kernel
theorem dX9_isWord_12 : decode cX9_isWord 12 = .ok (.iload_n 2, 1) := by decide +kernel
theorem dX9_isWord_13 : decode cX9_isWord 13 = .ok (.invokestatic 63, 3) := by decide +kernel
theorem dX9_isWord_16 : decode cX9_isWord 16 = .ok (.aload_n 0, 1) := by decide +kernel
theorem dX9_isWord_17 : decode cX9_isWord 17 = .ok (.invokevirtual 67, 3) := by decide +kernel
theorem dX9_isWord_20 : decode cX9_isWord 20 = .ok (.if_icmp .le 20, 3) := by decide +kernel
theorem dX9_isWord_23 : decode cX9_isWord 23 = .ok (.aload_n 0, 1) := by decide +kernel
theorem dX9_isWord_24 : decode cX9_isWord 24 = .ok (.aload_n 0, 1) := by decide +kernel
theorem dX9_isWord_25 : decode cX9_isWord 25 = .ok (.invokevirtual 116, 3) := by decide +kernel
theorem dX9_isWord_28 : decode cX9_isWord 28 = .ok (.iload_n 2, 1) := by decide +kernel
theorem dX9_isWord_29 : decode cX9_isWord 29 = .ok (.invokevirtual 139, 3) := by decide +kernel
theorem dX9_isWord_32 : decode cX9_isWord 32 = .ok (.iconst 1, 1) := by decide +kernel
theorem dX9_isWord_33 : decode cX9_isWord 33 = .ok (.if_icmp .ne 7, 3) := by decide +kernel
theorem dX9_isWord_36 : decode cX9_isWord 36 = .ok (.iconst 0, 1) := by decide +kernel
theorem dX9_isWord_37 : decode cX9_isWord 37 = .ok (.goto 4, 3) := by decide +kernel
theorem dX9_isWord_40 : decode cX9_isWord 40 = .ok (.iload_n 1, 1) := by decide +kernel
theorem dX9_isWord_41 : decode cX9_isWord 41 = .ok (.istore_n 1, 1) := by decide +kernel
theorem dX9_isWord_42 : decode cX9_isWord 42 = .ok (.iinc 2 1, 3) := by decide +kernel
theorem dX9_isWord_45 : decode cX9_isWord 45 = .ok (.goto (-41), 3) := by decide +kernel
theorem dX9_isWord_48 : decode cX9_isWord 48 = .ok (.iload_n 1, 1) := by decide +kernel
theorem dX9_isWord_49 : decode cX9_isWord 49 = .ok (.ireturn, 1) := by decide +kernel
set_option maxRecDepth 20000 in
theorem ggX9_coefficient_X9_isPlace : GoodIn wsX9_coefficient wsX9_isPlace := goodIn_r _ [6, 7, 8, 9, 5, 10, 11, 12, 13, 14, 15, 16, 17, 18, 40, 41, 42, 43, 44, 45, 46, 47, 48, 49, 50, 51, 52, 53, 54, 55, 56, 57, 58, 59, 60, 61, 62, 63, 64, 65, 66] (by decide +kernel) (by decide +kernel)
set_option maxRecDepth 20000 in
theorem gX9_coefficient_X9_isPlace : GoodIn wsX9_coefficient (wsV RX9 122 RX9 yX9_isPlace wsX9_isPlace) := goodIn_app (goodIn_of _ (by decide +kernel)) ggX9_coefficient_X9_isPlace
set_option maxRecDepth 20000 in
theorem ggX9_coefficient_X9_bad : GoodIn wsX9_coefficient wsX9_bad := goodIn_r _ [22, 23, 40, 41, 42, 43, 44, 45, 46, 47, 48, 49, 50, 51, 52, 53, 54, 55, 56, 57, 58, 59, 60, 61, 62, 63, 64, 65, 66] (by decide +kernel) (by decide +kernel)
set_option maxRecDepth 20000 in
theorem gX9_coefficient_X9_bad : GoodIn wsX9_coefficient (wsV RX9 90 RX9 yX9_bad wsX9_bad) := goodIn_app (goodIn_of _ (by decide +kernel)) ggX9_coefficient_X9_bad
set_option maxRecDepth 20000 in
theorem ggX9_coefficient_X9_length : GoodIn wsX9_coefficient wsX9_length := goodIn_r _ [14, 15, 40, 41, 42, 43, 44, 45, 46, 47, 48, 49, 50, 51, 52, 53, 54, 55, 56, 57, 58, 59, 60, 61, 62, 63, 64, 65, 66] (by decide +kernel) (by decide +kernel)
set_option maxRecDepth 20000 in
theorem gX9_coefficient_X9_length : GoodIn wsX9_coefficient (wsV RX9 49 RX9 yX9_length wsX9_length) := goodIn_app (goodIn_of _ (by decide +kernel)) ggX9_coefficient_X9_length
set_option maxRecDepth 20000 in
theorem ggX9_coefficient_X9_lays : GoodIn wsX9_coefficient wsX9_lays := goodIn_r _ [27, 28, 1, 7, 8, 9, 5, 10, 11, 12, 13, 14, 15, 29, 30, 31, 40, 41, 42, 43, 44, 45, 46, 47, 48, 49, 50, 51, 52, 53, 54, 55, 56, 57, 58, 59, 60, 61, 62, 63, 64, 65, 66] (by decide +kernel) (by decide +kernel)
set_option maxRecDepth 20000 in
theorem gX9_coefficient_X9_lays : GoodIn wsX9_coefficient (wsV RX9 70 RX9 yX9_lays wsX9_lays) := goodIn_app (goodIn_of _ (by decide +kernel)) ggX9_coefficient_X9_lays
set_option maxRecDepth 20000 in
theorem ggX9_coefficient_X9_theWord : GoodIn wsX9_coefficient wsX9_theWord := goodIn_r _ [35, 15, 40, 41, 42, 43, 44, 45, 46, 47, 48, 49, 50, 51, 52, 53, 54, 55, 56, 57, 58, 59, 60, 61, 62, 63, 64, 65, 66] (by decide +kernel) (by decide +kernel)
set_option maxRecDepth 20000 in
theorem gX9_coefficient_X9_theWord : GoodIn wsX9_coefficient (wsV RX9 116 RX9 yX9_theWord wsX9_theWord) := goodIn_app (goodIn_of _ (by decide +kernel)) ggX9_coefficient_X9_theWord
set_option maxRecDepth 20000 in
theorem ggX9_coefficient_X9_coefficientOf : GoodIn wsX9_coefficient wsX9_coefficientOf := goodIn_r _ [39, 7, 8, 9, 5, 10, 11, 12, 13, 14, 15, 40, 41, 42, 43, 44, 45, 46, 47, 48, 49, 50, 51, 52, 53, 54, 55, 56, 57, 58, 59, 60, 61, 62, 63, 64, 65, 66] (by decide +kernel) (by decide +kernel)
set_option maxRecDepth 20000 in
theorem gX9_coefficient_X9_coefficientOf : GoodIn wsX9_coefficient (wsV RX9 139 RX9 yX9_coefficientOf wsX9_coefficientOf) := goodIn_app (goodIn_of _ (by decide +kernel)) ggX9_coefficient_X9_coefficientOf
theorem dX9_coefficient_0 : decode cX9_coefficient 0 = .ok (.aload_n 0, 1) := by decide +kernel
theorem dX9_coefficient_1 : decode cX9_coefficient 1 = .ok (.iload_n 1, 1) := by decide +kernel
theorem dX9_coefficient_2 : decode cX9_coefficient 2 = .ok (.invokevirtual 122, 3) := by decide +kernel
theorem dX9_coefficient_5 : decode cX9_coefficient 5 = .ok (.ifCond .ne 10, 3) := by decide +kernel
theorem dX9_coefficient_8 : decode cX9_coefficient 8 = .ok (.aload_n 0, 1) := by decide +kernel
theorem dX9_coefficient_9 : decode cX9_coefficient 9 = .ok (.bipush (-2), 2) := by decide +kernel
theorem dX9_coefficient_11 : decode cX9_coefficient 11 = .ok (.invokevirtual 90, 3) := by decide +kernel
theorem dX9_coefficient_14 : decode cX9_coefficient 14 = .ok (.ireturn, 1) := by decide +kernel
theorem dX9_coefficient_15 : decode cX9_coefficient 15 = .ok (.aload_n 0, 1) := by decide +kernel
theorem dX9_coefficient_16 : decode cX9_coefficient 16 = .ok (.aload_n 0, 1) := by decide +kernel
theorem dX9_coefficient_17 : decode cX9_coefficient 17 = .ok (.invokevirtual 49, 3) := by decide +kernel
theorem dX9_coefficient_20 : decode cX9_coefficient 20 = .ok (.invokevirtual 70, 3) := by decide +kernel
theorem dX9_coefficient_23 : decode cX9_coefficient 23 = .ok (.aload_n 0, 1) := by decide +kernel
theorem dX9_coefficient_24 : decode cX9_coefficient 24 = .ok (.aload_n 0, 1) := by decide +kernel
theorem dX9_coefficient_25 : decode cX9_coefficient 25 = .ok (.invokevirtual 116, 3) := by decide +kernel
theorem dX9_coefficient_28 : decode cX9_coefficient 28 = .ok (.aload_n 0, 1) := by decide +kernel
theorem dX9_coefficient_29 : decode cX9_coefficient 29 = .ok (.getfield 19, 3) := by decide +kernel
theorem dX9_coefficient_32 : decode cX9_coefficient 32 = .ok (.iload_n 1, 1) := by decide +kernel
theorem dX9_coefficient_33 : decode cX9_coefficient 33 = .ok (.iaload, 1) := by decide +kernel
theorem dX9_coefficient_34 : decode cX9_coefficient 34 = .ok (.invokevirtual 139, 3) := by decide +kernel
theorem dX9_coefficient_37 : decode cX9_coefficient 37 = .ok (.ireturn, 1) := by decide +kernel
set_option maxRecDepth 20000 in
theorem ggX9_voted_X9_places : GoodIn wsX9_voted wsX9_places := goodIn_r _ [5, 6, 7, 8, 4, 9, 10, 11, 12, 13, 14, 15, 16, 17, 18, 19, 20, 21, 22, 23, 24, 25, 26, 27, 28, 29, 30, 31, 32, 33, 34, 35, 36, 37] (by decide +kernel) (by decide +kernel)
set_option maxRecDepth 20000 in
theorem gX9_voted_X9_places : GoodIn wsX9_voted (wsV RX9 60 RX9 yX9_places wsX9_places) := goodIn_app (goodIn_of _ (by decide +kernel)) ggX9_voted_X9_places
theorem dX9_voted_0 : decode cX9_voted 0 = .ok (.iconst 0, 1) := by decide +kernel
theorem dX9_voted_1 : decode cX9_voted 1 = .ok (.istore_n 3, 1) := by decide +kernel
theorem dX9_voted_2 : decode cX9_voted 2 = .ok (.iconst 0, 1) := by decide +kernel
theorem dX9_voted_3 : decode cX9_voted 3 = .ok (.istore 4, 2) := by decide +kernel
theorem dX9_voted_5 : decode cX9_voted 5 = .ok (.iload 4, 2) := by decide +kernel
theorem dX9_voted_7 : decode cX9_voted 7 = .ok (.aload_n 0, 1) := by decide +kernel
theorem dX9_voted_8 : decode cX9_voted 8 = .ok (.invokevirtual 60, 3) := by decide +kernel
theorem dX9_voted_11 : decode cX9_voted 11 = .ok (.if_icmp .ge 77, 3) := by decide +kernel
theorem dX9_voted_14 : decode cX9_voted 14 = .ok (.iload 4, 2) := by decide +kernel
theorem dX9_voted_16 : decode cX9_voted 16 = .ok (.iload_n 2, 1) := by decide +kernel
theorem dX9_voted_17 : decode cX9_voted 17 = .ok (.iand, 1) := by decide +kernel
theorem dX9_voted_18 : decode cX9_voted 18 = .ok (.ifCond .ne 64, 3) := by decide +kernel
theorem dX9_voted_21 : decode cX9_voted 21 = .ok (.iconst 0, 1) := by decide +kernel
theorem dX9_voted_22 : decode cX9_voted 22 = .ok (.istore 5, 2) := by decide +kernel
theorem dX9_voted_24 : decode cX9_voted 24 = .ok (.iconst 0, 1) := by decide +kernel
theorem dX9_voted_25 : decode cX9_voted 25 = .ok (.istore 6, 2) := by decide +kernel
theorem dX9_voted_27 : decode cX9_voted 27 = .ok (.iload 6, 2) := by decide +kernel
theorem dX9_voted_29 : decode cX9_voted 29 = .ok (.aload_n 0, 1) := by decide +kernel
theorem dX9_voted_30 : decode cX9_voted 30 = .ok (.invokevirtual 60, 3) := by decide +kernel
theorem dX9_voted_33 : decode cX9_voted 33 = .ok (.if_icmp .ge 35, 3) := by decide +kernel
theorem dX9_voted_36 : decode cX9_voted 36 = .ok (.iload 5, 2) := by decide +kernel
theorem dX9_voted_38 : decode cX9_voted 38 = .ok (.iload 6, 2) := by decide +kernel
theorem dX9_voted_40 : decode cX9_voted 40 = .ok (.iload_n 2, 1) := by decide +kernel
theorem dX9_voted_41 : decode cX9_voted 41 = .ok (.iconst (-1), 1) := by decide +kernel
theorem dX9_voted_42 : decode cX9_voted 42 = .ok (.ixor, 1) := by decide +kernel
theorem dX9_voted_43 : decode cX9_voted 43 = .ok (.iand, 1) := by decide +kernel
theorem dX9_voted_44 : decode cX9_voted 44 = .ok (.iload 4, 2) := by decide +kernel
theorem dX9_voted_46 : decode cX9_voted 46 = .ok (.if_icmp .ne 12, 3) := by decide +kernel
theorem dX9_voted_49 : decode cX9_voted 49 = .ok (.iload_n 1, 1) := by decide +kernel
theorem dX9_voted_50 : decode cX9_voted 50 = .ok (.iload 6, 2) := by decide +kernel
theorem dX9_voted_52 : decode cX9_voted 52 = .ok (.ishr, 1) := by decide +kernel
theorem dX9_voted_53 : decode cX9_voted 53 = .ok (.iconst 1, 1) := by decide +kernel
theorem dX9_voted_54 : decode cX9_voted 54 = .ok (.iand, 1) := by decide +kernel
theorem dX9_voted_55 : decode cX9_voted 55 = .ok (.goto 4, 3) := by decide +kernel
theorem dX9_voted_58 : decode cX9_voted 58 = .ok (.iconst 0, 1) := by decide +kernel
theorem dX9_voted_59 : decode cX9_voted 59 = .ok (.ixor, 1) := by decide +kernel
theorem dX9_voted_60 : decode cX9_voted 60 = .ok (.istore 5, 2) := by decide +kernel
theorem dX9_voted_62 : decode cX9_voted 62 = .ok (.iinc 6 1, 3) := by decide +kernel
theorem dX9_voted_65 : decode cX9_voted 65 = .ok (.goto (-38), 3) := by decide +kernel
theorem dX9_voted_68 : decode cX9_voted 68 = .ok (.iload_n 3, 1) := by decide +kernel
theorem dX9_voted_69 : decode cX9_voted 69 = .ok (.iload 5, 2) := by decide +kernel
theorem dX9_voted_71 : decode cX9_voted 71 = .ok (.iconst 1, 1) := by decide +kernel
theorem dX9_voted_72 : decode cX9_voted 72 = .ok (.if_icmp .ne 7, 3) := by decide +kernel
theorem dX9_voted_75 : decode cX9_voted 75 = .ok (.iconst 1, 1) := by decide +kernel
theorem dX9_voted_76 : decode cX9_voted 76 = .ok (.goto 4, 3) := by decide +kernel
theorem dX9_voted_79 : decode cX9_voted 79 = .ok (.iconst (-1), 1) := by decide +kernel
theorem dX9_voted_80 : decode cX9_voted 80 = .ok (.iadd, 1) := by decide +kernel
theorem dX9_voted_81 : decode cX9_voted 81 = .ok (.istore_n 3, 1) := by decide +kernel
theorem dX9_voted_82 : decode cX9_voted 82 = .ok (.iinc 4 1, 3) := by decide +kernel
theorem dX9_voted_85 : decode cX9_voted 85 = .ok (.goto (-80), 3) := by decide +kernel
theorem dX9_voted_88 : decode cX9_voted 88 = .ok (.iload_n 3, 1) := by decide +kernel
theorem dX9_voted_89 : decode cX9_voted 89 = .ok (.ireturn, 1) := by decide +kernel
set_option maxRecDepth 20000 in
theorem ggX9_votesNow_X9_theWord : GoodIn wsX9_votesNow wsX9_theWord := goodIn_r _ [11, 12, 52, 53, 54, 55, 56, 57, 58, 59, 60, 61, 62, 63, 64, 65, 66, 67, 68, 69, 70, 71, 72, 73, 74, 75, 76, 77, 78] (by decide +kernel) (by decide +kernel)
set_option maxRecDepth 20000 in
theorem gX9_votesNow_X9_theWord : GoodIn wsX9_votesNow (wsV RX9 116 RX9 yX9_theWord wsX9_theWord) := goodIn_app (goodIn_of _ (by decide +kernel)) ggX9_votesNow_X9_theWord
set_option maxRecDepth 20000 in
theorem ggX9_votesNow_X9_many : GoodIn wsX9_votesNow wsX9_many := goodIn_r _ [16, 17, 18, 19, 20, 10, 21, 12, 22, 23, 24, 25, 5, 26, 27, 28, 29, 30, 31, 32, 33, 34, 35, 36, 52, 53, 54, 55, 56, 57, 58, 59, 60, 61, 62, 63, 64, 65, 66, 67, 68, 69, 70, 71, 72, 73, 74, 75, 76, 77, 78] (by decide +kernel) (by decide +kernel)
set_option maxRecDepth 20000 in
theorem gX9_votesNow_X9_many : GoodIn wsX9_votesNow (wsV RX9 100 RX9 yX9_many wsX9_many) := goodIn_app (goodIn_of _ (by decide +kernel)) ggX9_votesNow_X9_many
set_option maxRecDepth 20000 in
theorem ggX9_votesNow_X9_order : GoodIn wsX9_votesNow wsX9_order := goodIn_r _ [21, 12, 52, 53, 54, 55, 56, 57, 58, 59, 60, 61, 62, 63, 64, 65, 66, 67, 68, 69, 70, 71, 72, 73, 74, 75, 76, 77, 78] (by decide +kernel) (by decide +kernel)
set_option maxRecDepth 20000 in
theorem gX9_votesNow_X9_order : GoodIn wsX9_votesNow (wsV RX9 67 RX9 yX9_order wsX9_order) := goodIn_app (goodIn_of _ (by decide +kernel)) ggX9_votesNow_X9_order
set_option maxRecDepth 20000 in
theorem ggX9_votesNow_X9_bits : GoodIn wsX9_votesNow wsX9_bits := goodIn_r _ [36] (by decide +kernel) (by decide +kernel)
set_option maxRecDepth 20000 in
theorem gX9_votesNow_X9_bits : GoodIn wsX9_votesNow (va_wsS RX9 63 yX9_bits wsX9_bits) := goodIn_app (goodIn_of _ (by decide +kernel)) ggX9_votesNow_X9_bits
set_option maxRecDepth 20000 in
theorem ggX9_votesNow_X9_voted : GoodIn wsX9_votesNow wsX9_voted := goodIn_r _ [40, 26, 27, 28, 10, 29, 30, 31, 32, 33, 12, 52, 53, 54, 55, 56, 57, 58, 59, 60, 61, 62, 63, 64, 65, 66, 67, 68, 69, 70, 71, 72, 73, 74, 75, 76, 77, 78] (by decide +kernel) (by decide +kernel)
set_option maxRecDepth 20000 in
theorem gX9_votesNow_X9_voted : GoodIn wsX9_votesNow (wsV RX9 154 RX9 yX9_voted wsX9_voted) := goodIn_app (goodIn_of _ (by decide +kernel)) ggX9_votesNow_X9_voted
set_option maxRecDepth 20000 in
theorem ggX9_votesNow_X9_wordOf : GoodIn wsX9_votesNow wsX9_wordOf := goodIn_r _ [44, 26, 27, 28, 10, 29, 30, 31, 32, 33, 12, 52, 53, 54, 55, 56, 57, 58, 59, 60, 61, 62, 63, 64, 65, 66, 67, 68, 69, 70, 71, 72, 73, 74, 75, 76, 77, 78] (by decide +kernel) (by decide +kernel)
set_option maxRecDepth 20000 in
theorem gX9_votesNow_X9_wordOf : GoodIn wsX9_votesNow (wsV RX9 78 RX9 yX9_wordOf wsX9_wordOf) := goodIn_app (goodIn_of _ (by decide +kernel)) ggX9_votesNow_X9_wordOf
set_option maxRecDepth 20000 in
theorem ggX9_votesNow_X9_sumOf : GoodIn wsX9_votesNow wsX9_sumOf := goodIn_r _ [48, 5, 49, 50, 10, 51, 41, 42, 43, 44, 26, 27, 28, 29, 30, 31, 32, 33, 12, 52, 53, 54, 55, 56, 57, 58, 59, 60, 61, 62, 63, 64, 65, 66, 67, 68, 69, 70, 71, 72, 73, 74, 75, 76, 77, 78] (by decide +kernel) (by decide +kernel)
set_option maxRecDepth 20000 in
theorem gX9_votesNow_X9_sumOf : GoodIn wsX9_votesNow (wsV RX9 112 RX9 yX9_sumOf wsX9_sumOf) := goodIn_app (goodIn_of _ (by decide +kernel)) ggX9_votesNow_X9_sumOf
theorem dX9_votesNow_0 : decode cX9_votesNow 0 = .ok (.aload_n 0, 1) := by decide +kernel
theorem dX9_votesNow_1 : decode cX9_votesNow 1 = .ok (.invokevirtual 116, 3) := by decide +kernel
theorem dX9_votesNow_4 : decode cX9_votesNow 4 = .ok (.istore_n 1, 1) := by decide +kernel
theorem dX9_votesNow_5 : decode cX9_votesNow 5 = .ok (.aload_n 0, 1) := by decide +kernel
theorem dX9_votesNow_6 : decode cX9_votesNow 6 = .ok (.invokevirtual 100, 3) := by decide +kernel
theorem dX9_votesNow_9 : decode cX9_votesNow 9 = .ok (.istore_n 2, 1) := by decide +kernel
theorem dX9_votesNow_10 : decode cX9_votesNow 10 = .ok (.aload_n 0, 1) := by decide +kernel
theorem dX9_votesNow_11 : decode cX9_votesNow 11 = .ok (.iconst 0, 1) := by decide +kernel
theorem dX9_votesNow_12 : decode cX9_votesNow 12 = .ok (.putfield 142, 3) := by decide +kernel
theorem dX9_votesNow_15 : decode cX9_votesNow 15 = .ok (.aload_n 0, 1) := by decide +kernel
theorem dX9_votesNow_16 : decode cX9_votesNow 16 = .ok (.iconst 0, 1) := by decide +kernel
theorem dX9_votesNow_17 : decode cX9_votesNow 17 = .ok (.putfield 145, 3) := by decide +kernel
theorem dX9_votesNow_20 : decode cX9_votesNow 20 = .ok (.aload_n 0, 1) := by decide +kernel
theorem dX9_votesNow_21 : decode cX9_votesNow 21 = .ok (.iconst (-1), 1) := by decide +kernel
theorem dX9_votesNow_22 : decode cX9_votesNow 22 = .ok (.putfield 148, 3) := by decide +kernel
theorem dX9_votesNow_25 : decode cX9_votesNow 25 = .ok (.aload_n 0, 1) := by decide +kernel
theorem dX9_votesNow_26 : decode cX9_votesNow 26 = .ok (.iconst 0, 1) := by decide +kernel
theorem dX9_votesNow_27 : decode cX9_votesNow 27 = .ok (.putfield 151, 3) := by decide +kernel
theorem dX9_votesNow_30 : decode cX9_votesNow 30 = .ok (.aload_n 0, 1) := by decide +kernel
theorem dX9_votesNow_31 : decode cX9_votesNow 31 = .ok (.invokevirtual 67, 3) := by decide +kernel
theorem dX9_votesNow_34 : decode cX9_votesNow 34 = .ok (.istore_n 3, 1) := by decide +kernel
theorem dX9_votesNow_35 : decode cX9_votesNow 35 = .ok (.iload_n 3, 1) := by decide +kernel
theorem dX9_votesNow_36 : decode cX9_votesNow 36 = .ok (.ifCond .lt 175, 3) := by decide +kernel
theorem dX9_votesNow_39 : decode cX9_votesNow 39 = .ok (.iconst 0, 1) := by decide +kernel
theorem dX9_votesNow_40 : decode cX9_votesNow 40 = .ok (.istore 4, 2) := by decide +kernel
theorem dX9_votesNow_42 : decode cX9_votesNow 42 = .ok (.iconst 0, 1) := by decide +kernel
theorem dX9_votesNow_43 : decode cX9_votesNow 43 = .ok (.istore 5, 2) := by decide +kernel
theorem dX9_votesNow_45 : decode cX9_votesNow 45 = .ok (.iload 5, 2) := by decide +kernel
theorem dX9_votesNow_47 : decode cX9_votesNow 47 = .ok (.iload_n 2, 1) := by decide +kernel
theorem dX9_votesNow_48 : decode cX9_votesNow 48 = .ok (.if_icmp .ge 152, 3) := by decide +kernel
theorem dX9_votesNow_51 : decode cX9_votesNow 51 = .ok (.aload_n 0, 1) := by decide +kernel
theorem dX9_votesNow_52 : decode cX9_votesNow 52 = .ok (.getfield 19, 3) := by decide +kernel
theorem dX9_votesNow_55 : decode cX9_votesNow 55 = .ok (.iload 5, 2) := by decide +kernel
theorem dX9_votesNow_57 : decode cX9_votesNow 57 = .ok (.iaload, 1) := by decide +kernel
theorem dX9_votesNow_58 : decode cX9_votesNow 58 = .ok (.invokestatic 63, 3) := by decide +kernel
theorem dX9_votesNow_61 : decode cX9_votesNow 61 = .ok (.iload_n 3, 1) := by decide +kernel
theorem dX9_votesNow_62 : decode cX9_votesNow 62 = .ok (.if_icmp .ne 132, 3) := by decide +kernel
theorem dX9_votesNow_65 : decode cX9_votesNow 65 = .ok (.aload_n 0, 1) := by decide +kernel
theorem dX9_votesNow_66 : decode cX9_votesNow 66 = .ok (.iload_n 1, 1) := by decide +kernel
theorem dX9_votesNow_67 : decode cX9_votesNow 67 = .ok (.aload_n 0, 1) := by decide +kernel
theorem dX9_votesNow_68 : decode cX9_votesNow 68 = .ok (.getfield 19, 3) := by decide +kernel
theorem dX9_votesNow_71 : decode cX9_votesNow 71 = .ok (.iload 5, 2) := by decide +kernel
theorem dX9_votesNow_73 : decode cX9_votesNow 73 = .ok (.iaload, 1) := by decide +kernel
theorem dX9_votesNow_74 : decode cX9_votesNow 74 = .ok (.invokevirtual 154, 3) := by decide +kernel
theorem dX9_votesNow_77 : decode cX9_votesNow 77 = .ok (.istore 6, 2) := by decide +kernel
theorem dX9_votesNow_79 : decode cX9_votesNow 79 = .ok (.iload 6, 2) := by decide +kernel
theorem dX9_votesNow_81 : decode cX9_votesNow 81 = .ok (.ifCond .ge 9, 3) := by decide +kernel
theorem dX9_votesNow_84 : decode cX9_votesNow 84 = .ok (.iload 6, 2) := by decide +kernel
theorem dX9_votesNow_86 : decode cX9_votesNow 86 = .ok (.ineg, 1) := by decide +kernel
theorem dX9_votesNow_87 : decode cX9_votesNow 87 = .ok (.goto 5, 3) := by decide +kernel
theorem dX9_votesNow_90 : decode cX9_votesNow 90 = .ok (.iload 6, 2) := by decide +kernel
theorem dX9_votesNow_92 : decode cX9_votesNow 92 = .ok (.istore 7, 2) := by decide +kernel
theorem dX9_votesNow_94 : decode cX9_votesNow 94 = .ok (.aload_n 0, 1) := by decide +kernel
theorem dX9_votesNow_95 : decode cX9_votesNow 95 = .ok (.dup, 1) := by decide +kernel
theorem dX9_votesNow_96 : decode cX9_votesNow 96 = .ok (.getfield 142, 3) := by decide +kernel
theorem dX9_votesNow_99 : decode cX9_votesNow 99 = .ok (.iload 6, 2) := by decide +kernel
theorem dX9_votesNow_101 : decode cX9_votesNow 101 = .ok (.ifCond .le 10, 3) := by decide +kernel
theorem dX9_votesNow_104 : decode cX9_votesNow 104 = .ok (.iconst 1, 1) := by decide +kernel
theorem dX9_votesNow_105 : decode cX9_votesNow 105 = .ok (.iload 5, 2) := by decide +kernel
theorem dX9_votesNow_107 : decode cX9_votesNow 107 = .ok (.ishl, 1) := by decide +kernel
theorem dX9_votesNow_108 : decode cX9_votesNow 108 = .ok (.goto 4, 3) := by decide +kernel
theorem dX9_votesNow_111 : decode cX9_votesNow 111 = .ok (.iconst 0, 1) := by decide +kernel
theorem dX9_votesNow_112 : decode cX9_votesNow 112 = .ok (.ior, 1) := by decide +kernel
theorem dX9_votesNow_113 : decode cX9_votesNow 113 = .ok (.putfield 142, 3) := by decide +kernel
theorem dX9_votesNow_116 : decode cX9_votesNow 116 = .ok (.iload 4, 2) := by decide +kernel
theorem dX9_votesNow_118 : decode cX9_votesNow 118 = .ok (.iload 6, 2) := by decide +kernel
theorem dX9_votesNow_120 : decode cX9_votesNow 120 = .ok (.ifCond .le 17, 3) := by decide +kernel
theorem dX9_votesNow_123 : decode cX9_votesNow 123 = .ok (.aload_n 0, 1) := by decide +kernel
theorem dX9_votesNow_124 : decode cX9_votesNow 124 = .ok (.aload_n 0, 1) := by decide +kernel
theorem dX9_votesNow_125 : decode cX9_votesNow 125 = .ok (.getfield 19, 3) := by decide +kernel
theorem dX9_votesNow_128 : decode cX9_votesNow 128 = .ok (.iload 5, 2) := by decide +kernel
theorem dX9_votesNow_130 : decode cX9_votesNow 130 = .ok (.iaload, 1) := by decide +kernel
theorem dX9_votesNow_131 : decode cX9_votesNow 131 = .ok (.invokevirtual 78, 3) := by decide +kernel
theorem dX9_votesNow_134 : decode cX9_votesNow 134 = .ok (.goto 4, 3) := by decide +kernel
theorem dX9_votesNow_137 : decode cX9_votesNow 137 = .ok (.iconst 0, 1) := by decide +kernel
theorem dX9_votesNow_138 : decode cX9_votesNow 138 = .ok (.ixor, 1) := by decide +kernel
theorem dX9_votesNow_139 : decode cX9_votesNow 139 = .ok (.istore 4, 2) := by decide +kernel
theorem dX9_votesNow_141 : decode cX9_votesNow 141 = .ok (.aload_n 0, 1) := by decide +kernel
theorem dX9_votesNow_142 : decode cX9_votesNow 142 = .ok (.dup, 1) := by decide +kernel
theorem dX9_votesNow_143 : decode cX9_votesNow 143 = .ok (.getfield 145, 3) := by decide +kernel
theorem dX9_votesNow_146 : decode cX9_votesNow 146 = .ok (.iload 6, 2) := by decide +kernel
theorem dX9_votesNow_148 : decode cX9_votesNow 148 = .ok (.ifCond .ne 7, 3) := by decide +kernel
theorem dX9_votesNow_151 : decode cX9_votesNow 151 = .ok (.iconst 1, 1) := by decide +kernel
theorem dX9_votesNow_152 : decode cX9_votesNow 152 = .ok (.goto 4, 3) := by decide +kernel
theorem dX9_votesNow_155 : decode cX9_votesNow 155 = .ok (.iconst 0, 1) := by decide +kernel
theorem dX9_votesNow_156 : decode cX9_votesNow 156 = .ok (.iadd, 1) := by decide +kernel
theorem dX9_votesNow_157 : decode cX9_votesNow 157 = .ok (.putfield 145, 3) := by decide +kernel
theorem dX9_votesNow_160 : decode cX9_votesNow 160 = .ok (.aload_n 0, 1) := by decide +kernel
theorem dX9_votesNow_161 : decode cX9_votesNow 161 = .ok (.getfield 148, 3) := by decide +kernel
theorem dX9_votesNow_164 : decode cX9_votesNow 164 = .ok (.iconst (-1), 1) := by decide +kernel
theorem dX9_votesNow_165 : decode cX9_votesNow 165 = .ok (.if_icmp .eq 12, 3) := by decide +kernel
theorem dX9_votesNow_168 : decode cX9_votesNow 168 = .ok (.iload 7, 2) := by decide +kernel
theorem dX9_votesNow_170 : decode cX9_votesNow 170 = .ok (.aload_n 0, 1) := by decide +kernel
theorem dX9_votesNow_171 : decode cX9_votesNow 171 = .ok (.getfield 151, 3) := by decide +kernel
theorem dX9_votesNow_174 : decode cX9_votesNow 174 = .ok (.if_icmp .ge 20, 3) := by decide +kernel
theorem dX9_votesNow_177 : decode cX9_votesNow 177 = .ok (.aload_n 0, 1) := by decide +kernel
theorem dX9_votesNow_178 : decode cX9_votesNow 178 = .ok (.aload_n 0, 1) := by decide +kernel
theorem dX9_votesNow_179 : decode cX9_votesNow 179 = .ok (.getfield 19, 3) := by decide +kernel
theorem dX9_votesNow_182 : decode cX9_votesNow 182 = .ok (.iload 5, 2) := by decide +kernel
theorem dX9_votesNow_184 : decode cX9_votesNow 184 = .ok (.iaload, 1) := by decide +kernel
theorem dX9_votesNow_185 : decode cX9_votesNow 185 = .ok (.putfield 148, 3) := by decide +kernel
theorem dX9_votesNow_188 : decode cX9_votesNow 188 = .ok (.aload_n 0, 1) := by decide +kernel
theorem dX9_votesNow_189 : decode cX9_votesNow 189 = .ok (.iload 7, 2) := by decide +kernel
theorem dX9_votesNow_191 : decode cX9_votesNow 191 = .ok (.putfield 151, 3) := by decide +kernel
theorem dX9_votesNow_194 : decode cX9_votesNow 194 = .ok (.iinc 5 1, 3) := by decide +kernel
theorem dX9_votesNow_197 : decode cX9_votesNow 197 = .ok (.goto (-152), 3) := by decide +kernel
theorem dX9_votesNow_200 : decode cX9_votesNow 200 = .ok (.iload_n 1, 1) := by decide +kernel
theorem dX9_votesNow_201 : decode cX9_votesNow 201 = .ok (.iload 4, 2) := by decide +kernel
theorem dX9_votesNow_203 : decode cX9_votesNow 203 = .ok (.ixor, 1) := by decide +kernel
theorem dX9_votesNow_204 : decode cX9_votesNow 204 = .ok (.istore_n 1, 1) := by decide +kernel
theorem dX9_votesNow_205 : decode cX9_votesNow 205 = .ok (.iinc 3 (-1), 3) := by decide +kernel
theorem dX9_votesNow_208 : decode cX9_votesNow 208 = .ok (.goto (-173), 3) := by decide +kernel
theorem dX9_votesNow_211 : decode cX9_votesNow 211 = .ok (.aload_n 0, 1) := by decide +kernel
theorem dX9_votesNow_212 : decode cX9_votesNow 212 = .ok (.aload_n 0, 1) := by decide +kernel
theorem dX9_votesNow_213 : decode cX9_votesNow 213 = .ok (.aload_n 0, 1) := by decide +kernel
theorem dX9_votesNow_214 : decode cX9_votesNow 214 = .ok (.getfield 142, 3) := by decide +kernel
theorem dX9_votesNow_217 : decode cX9_votesNow 217 = .ok (.iload_n 2, 1) := by decide +kernel
theorem dX9_votesNow_218 : decode cX9_votesNow 218 = .ok (.invokevirtual 112, 3) := by decide +kernel
theorem dX9_votesNow_221 : decode cX9_votesNow 221 = .ok (.putfield 157, 3) := by decide +kernel
theorem dX9_votesNow_224 : decode cX9_votesNow 224 = .ok (.return_, 1) := by decide +kernel
set_option maxRecDepth 20000 in
theorem ggX9_votes_X9_votesNow : GoodIn wsX9_votes wsX9_votesNow := goodIn_r _ [6, 1, 7, 8, 9, 10, 11, 12, 13, 14, 5, 15, 16, 17, 18, 19, 20, 21, 22, 23, 24, 25, 26, 27, 28, 29, 30, 31, 32, 33, 34, 35, 36, 37, 38, 39, 40, 41, 42, 43, 44, 45, 46, 47, 48, 49, 50, 51, 52, 53, 54, 55, 56, 57, 58, 59, 60, 61, 62, 63, 64, 65, 66, 67, 68, 69, 70, 71, 72, 73, 74, 75, 76, 77, 78, 79, 80, 81, 82] (by decide +kernel) (by decide +kernel)
set_option maxRecDepth 20000 in
theorem gX9_votes_X9_votesNow : GoodIn wsX9_votes (wsV RX9 160 RX9 yX9_votesNow wsX9_votesNow) := goodIn_app (goodIn_of _ (by decide +kernel)) ggX9_votes_X9_votesNow
theorem dX9_votes_0 : decode cX9_votes 0 = .ok (.aload_n 0, 1) := by decide +kernel
theorem dX9_votes_1 : decode cX9_votes 1 = .ok (.invokevirtual 160, 3) := by decide +kernel
theorem dX9_votes_4 : decode cX9_votes 4 = .ok (.aload_n 0, 1) := by decide +kernel
theorem dX9_votes_5 : decode cX9_votes 5 = .ok (.getfield 142, 3) := by decide +kernel
theorem dX9_votes_8 : decode cX9_votes 8 = .ok (.ireturn, 1) := by decide +kernel
set_option maxRecDepth 20000 in
theorem ggX9_vote_X9_in : GoodIn wsX9_vote wsX9_in := goodIn_r _ [9] (by decide +kernel) (by decide +kernel)
set_option maxRecDepth 20000 in
theorem gX9_vote_X9_in : GoodIn wsX9_vote (va_wsS RX9 83 yX9_in wsX9_in) := goodIn_app (goodIn_of _ (by decide +kernel)) ggX9_vote_X9_in
set_option maxRecDepth 20000 in
theorem ggX9_vote_X9_bad : GoodIn wsX9_vote wsX9_bad := goodIn_r _ [13, 14, 65, 66, 67, 68, 69, 70, 71, 72, 73, 74, 75, 76, 77, 78, 79, 80, 81, 82, 83, 84, 85, 86, 87, 88, 89, 90, 91] (by decide +kernel) (by decide +kernel)
set_option maxRecDepth 20000 in
theorem gX9_vote_X9_bad : GoodIn wsX9_vote (wsV RX9 90 RX9 yX9_bad wsX9_bad) := goodIn_app (goodIn_of _ (by decide +kernel)) ggX9_vote_X9_bad
set_option maxRecDepth 20000 in
theorem ggX9_vote_X9_votesNow : GoodIn wsX9_vote wsX9_votesNow := goodIn_r _ [18, 19, 3, 4, 5, 20, 2, 21, 22, 23, 8, 24, 25, 26, 27, 28, 29, 30, 31, 32, 33, 34, 35, 36, 37, 38, 39, 40, 41, 42, 43, 44, 45, 46, 47, 48, 49, 50, 51, 52, 53, 54, 55, 56, 57, 58, 59, 60, 61, 62, 63, 64, 65, 66, 67, 68, 69, 70, 71, 72, 73, 74, 75, 76, 77, 78, 79, 80, 81, 82, 83, 84, 85, 86, 87, 88, 89, 90, 91] (by decide +kernel) (by decide +kernel)
set_option maxRecDepth 20000 in
theorem gX9_vote_X9_votesNow : GoodIn wsX9_vote (wsV RX9 160 RX9 yX9_votesNow wsX9_votesNow) := goodIn_app (goodIn_of _ (by decide +kernel)) ggX9_vote_X9_votesNow
set_option maxRecDepth 20000 in
theorem ggX9_vote_X9_theWord : GoodIn wsX9_vote wsX9_theWord := goodIn_r _ [24, 25, 65, 66, 67, 68, 69, 70, 71, 72, 73, 74, 75, 76, 77, 78, 79, 80, 81, 82, 83, 84, 85, 86, 87, 88, 89, 90, 91] (by decide +kernel) (by decide +kernel)
set_option maxRecDepth 20000 in
theorem gX9_vote_X9_theWord : GoodIn wsX9_vote (wsV RX9 116 RX9 yX9_theWord wsX9_theWord) := goodIn_app (goodIn_of _ (by decide +kernel)) ggX9_vote_X9_theWord
set_option maxRecDepth 20000 in
theorem ggX9_vote_X9_bits : GoodIn wsX9_vote wsX9_bits := goodIn_r _ [49] (by decide +kernel) (by decide +kernel)
set_option maxRecDepth 20000 in
theorem gX9_vote_X9_bits : GoodIn wsX9_vote (va_wsS RX9 63 yX9_bits wsX9_bits) := goodIn_app (goodIn_of _ (by decide +kernel)) ggX9_vote_X9_bits
theorem dX9_vote_0 : decode cX9_vote 0 = .ok (.iload_n 1, 1) := by decide +kernel
theorem dX9_vote_1 : decode cX9_vote 1 = .ok (.i2l, 1) := by decide +kernel
theorem dX9_vote_2 : decode cX9_vote 2 = .ok (.lconst 0, 1) := by decide +kernel
theorem dX9_vote_3 : decode cX9_vote 3 = .ok (.ldc2_w 163, 3) := by decide +kernel
theorem dX9_vote_6 : decode cX9_vote 6 = .ok (.invokestatic 83, 3) := by decide +kernel
theorem dX9_vote_9 : decode cX9_vote 9 = .ok (.ifCond .ne 10, 3) := by decide +kernel
theorem dX9_vote_12 : decode cX9_vote 12 = .ok (.aload_n 0, 1) := by decide +kernel
theorem dX9_vote_13 : decode cX9_vote 13 = .ok (.bipush (-2), 2) := by decide +kernel
theorem dX9_vote_15 : decode cX9_vote 15 = .ok (.invokevirtual 90, 3) := by decide +kernel
theorem dX9_vote_18 : decode cX9_vote 18 = .ok (.ireturn, 1) := by decide +kernel
theorem dX9_vote_19 : decode cX9_vote 19 = .ok (.aload_n 0, 1) := by decide +kernel
theorem dX9_vote_20 : decode cX9_vote 20 = .ok (.invokevirtual 160, 3) := by decide +kernel
theorem dX9_vote_23 : decode cX9_vote 23 = .ok (.iload_n 1, 1) := by decide +kernel
theorem dX9_vote_24 : decode cX9_vote 24 = .ok (.ifCond .ne 18, 3) := by decide +kernel
theorem dX9_vote_27 : decode cX9_vote 27 = .ok (.aload_n 0, 1) := by decide +kernel
theorem dX9_vote_28 : decode cX9_vote 28 = .ok (.invokevirtual 116, 3) := by decide +kernel
theorem dX9_vote_31 : decode cX9_vote 31 = .ok (.aload_n 0, 1) := by decide +kernel
theorem dX9_vote_32 : decode cX9_vote 32 = .ok (.getfield 157, 3) := by decide +kernel
theorem dX9_vote_35 : decode cX9_vote 35 = .ok (.ixor, 1) := by decide +kernel
theorem dX9_vote_36 : decode cX9_vote 36 = .ok (.invokestatic 63, 3) := by decide +kernel
theorem dX9_vote_39 : decode cX9_vote 39 = .ok (.goto 31, 3) := by decide +kernel
theorem dX9_vote_42 : decode cX9_vote 42 = .ok (.iload_n 1, 1) := by decide +kernel
theorem dX9_vote_43 : decode cX9_vote 43 = .ok (.iconst 1, 1) := by decide +kernel
theorem dX9_vote_44 : decode cX9_vote 44 = .ok (.if_icmp .ne 10, 3) := by decide +kernel
theorem dX9_vote_47 : decode cX9_vote 47 = .ok (.aload_n 0, 1) := by decide +kernel
theorem dX9_vote_48 : decode cX9_vote 48 = .ok (.getfield 145, 3) := by decide +kernel
theorem dX9_vote_51 : decode cX9_vote 51 = .ok (.goto 19, 3) := by decide +kernel
theorem dX9_vote_54 : decode cX9_vote 54 = .ok (.iload_n 1, 1) := by decide +kernel
theorem dX9_vote_55 : decode cX9_vote 55 = .ok (.iconst 2, 1) := by decide +kernel
theorem dX9_vote_56 : decode cX9_vote 56 = .ok (.if_icmp .ne 10, 3) := by decide +kernel
theorem dX9_vote_59 : decode cX9_vote 59 = .ok (.aload_n 0, 1) := by decide +kernel
theorem dX9_vote_60 : decode cX9_vote 60 = .ok (.getfield 148, 3) := by decide +kernel
theorem dX9_vote_63 : decode cX9_vote 63 = .ok (.goto 7, 3) := by decide +kernel
theorem dX9_vote_66 : decode cX9_vote 66 = .ok (.aload_n 0, 1) := by decide +kernel
theorem dX9_vote_67 : decode cX9_vote 67 = .ok (.getfield 151, 3) := by decide +kernel
theorem dX9_vote_70 : decode cX9_vote 70 = .ok (.ireturn, 1) := by decide +kernel
set_option maxRecDepth 20000 in
theorem ggX9_mendsNow_X9_votesNow : GoodIn wsX9_mendsNow wsX9_votesNow := goodIn_r _ [7, 8, 9, 10, 11, 12, 1, 13, 14, 15, 6, 16, 2, 17, 18, 19, 20, 21, 22, 23, 24, 25, 26, 27, 28, 29, 30, 31, 32, 33, 34, 35, 36, 37, 38, 39, 40, 41, 42, 43, 44, 45, 46, 47, 48, 49, 50, 51, 52, 53, 54, 55, 56, 57, 58, 59, 60, 61, 62, 63, 64, 65, 66, 67, 68, 69, 70, 71, 72, 73, 74, 75, 76, 77, 78, 79, 80, 81, 82] (by decide +kernel) (by decide +kernel)
set_option maxRecDepth 20000 in
theorem gX9_mendsNow_X9_votesNow : GoodIn wsX9_mendsNow (wsV RX9 160 RX9 yX9_votesNow wsX9_votesNow) := goodIn_app (goodIn_of _ (by decide +kernel)) ggX9_mendsNow_X9_votesNow
set_option maxRecDepth 20000 in
theorem ggX9_mendsNow_X9_theWord : GoodIn wsX9_mendsNow wsX9_theWord := goodIn_r _ [16, 2, 56, 57, 58, 59, 60, 61, 62, 63, 64, 65, 66, 67, 68, 69, 70, 71, 72, 73, 74, 75, 76, 77, 78, 79, 80, 81, 82] (by decide +kernel) (by decide +kernel)
set_option maxRecDepth 20000 in
theorem gX9_mendsNow_X9_theWord : GoodIn wsX9_mendsNow (wsV RX9 116 RX9 yX9_theWord wsX9_theWord) := goodIn_app (goodIn_of _ (by decide +kernel)) ggX9_mendsNow_X9_theWord
set_option maxRecDepth 20000 in
theorem ggX9_mendsNow_X9_bits : GoodIn wsX9_mendsNow wsX9_bits := goodIn_r _ [40] (by decide +kernel) (by decide +kernel)
set_option maxRecDepth 20000 in
theorem gX9_mendsNow_X9_bits : GoodIn wsX9_mendsNow (va_wsS RX9 63 yX9_bits wsX9_bits) := goodIn_app (goodIn_of _ (by decide +kernel)) ggX9_mendsNow_X9_bits
theorem dX9_mendsNow_0 : decode cX9_mendsNow 0 = .ok (.aload_n 0, 1) := by decide +kernel
theorem dX9_mendsNow_1 : decode cX9_mendsNow 1 = .ok (.invokevirtual 160, 3) := by decide +kernel
theorem dX9_mendsNow_4 : decode cX9_mendsNow 4 = .ok (.aload_n 0, 1) := by decide +kernel
theorem dX9_mendsNow_5 : decode cX9_mendsNow 5 = .ok (.invokevirtual 116, 3) := by decide +kernel
theorem dX9_mendsNow_8 : decode cX9_mendsNow 8 = .ok (.aload_n 0, 1) := by decide +kernel
theorem dX9_mendsNow_9 : decode cX9_mendsNow 9 = .ok (.getfield 157, 3) := by decide +kernel
theorem dX9_mendsNow_12 : decode cX9_mendsNow 12 = .ok (.ixor, 1) := by decide +kernel
theorem dX9_mendsNow_13 : decode cX9_mendsNow 13 = .ok (.invokestatic 63, 3) := by decide +kernel
theorem dX9_mendsNow_16 : decode cX9_mendsNow 16 = .ok (.istore_n 1, 1) := by decide +kernel
theorem dX9_mendsNow_17 : decode cX9_mendsNow 17 = .ok (.aload_n 0, 1) := by decide +kernel
theorem dX9_mendsNow_18 : decode cX9_mendsNow 18 = .ok (.getfield 7, 3) := by decide +kernel
theorem dX9_mendsNow_21 : decode cX9_mendsNow 21 = .ok (.iconst 2, 1) := by decide +kernel
theorem dX9_mendsNow_22 : decode cX9_mendsNow 22 = .ok (.aload_n 0, 1) := by decide +kernel
theorem dX9_mendsNow_23 : decode cX9_mendsNow 23 = .ok (.getfield 157, 3) := by decide +kernel
theorem dX9_mendsNow_26 : decode cX9_mendsNow 26 = .ok (.iastore, 1) := by decide +kernel
theorem dX9_mendsNow_27 : decode cX9_mendsNow 27 = .ok (.iload_n 1, 1) := by decide +kernel
theorem dX9_mendsNow_28 : decode cX9_mendsNow 28 = .ok (.ireturn, 1) := by decide +kernel
set_option maxRecDepth 20000 in
theorem ggX9_mends_X9_keep : GoodIn wsX9_mends wsX9_keep := goodIn_r _ [5, 6, 7, 8, 66, 67, 68, 69, 70, 71, 72, 73, 74, 75, 76, 77, 78, 79, 80, 81, 82, 83, 84, 85, 86, 87, 88, 89, 90, 91, 92] (by decide +kernel) (by decide +kernel)
set_option maxRecDepth 20000 in
theorem gX9_mends_X9_keep : GoodIn wsX9_mends (wsV RX9 93 RX9 yX9_keep wsX9_keep) := goodIn_app (goodIn_of _ (by decide +kernel)) ggX9_mends_X9_keep
set_option maxRecDepth 20000 in
theorem ggX9_mends_X9_mendsNow : GoodIn wsX9_mends wsX9_mendsNow := goodIn_r _ [12, 13, 8, 14, 15, 16, 4, 17, 18, 19, 20, 21, 22, 23, 24, 25, 26, 27, 28, 29, 30, 31, 32, 33, 34, 35, 36, 37, 38, 39, 40, 41, 42, 43, 44, 45, 46, 47, 48, 49, 50, 51, 52, 53, 54, 55, 56, 57, 58, 59, 60, 61, 62, 63, 64, 65, 66, 67, 68, 69, 70, 71, 72, 73, 74, 75, 76, 77, 78, 79, 80, 81, 82, 83, 84, 85, 86, 87, 88, 89, 90, 91, 92] (by decide +kernel) (by decide +kernel)
set_option maxRecDepth 20000 in
theorem gX9_mends_X9_mendsNow : GoodIn wsX9_mends (wsV RX9 165 RX9 yX9_mendsNow wsX9_mendsNow) := goodIn_app (goodIn_of _ (by decide +kernel)) ggX9_mends_X9_mendsNow
theorem dX9_mends_0 : decode cX9_mends 0 = .ok (.aload_n 0, 1) := by decide +kernel
theorem dX9_mends_1 : decode cX9_mends 1 = .ok (.invokevirtual 93, 3) := by decide +kernel
theorem dX9_mends_4 : decode cX9_mends 4 = .ok (.aload_n 0, 1) := by decide +kernel
theorem dX9_mends_5 : decode cX9_mends 5 = .ok (.invokevirtual 165, 3) := by decide +kernel
theorem dX9_mends_8 : decode cX9_mends 8 = .ok (.ireturn, 1) := by decide +kernel
set_option maxRecDepth 20000 in
theorem ggX9_signOf_X9_places : GoodIn wsX9_signOf wsX9_places := goodIn_r _ [5, 6, 7, 8, 4, 9, 10, 18, 19, 20, 21, 22, 23, 24, 25, 26, 27, 28, 29, 30, 31, 32, 33, 34, 35, 36, 37, 38, 39, 40, 41, 42, 43, 44] (by decide +kernel) (by decide +kernel)
set_option maxRecDepth 20000 in
theorem gX9_signOf_X9_places : GoodIn wsX9_signOf (wsV RX9 60 RX9 yX9_places wsX9_places) := goodIn_app (goodIn_of _ (by decide +kernel)) ggX9_signOf_X9_places
set_option maxRecDepth 20000 in
theorem ggX9_signOf_X9_theWord : GoodIn wsX9_signOf wsX9_theWord := goodIn_r _ [14, 10, 18, 19, 20, 21, 22, 23, 24, 25, 26, 27, 28, 29, 30, 31, 32, 33, 34, 35, 36, 37, 38, 39, 40, 41, 42, 43, 44] (by decide +kernel) (by decide +kernel)
set_option maxRecDepth 20000 in
theorem gX9_signOf_X9_theWord : GoodIn wsX9_signOf (wsV RX9 116 RX9 yX9_theWord wsX9_theWord) := goodIn_app (goodIn_of _ (by decide +kernel)) ggX9_signOf_X9_theWord
set_option maxRecDepth 20000 in
theorem ggX9_signOf_X9_bits : GoodIn wsX9_signOf wsX9_bits := goodIn_r _ [17] (by decide +kernel) (by decide +kernel)
set_option maxRecDepth 20000 in
theorem gX9_signOf_X9_bits : GoodIn wsX9_signOf (va_wsS RX9 63 yX9_bits wsX9_bits) := goodIn_app (goodIn_of _ (by decide +kernel)) ggX9_signOf_X9_bits
theorem dX9_signOf_0 : decode cX9_signOf 0 = .ok (.iconst 0, 1) := by decide +kernel
theorem dX9_signOf_1 : decode cX9_signOf 1 = .ok (.istore_n 2, 1) := by decide +kernel
theorem dX9_signOf_2 : decode cX9_signOf 2 = .ok (.iconst 0, 1) := by decide +kernel
theorem dX9_signOf_3 : decode cX9_signOf 3 = .ok (.istore_n 3, 1) := by decide +kernel
theorem dX9_signOf_4 : decode cX9_signOf 4 = .ok (.iload_n 3, 1) := by decide +kernel
theorem dX9_signOf_5 : decode cX9_signOf 5 = .ok (.aload_n 0, 1) := by decide +kernel
theorem dX9_signOf_6 : decode cX9_signOf 6 = .ok (.invokevirtual 60, 3) := by decide +kernel
theorem dX9_signOf_9 : decode cX9_signOf 9 = .ok (.if_icmp .ge 36, 3) := by decide +kernel
theorem dX9_signOf_12 : decode cX9_signOf 12 = .ok (.iload_n 2, 1) := by decide +kernel
theorem dX9_signOf_13 : decode cX9_signOf 13 = .ok (.aload_n 0, 1) := by decide +kernel
theorem dX9_signOf_14 : decode cX9_signOf 14 = .ok (.invokevirtual 116, 3) := by decide +kernel
theorem dX9_signOf_17 : decode cX9_signOf 17 = .ok (.iload_n 3, 1) := by decide +kernel
theorem dX9_signOf_18 : decode cX9_signOf 18 = .ok (.ishr, 1) := by decide +kernel
theorem dX9_signOf_19 : decode cX9_signOf 19 = .ok (.iconst 1, 1) := by decide +kernel
theorem dX9_signOf_20 : decode cX9_signOf 20 = .ok (.iand, 1) := by decide +kernel
theorem dX9_signOf_21 : decode cX9_signOf 21 = .ok (.iload_n 1, 1) := by decide +kernel
theorem dX9_signOf_22 : decode cX9_signOf 22 = .ok (.iload_n 3, 1) := by decide +kernel
theorem dX9_signOf_23 : decode cX9_signOf 23 = .ok (.iand, 1) := by decide +kernel
theorem dX9_signOf_24 : decode cX9_signOf 24 = .ok (.invokestatic 63, 3) := by decide +kernel
theorem dX9_signOf_27 : decode cX9_signOf 27 = .ok (.iconst 1, 1) := by decide +kernel
theorem dX9_signOf_28 : decode cX9_signOf 28 = .ok (.iand, 1) := by decide +kernel
theorem dX9_signOf_29 : decode cX9_signOf 29 = .ok (.if_icmp .ne 7, 3) := by decide +kernel
theorem dX9_signOf_32 : decode cX9_signOf 32 = .ok (.iconst 1, 1) := by decide +kernel
theorem dX9_signOf_33 : decode cX9_signOf 33 = .ok (.goto 4, 3) := by decide +kernel
theorem dX9_signOf_36 : decode cX9_signOf 36 = .ok (.iconst (-1), 1) := by decide +kernel
theorem dX9_signOf_37 : decode cX9_signOf 37 = .ok (.iadd, 1) := by decide +kernel
theorem dX9_signOf_38 : decode cX9_signOf 38 = .ok (.istore_n 2, 1) := by decide +kernel
theorem dX9_signOf_39 : decode cX9_signOf 39 = .ok (.iinc 3 1, 3) := by decide +kernel
theorem dX9_signOf_42 : decode cX9_signOf 42 = .ok (.goto (-38), 3) := by decide +kernel
theorem dX9_signOf_45 : decode cX9_signOf 45 = .ok (.iload_n 2, 1) := by decide +kernel
theorem dX9_signOf_46 : decode cX9_signOf 46 = .ok (.ireturn, 1) := by decide +kernel
set_option maxRecDepth 20000 in
theorem ggX9_sign_X9_isPlace : GoodIn wsX9_sign wsX9_isPlace := goodIn_r _ [5, 6, 7, 8, 4, 9, 10, 11, 12, 13, 14, 15, 16, 17, 34, 35, 36, 37, 38, 39, 40, 41, 42, 43, 44, 45, 46, 47, 48, 49, 50, 51, 52, 53, 54, 55, 56, 57, 58, 59, 60] (by decide +kernel) (by decide +kernel)
set_option maxRecDepth 20000 in
theorem gX9_sign_X9_isPlace : GoodIn wsX9_sign (wsV RX9 122 RX9 yX9_isPlace wsX9_isPlace) := goodIn_app (goodIn_of _ (by decide +kernel)) ggX9_sign_X9_isPlace
set_option maxRecDepth 20000 in
theorem ggX9_sign_X9_signOf : GoodIn wsX9_sign wsX9_signOf := goodIn_r _ [21, 6, 7, 8, 4, 9, 10, 11, 12, 13, 14, 22, 23, 24, 25, 26, 27, 28, 34, 35, 36, 37, 38, 39, 40, 41, 42, 43, 44, 45, 46, 47, 48, 49, 50, 51, 52, 53, 54, 55, 56, 57, 58, 59, 60] (by decide +kernel) (by decide +kernel)
set_option maxRecDepth 20000 in
theorem gX9_sign_X9_signOf : GoodIn wsX9_sign (wsV RX9 168 RX9 yX9_signOf wsX9_signOf) := goodIn_app (goodIn_of _ (by decide +kernel)) ggX9_sign_X9_signOf
set_option maxRecDepth 20000 in
theorem ggX9_sign_X9_bad : GoodIn wsX9_sign wsX9_bad := goodIn_r _ [32, 33, 34, 35, 36, 37, 38, 39, 40, 41, 42, 43, 44, 45, 46, 47, 48, 49, 50, 51, 52, 53, 54, 55, 56, 57, 58, 59, 60] (by decide +kernel) (by decide +kernel)
set_option maxRecDepth 20000 in
theorem gX9_sign_X9_bad : GoodIn wsX9_sign (wsV RX9 90 RX9 yX9_bad wsX9_bad) := goodIn_app (goodIn_of _ (by decide +kernel)) ggX9_sign_X9_bad
theorem dX9_sign_0 : decode cX9_sign 0 = .ok (.aload_n 0, 1) := by decide +kernel
theorem dX9_sign_1 : decode cX9_sign 1 = .ok (.iload_n 1, 1) := by decide +kernel
theorem dX9_sign_2 : decode cX9_sign 2 = .ok (.invokevirtual 122, 3) := by decide +kernel
theorem dX9_sign_5 : decode cX9_sign 5 = .ok (.ifCond .eq 11, 3) := by decide +kernel
theorem dX9_sign_8 : decode cX9_sign 8 = .ok (.aload_n 0, 1) := by decide +kernel
theorem dX9_sign_9 : decode cX9_sign 9 = .ok (.iload_n 1, 1) := by decide +kernel
theorem dX9_sign_10 : decode cX9_sign 10 = .ok (.invokevirtual 168, 3) := by decide +kernel
theorem dX9_sign_13 : decode cX9_sign 13 = .ok (.goto 10, 3) := by decide +kernel
theorem dX9_sign_16 : decode cX9_sign 16 = .ok (.aload_n 0, 1) := by decide +kernel
theorem dX9_sign_17 : decode cX9_sign 17 = .ok (.sipush 1000, 3) := by decide +kernel
theorem dX9_sign_20 : decode cX9_sign 20 = .ok (.invokevirtual 90, 3) := by decide +kernel
theorem dX9_sign_23 : decode cX9_sign 23 = .ok (.ireturn, 1) := by decide +kernel
theorem dX9_far_0 : decode cX9_far 0 = .ok (.iload_n 0, 1) := by decide +kernel
theorem dX9_far_1 : decode cX9_far 1 = .ok (.ifCond .ge 8, 3) := by decide +kernel
theorem dX9_far_4 : decode cX9_far 4 = .ok (.iload_n 0, 1) := by decide +kernel
theorem dX9_far_5 : decode cX9_far 5 = .ok (.ineg, 1) := by decide +kernel
theorem dX9_far_6 : decode cX9_far 6 = .ok (.goto 4, 3) := by decide +kernel
theorem dX9_far_9 : decode cX9_far 9 = .ok (.iload_n 0, 1) := by decide +kernel
theorem dX9_far_10 : decode cX9_far 10 = .ok (.ireturn, 1) := by decide +kernel
set_option maxRecDepth 20000 in
theorem ggX9_best_X9_in : GoodIn wsX9_best wsX9_in := goodIn_r _ [5] (by decide +kernel) (by decide +kernel)
set_option maxRecDepth 20000 in
theorem gX9_best_X9_in : GoodIn wsX9_best (va_wsS RX9 83 yX9_in wsX9_in) := goodIn_app (goodIn_of _ (by decide +kernel)) ggX9_best_X9_in
set_option maxRecDepth 20000 in
theorem ggX9_best_X9_bad : GoodIn wsX9_best wsX9_bad := goodIn_r _ [9, 10, 34, 35, 36, 37, 38, 39, 40, 41, 42, 43, 44, 45, 46, 47, 48, 49, 50, 51, 52, 53, 54, 55, 56, 57, 58, 59, 60] (by decide +kernel) (by decide +kernel)
set_option maxRecDepth 20000 in
theorem gX9_best_X9_bad : GoodIn wsX9_best (wsV RX9 90 RX9 yX9_bad wsX9_bad) := goodIn_app (goodIn_of _ (by decide +kernel)) ggX9_best_X9_bad
set_option maxRecDepth 20000 in
theorem ggX9_best_X9_places : GoodIn wsX9_best wsX9_places := goodIn_r _ [14, 15, 16, 17, 4, 18, 19, 34, 35, 36, 37, 38, 39, 40, 41, 42, 43, 44, 45, 46, 47, 48, 49, 50, 51, 52, 53, 54, 55, 56, 57, 58, 59, 60] (by decide +kernel) (by decide +kernel)
set_option maxRecDepth 20000 in
theorem gX9_best_X9_places : GoodIn wsX9_best (wsV RX9 60 RX9 yX9_places wsX9_places) := goodIn_app (goodIn_of _ (by decide +kernel)) ggX9_best_X9_places
set_option maxRecDepth 20000 in
theorem ggX9_best_X9_signOf : GoodIn wsX9_best wsX9_signOf := goodIn_r _ [23, 11, 12, 13, 4, 14, 15, 16, 17, 18, 19, 24, 25, 26, 27, 28, 29, 30, 34, 35, 36, 37, 38, 39, 40, 41, 42, 43, 44, 45, 46, 47, 48, 49, 50, 51, 52, 53, 54, 55, 56, 57, 58, 59, 60] (by decide +kernel) (by decide +kernel)
set_option maxRecDepth 20000 in
theorem gX9_best_X9_signOf : GoodIn wsX9_best (wsV RX9 168 RX9 yX9_signOf wsX9_signOf) := goodIn_app (goodIn_of _ (by decide +kernel)) ggX9_best_X9_signOf
set_option maxRecDepth 20000 in
theorem ggX9_best_X9_far : GoodIn wsX9_best wsX9_far := goodIn_r _ [33] (by decide +kernel) (by decide +kernel)
set_option maxRecDepth 20000 in
theorem gX9_best_X9_far : GoodIn wsX9_best (va_wsS RX9 173 yX9_far wsX9_far) := goodIn_app (goodIn_of _ (by decide +kernel)) ggX9_best_X9_far
theorem dX9_best_0 : decode cX9_best 0 = .ok (.iload_n 1, 1) := by decide +kernel
theorem dX9_best_1 : decode cX9_best 1 = .ok (.i2l, 1) := by decide +kernel
theorem dX9_best_2 : decode cX9_best 2 = .ok (.lconst 0, 1) := by decide +kernel
theorem dX9_best_3 : decode cX9_best 3 = .ok (.ldc2_w 171, 3) := by decide +kernel
theorem dX9_best_6 : decode cX9_best 6 = .ok (.invokestatic 83, 3) := by decide +kernel
theorem dX9_best_9 : decode cX9_best 9 = .ok (.ifCond .ne 10, 3) := by decide +kernel
theorem dX9_best_12 : decode cX9_best 12 = .ok (.aload_n 0, 1) := by decide +kernel
theorem dX9_best_13 : decode cX9_best 13 = .ok (.bipush (-2), 2) := by decide +kernel
theorem dX9_best_15 : decode cX9_best 15 = .ok (.invokevirtual 90, 3) := by decide +kernel
theorem dX9_best_18 : decode cX9_best 18 = .ok (.ireturn, 1) := by decide +kernel
theorem dX9_best_19 : decode cX9_best 19 = .ok (.iconst 0, 1) := by decide +kernel
theorem dX9_best_20 : decode cX9_best 20 = .ok (.istore_n 2, 1) := by decide +kernel
theorem dX9_best_21 : decode cX9_best 21 = .ok (.iconst 0, 1) := by decide +kernel
theorem dX9_best_22 : decode cX9_best 22 = .ok (.istore_n 3, 1) := by decide +kernel
theorem dX9_best_23 : decode cX9_best 23 = .ok (.iconst 0, 1) := by decide +kernel
theorem dX9_best_24 : decode cX9_best 24 = .ok (.istore 4, 2) := by decide +kernel
theorem dX9_best_26 : decode cX9_best 26 = .ok (.iload 4, 2) := by decide +kernel
theorem dX9_best_28 : decode cX9_best 28 = .ok (.aload_n 0, 1) := by decide +kernel
theorem dX9_best_29 : decode cX9_best 29 = .ok (.invokevirtual 60, 3) := by decide +kernel
theorem dX9_best_32 : decode cX9_best 32 = .ok (.if_icmp .ge 68, 3) := by decide +kernel
theorem dX9_best_35 : decode cX9_best 35 = .ok (.aload_n 0, 1) := by decide +kernel
theorem dX9_best_36 : decode cX9_best 36 = .ok (.iload 4, 2) := by decide +kernel
theorem dX9_best_38 : decode cX9_best 38 = .ok (.invokevirtual 168, 3) := by decide +kernel
theorem dX9_best_41 : decode cX9_best 41 = .ok (.invokestatic 173, 3) := by decide +kernel
theorem dX9_best_44 : decode cX9_best 44 = .ok (.aload_n 0, 1) := by decide +kernel
theorem dX9_best_45 : decode cX9_best 45 = .ok (.iload_n 2, 1) := by decide +kernel
theorem dX9_best_46 : decode cX9_best 46 = .ok (.invokevirtual 168, 3) := by decide +kernel
theorem dX9_best_49 : decode cX9_best 49 = .ok (.invokestatic 173, 3) := by decide +kernel
theorem dX9_best_52 : decode cX9_best 52 = .ok (.isub, 1) := by decide +kernel
theorem dX9_best_53 : decode cX9_best 53 = .ok (.istore 5, 2) := by decide +kernel
theorem dX9_best_55 : decode cX9_best 55 = .ok (.iload 5, 2) := by decide +kernel
theorem dX9_best_57 : decode cX9_best 57 = .ok (.ifCond .gt 8, 3) := by decide +kernel
theorem dX9_best_60 : decode cX9_best 60 = .ok (.iload 4, 2) := by decide +kernel
theorem dX9_best_62 : decode cX9_best 62 = .ok (.ifCond .ne 7, 3) := by decide +kernel
theorem dX9_best_65 : decode cX9_best 65 = .ok (.iconst 1, 1) := by decide +kernel
theorem dX9_best_66 : decode cX9_best 66 = .ok (.goto 15, 3) := by decide +kernel
theorem dX9_best_69 : decode cX9_best 69 = .ok (.iload 5, 2) := by decide +kernel
theorem dX9_best_71 : decode cX9_best 71 = .ok (.ifCond .ne 9, 3) := by decide +kernel
theorem dX9_best_74 : decode cX9_best 74 = .ok (.iload_n 3, 1) := by decide +kernel
theorem dX9_best_75 : decode cX9_best 75 = .ok (.iconst 1, 1) := by decide +kernel
theorem dX9_best_76 : decode cX9_best 76 = .ok (.iadd, 1) := by decide +kernel
theorem dX9_best_77 : decode cX9_best 77 = .ok (.goto 4, 3) := by decide +kernel
theorem dX9_best_80 : decode cX9_best 80 = .ok (.iload_n 3, 1) := by decide +kernel
theorem dX9_best_81 : decode cX9_best 81 = .ok (.istore_n 3, 1) := by decide +kernel
theorem dX9_best_82 : decode cX9_best 82 = .ok (.iload 5, 2) := by decide +kernel
theorem dX9_best_84 : decode cX9_best 84 = .ok (.ifCond .le 8, 3) := by decide +kernel
theorem dX9_best_87 : decode cX9_best 87 = .ok (.iload 4, 2) := by decide +kernel
theorem dX9_best_89 : decode cX9_best 89 = .ok (.goto 4, 3) := by decide +kernel
theorem dX9_best_92 : decode cX9_best 92 = .ok (.iload_n 2, 1) := by decide +kernel
theorem dX9_best_93 : decode cX9_best 93 = .ok (.istore_n 2, 1) := by decide +kernel
theorem dX9_best_94 : decode cX9_best 94 = .ok (.iinc 4 1, 3) := by decide +kernel
theorem dX9_best_97 : decode cX9_best 97 = .ok (.goto (-71), 3) := by decide +kernel
theorem dX9_best_100 : decode cX9_best 100 = .ok (.iload_n 1, 1) := by decide +kernel
theorem dX9_best_101 : decode cX9_best 101 = .ok (.ifCond .ne 7, 3) := by decide +kernel
theorem dX9_best_104 : decode cX9_best 104 = .ok (.iload_n 2, 1) := by decide +kernel
theorem dX9_best_105 : decode cX9_best 105 = .ok (.goto 17, 3) := by decide +kernel
theorem dX9_best_108 : decode cX9_best 108 = .ok (.iload_n 1, 1) := by decide +kernel
theorem dX9_best_109 : decode cX9_best 109 = .ok (.iconst 1, 1) := by decide +kernel
theorem dX9_best_110 : decode cX9_best 110 = .ok (.if_icmp .ne 11, 3) := by decide +kernel
theorem dX9_best_113 : decode cX9_best 113 = .ok (.aload_n 0, 1) := by decide +kernel
theorem dX9_best_114 : decode cX9_best 114 = .ok (.iload_n 2, 1) := by decide +kernel
theorem dX9_best_115 : decode cX9_best 115 = .ok (.invokevirtual 168, 3) := by decide +kernel
theorem dX9_best_118 : decode cX9_best 118 = .ok (.goto 4, 3) := by decide +kernel
theorem dX9_best_121 : decode cX9_best 121 = .ok (.iload_n 3, 1) := by decide +kernel
theorem dX9_best_122 : decode cX9_best 122 = .ok (.ireturn, 1) := by decide +kernel
set_option maxRecDepth 20000 in
theorem ggX9_isFew_X9_many : GoodIn wsX9_isFew wsX9_many := goodIn_r _ [5, 6, 7, 8, 9, 4, 10, 11, 12, 13, 14, 15, 16, 17, 18, 19, 20, 21, 22, 23, 24, 25, 26, 27, 28, 29, 30, 31, 32, 33, 34, 35, 36, 37, 38, 39, 40, 41, 42, 43, 44, 45, 46, 47, 48, 49, 50, 51, 52, 53, 54] (by decide +kernel) (by decide +kernel)
set_option maxRecDepth 20000 in
theorem gX9_isFew_X9_many : GoodIn wsX9_isFew (wsV RX9 100 RX9 yX9_many wsX9_many) := goodIn_app (goodIn_of _ (by decide +kernel)) ggX9_isFew_X9_many
theorem dX9_isFew_0 : decode cX9_isFew 0 = .ok (.aload_n 0, 1) := by decide +kernel
theorem dX9_isFew_1 : decode cX9_isFew 1 = .ok (.invokevirtual 100, 3) := by decide +kernel
theorem dX9_isFew_4 : decode cX9_isFew 4 = .ok (.bipush 16, 2) := by decide +kernel
theorem dX9_isFew_6 : decode cX9_isFew 6 = .ok (.if_icmp .gt 7, 3) := by decide +kernel
theorem dX9_isFew_9 : decode cX9_isFew 9 = .ok (.iconst 1, 1) := by decide +kernel
theorem dX9_isFew_10 : decode cX9_isFew 10 = .ok (.goto 4, 3) := by decide +kernel
theorem dX9_isFew_13 : decode cX9_isFew 13 = .ok (.iconst 0, 1) := by decide +kernel
theorem dX9_isFew_14 : decode cX9_isFew 14 = .ok (.ireturn, 1) := by decide +kernel
set_option maxRecDepth 20000 in
theorem ggX9_laysBasis_X9_many : GoodIn wsX9_laysBasis wsX9_many := goodIn_r _ [7, 8, 9, 10, 11, 6, 12, 13, 14, 15, 16, 17, 2, 18, 19, 20, 21, 22, 23, 24, 25, 26, 27, 28, 33, 34, 35, 36, 37, 38, 39, 40, 41, 42, 43, 44, 45, 46, 47, 48, 49, 50, 51, 52, 53, 54, 55, 56, 57, 58, 59] (by decide +kernel) (by decide +kernel)
set_option maxRecDepth 20000 in
theorem gX9_laysBasis_X9_many : GoodIn wsX9_laysBasis (wsV RX9 100 RX9 yX9_many wsX9_many) := goodIn_app (goodIn_of _ (by decide +kernel)) ggX9_laysBasis_X9_many
set_option maxRecDepth 20000 in
theorem ggX9_laysBasis_X9_wordOf : GoodIn wsX9_laysBasis wsX9_wordOf := goodIn_r _ [32, 18, 19, 20, 6, 21, 22, 23, 24, 25, 13, 33, 34, 35, 36, 37, 38, 39, 40, 41, 42, 43, 44, 45, 46, 47, 48, 49, 50, 51, 52, 53, 54, 55, 56, 57, 58, 59] (by decide +kernel) (by decide +kernel)
set_option maxRecDepth 20000 in
theorem gX9_laysBasis_X9_wordOf : GoodIn wsX9_laysBasis (wsV RX9 78 RX9 yX9_wordOf wsX9_wordOf) := goodIn_app (goodIn_of _ (by decide +kernel)) ggX9_laysBasis_X9_wordOf
theorem dX9_laysBasis_0 : decode cX9_laysBasis 0 = .ok (.aload_n 0, 1) := by decide +kernel
theorem dX9_laysBasis_1 : decode cX9_laysBasis 1 = .ok (.invokevirtual 100, 3) := by decide +kernel
theorem dX9_laysBasis_4 : decode cX9_laysBasis 4 = .ok (.istore_n 1, 1) := by decide +kernel
theorem dX9_laysBasis_5 : decode cX9_laysBasis 5 = .ok (.iconst 0, 1) := by decide +kernel
theorem dX9_laysBasis_6 : decode cX9_laysBasis 6 = .ok (.istore_n 2, 1) := by decide +kernel
theorem dX9_laysBasis_7 : decode cX9_laysBasis 7 = .ok (.iload_n 2, 1) := by decide +kernel
theorem dX9_laysBasis_8 : decode cX9_laysBasis 8 = .ok (.iload_n 1, 1) := by decide +kernel
theorem dX9_laysBasis_9 : decode cX9_laysBasis 9 = .ok (.if_icmp .ge 25, 3) := by decide +kernel
theorem dX9_laysBasis_12 : decode cX9_laysBasis 12 = .ok (.aload_n 0, 1) := by decide +kernel
theorem dX9_laysBasis_13 : decode cX9_laysBasis 13 = .ok (.getfield 22, 3) := by decide +kernel
theorem dX9_laysBasis_16 : decode cX9_laysBasis 16 = .ok (.iload_n 2, 1) := by decide +kernel
theorem dX9_laysBasis_17 : decode cX9_laysBasis 17 = .ok (.aload_n 0, 1) := by decide +kernel
theorem dX9_laysBasis_18 : decode cX9_laysBasis 18 = .ok (.aload_n 0, 1) := by decide +kernel
theorem dX9_laysBasis_19 : decode cX9_laysBasis 19 = .ok (.getfield 19, 3) := by decide +kernel
theorem dX9_laysBasis_22 : decode cX9_laysBasis 22 = .ok (.iload_n 2, 1) := by decide +kernel
theorem dX9_laysBasis_23 : decode cX9_laysBasis 23 = .ok (.iaload, 1) := by decide +kernel
theorem dX9_laysBasis_24 : decode cX9_laysBasis 24 = .ok (.invokevirtual 78, 3) := by decide +kernel
theorem dX9_laysBasis_27 : decode cX9_laysBasis 27 = .ok (.iastore, 1) := by decide +kernel
theorem dX9_laysBasis_28 : decode cX9_laysBasis 28 = .ok (.iinc 2 1, 3) := by decide +kernel
theorem dX9_laysBasis_31 : decode cX9_laysBasis 31 = .ok (.goto (-24), 3) := by decide +kernel
theorem dX9_laysBasis_34 : decode cX9_laysBasis 34 = .ok (.return_, 1) := by decide +kernel
set_option maxRecDepth 20000 in
theorem ggX9_finds_X9_many : GoodIn wsX9_finds wsX9_many := goodIn_r _ [9, 10, 11, 12, 13, 8, 14, 15, 16, 17, 18, 19, 20, 21, 22, 23, 24, 25, 26, 27, 28, 29, 30, 31, 47, 48, 49, 50, 51, 52, 53, 54, 55, 56, 57, 58, 59, 60, 61, 62, 63, 64, 65, 66, 67, 68, 69, 70, 71, 72, 73] (by decide +kernel) (by decide +kernel)
set_option maxRecDepth 20000 in
theorem gX9_finds_X9_many : GoodIn wsX9_finds (wsV RX9 100 RX9 yX9_many wsX9_many) := goodIn_app (goodIn_of _ (by decide +kernel)) ggX9_finds_X9_many
set_option maxRecDepth 20000 in
theorem ggX9_finds_X9_laysBasis : GoodIn wsX9_finds wsX9_laysBasis := goodIn_r _ [35, 4, 20, 5, 6, 7, 8, 9, 10, 11, 12, 13, 14, 15, 16, 17, 18, 19, 21, 22, 23, 24, 25, 26, 27, 28, 29, 30, 31, 36, 37, 38, 39, 47, 48, 49, 50, 51, 52, 53, 54, 55, 56, 57, 58, 59, 60, 61, 62, 63, 64, 65, 66, 67, 68, 69, 70, 71, 72, 73] (by decide +kernel) (by decide +kernel)
set_option maxRecDepth 20000 in
theorem gX9_finds_X9_laysBasis : GoodIn wsX9_finds (wsV RX9 176 RX9 yX9_laysBasis wsX9_laysBasis) := goodIn_app (goodIn_of _ (by decide +kernel)) ggX9_finds_X9_laysBasis
set_option maxRecDepth 20000 in
theorem ggX9_finds_X9_theWord : GoodIn wsX9_finds wsX9_theWord := goodIn_r _ [43, 15, 47, 48, 49, 50, 51, 52, 53, 54, 55, 56, 57, 58, 59, 60, 61, 62, 63, 64, 65, 66, 67, 68, 69, 70, 71, 72, 73] (by decide +kernel) (by decide +kernel)
set_option maxRecDepth 20000 in
theorem gX9_finds_X9_theWord : GoodIn wsX9_finds (wsV RX9 116 RX9 yX9_theWord wsX9_theWord) := goodIn_app (goodIn_of _ (by decide +kernel)) ggX9_finds_X9_theWord
set_option maxRecDepth 20000 in
theorem ggX9_finds_X9_bits : GoodIn wsX9_finds wsX9_bits := goodIn_r _ [31] (by decide +kernel) (by decide +kernel)
set_option maxRecDepth 20000 in
theorem gX9_finds_X9_bits : GoodIn wsX9_finds (va_wsS RX9 63 yX9_bits wsX9_bits) := goodIn_app (goodIn_of _ (by decide +kernel)) ggX9_finds_X9_bits
set_option maxRecDepth 20000 in
theorem ggX9_finds_X9_has : GoodIn wsX9_finds wsX9_has := goodIn_r _ [46] (by decide +kernel) (by decide +kernel)
set_option maxRecDepth 20000 in
theorem gX9_finds_X9_has : GoodIn wsX9_finds (va_wsS RX9 74 yX9_has wsX9_has) := goodIn_app (goodIn_of _ (by decide +kernel)) ggX9_finds_X9_has
theorem dX9_finds_0 : decode cX9_finds 0 = .ok (.iconst 0, 1) := by decide +kernel
theorem dX9_finds_1 : decode cX9_finds 1 = .ok (.istore_n 1, 1) := by decide +kernel
theorem dX9_finds_2 : decode cX9_finds 2 = .ok (.aload_n 0, 1) := by decide +kernel
theorem dX9_finds_3 : decode cX9_finds 3 = .ok (.invokevirtual 100, 3) := by decide +kernel
theorem dX9_finds_6 : decode cX9_finds 6 = .ok (.istore_n 2, 1) := by decide +kernel
theorem dX9_finds_7 : decode cX9_finds 7 = .ok (.aload_n 0, 1) := by decide +kernel
theorem dX9_finds_8 : decode cX9_finds 8 = .ok (.invokevirtual 176, 3) := by decide +kernel
theorem dX9_finds_11 : decode cX9_finds 11 = .ok (.aload_n 0, 1) := by decide +kernel
theorem dX9_finds_12 : decode cX9_finds 12 = .ok (.iconst 0, 1) := by decide +kernel
theorem dX9_finds_13 : decode cX9_finds 13 = .ok (.putfield 179, 3) := by decide +kernel
theorem dX9_finds_16 : decode cX9_finds 16 = .ok (.aload_n 0, 1) := by decide +kernel
theorem dX9_finds_17 : decode cX9_finds 17 = .ok (.aload_n 0, 1) := by decide +kernel
theorem dX9_finds_18 : decode cX9_finds 18 = .ok (.invokevirtual 116, 3) := by decide +kernel
theorem dX9_finds_21 : decode cX9_finds 21 = .ok (.invokestatic 63, 3) := by decide +kernel
theorem dX9_finds_24 : decode cX9_finds 24 = .ok (.putfield 182, 3) := by decide +kernel
theorem dX9_finds_27 : decode cX9_finds 27 = .ok (.aload_n 0, 1) := by decide +kernel
theorem dX9_finds_28 : decode cX9_finds 28 = .ok (.iconst 1, 1) := by decide +kernel
theorem dX9_finds_29 : decode cX9_finds 29 = .ok (.putfield 185, 3) := by decide +kernel
theorem dX9_finds_32 : decode cX9_finds 32 = .ok (.iconst 1, 1) := by decide +kernel
theorem dX9_finds_33 : decode cX9_finds 33 = .ok (.istore_n 3, 1) := by decide +kernel
theorem dX9_finds_34 : decode cX9_finds 34 = .ok (.iload_n 3, 1) := by decide +kernel
theorem dX9_finds_35 : decode cX9_finds 35 = .ok (.iconst 1, 1) := by decide +kernel
theorem dX9_finds_36 : decode cX9_finds 36 = .ok (.iload_n 2, 1) := by decide +kernel
theorem dX9_finds_37 : decode cX9_finds 37 = .ok (.ishl, 1) := by decide +kernel
theorem dX9_finds_38 : decode cX9_finds 38 = .ok (.if_icmp .ge 144, 3) := by decide +kernel
theorem dX9_finds_41 : decode cX9_finds 41 = .ok (.iload_n 3, 1) := by decide +kernel
theorem dX9_finds_42 : decode cX9_finds 42 = .ok (.iload_n 3, 1) := by decide +kernel
theorem dX9_finds_43 : decode cX9_finds 43 = .ok (.iconst 1, 1) := by decide +kernel
theorem dX9_finds_44 : decode cX9_finds 44 = .ok (.isub, 1) := by decide +kernel
theorem dX9_finds_45 : decode cX9_finds 45 = .ok (.ixor, 1) := by decide +kernel
theorem dX9_finds_46 : decode cX9_finds 46 = .ok (.istore 4, 2) := by decide +kernel
theorem dX9_finds_48 : decode cX9_finds 48 = .ok (.iconst 0, 1) := by decide +kernel
theorem dX9_finds_49 : decode cX9_finds 49 = .ok (.istore 5, 2) := by decide +kernel
theorem dX9_finds_51 : decode cX9_finds 51 = .ok (.iload 5, 2) := by decide +kernel
theorem dX9_finds_53 : decode cX9_finds 53 = .ok (.iload_n 2, 1) := by decide +kernel
theorem dX9_finds_54 : decode cX9_finds 54 = .ok (.if_icmp .ge 29, 3) := by decide +kernel
theorem dX9_finds_57 : decode cX9_finds 57 = .ok (.iload 4, 2) := by decide +kernel
theorem dX9_finds_59 : decode cX9_finds 59 = .ok (.iload 5, 2) := by decide +kernel
theorem dX9_finds_61 : decode cX9_finds 61 = .ok (.invokestatic 74, 3) := by decide +kernel
theorem dX9_finds_64 : decode cX9_finds 64 = .ok (.ifCond .eq 19, 3) := by decide +kernel
theorem dX9_finds_67 : decode cX9_finds 67 = .ok (.iload_n 1, 1) := by decide +kernel
theorem dX9_finds_68 : decode cX9_finds 68 = .ok (.aload_n 0, 1) := by decide +kernel
theorem dX9_finds_69 : decode cX9_finds 69 = .ok (.getfield 22, 3) := by decide +kernel
theorem dX9_finds_72 : decode cX9_finds 72 = .ok (.iload 5, 2) := by decide +kernel
theorem dX9_finds_74 : decode cX9_finds 74 = .ok (.iaload, 1) := by decide +kernel
theorem dX9_finds_75 : decode cX9_finds 75 = .ok (.ixor, 1) := by decide +kernel
theorem dX9_finds_76 : decode cX9_finds 76 = .ok (.istore_n 1, 1) := by decide +kernel
theorem dX9_finds_77 : decode cX9_finds 77 = .ok (.iinc 5 1, 3) := by decide +kernel
theorem dX9_finds_80 : decode cX9_finds 80 = .ok (.goto (-29), 3) := by decide +kernel
theorem dX9_finds_83 : decode cX9_finds 83 = .ok (.iload_n 1, 1) := by decide +kernel
theorem dX9_finds_84 : decode cX9_finds 84 = .ok (.aload_n 0, 1) := by decide +kernel
theorem dX9_finds_85 : decode cX9_finds 85 = .ok (.invokevirtual 116, 3) := by decide +kernel
theorem dX9_finds_88 : decode cX9_finds 88 = .ok (.ixor, 1) := by decide +kernel
theorem dX9_finds_89 : decode cX9_finds 89 = .ok (.invokestatic 63, 3) := by decide +kernel
theorem dX9_finds_92 : decode cX9_finds 92 = .ok (.istore 5, 2) := by decide +kernel
theorem dX9_finds_94 : decode cX9_finds 94 = .ok (.aload_n 0, 1) := by decide +kernel
theorem dX9_finds_95 : decode cX9_finds 95 = .ok (.iload 5, 2) := by decide +kernel
theorem dX9_finds_97 : decode cX9_finds 97 = .ok (.aload_n 0, 1) := by decide +kernel
theorem dX9_finds_98 : decode cX9_finds 98 = .ok (.getfield 182, 3) := by decide +kernel
theorem dX9_finds_101 : decode cX9_finds 101 = .ok (.if_icmp .ge 7, 3) := by decide +kernel
theorem dX9_finds_104 : decode cX9_finds 104 = .ok (.iconst 1, 1) := by decide +kernel
theorem dX9_finds_105 : decode cX9_finds 105 = .ok (.goto 25, 3) := by decide +kernel
theorem dX9_finds_108 : decode cX9_finds 108 = .ok (.iload 5, 2) := by decide +kernel
theorem dX9_finds_110 : decode cX9_finds 110 = .ok (.aload_n 0, 1) := by decide +kernel
theorem dX9_finds_111 : decode cX9_finds 111 = .ok (.getfield 182, 3) := by decide +kernel
theorem dX9_finds_114 : decode cX9_finds 114 = .ok (.if_icmp .ne 12, 3) := by decide +kernel
theorem dX9_finds_117 : decode cX9_finds 117 = .ok (.aload_n 0, 1) := by decide +kernel
theorem dX9_finds_118 : decode cX9_finds 118 = .ok (.getfield 185, 3) := by decide +kernel
theorem dX9_finds_121 : decode cX9_finds 121 = .ok (.iconst 1, 1) := by decide +kernel
theorem dX9_finds_122 : decode cX9_finds 122 = .ok (.iadd, 1) := by decide +kernel
theorem dX9_finds_123 : decode cX9_finds 123 = .ok (.goto 7, 3) := by decide +kernel
theorem dX9_finds_126 : decode cX9_finds 126 = .ok (.aload_n 0, 1) := by decide +kernel
theorem dX9_finds_127 : decode cX9_finds 127 = .ok (.getfield 185, 3) := by decide +kernel
theorem dX9_finds_130 : decode cX9_finds 130 = .ok (.putfield 185, 3) := by decide +kernel
theorem dX9_finds_133 : decode cX9_finds 133 = .ok (.aload_n 0, 1) := by decide +kernel
theorem dX9_finds_134 : decode cX9_finds 134 = .ok (.iload 5, 2) := by decide +kernel
theorem dX9_finds_136 : decode cX9_finds 136 = .ok (.aload_n 0, 1) := by decide +kernel
theorem dX9_finds_137 : decode cX9_finds 137 = .ok (.getfield 182, 3) := by decide +kernel
theorem dX9_finds_140 : decode cX9_finds 140 = .ok (.if_icmp .ge 7, 3) := by decide +kernel
theorem dX9_finds_143 : decode cX9_finds 143 = .ok (.iload_n 1, 1) := by decide +kernel
theorem dX9_finds_144 : decode cX9_finds 144 = .ok (.goto 7, 3) := by decide +kernel
theorem dX9_finds_147 : decode cX9_finds 147 = .ok (.aload_n 0, 1) := by decide +kernel
theorem dX9_finds_148 : decode cX9_finds 148 = .ok (.getfield 179, 3) := by decide +kernel
theorem dX9_finds_151 : decode cX9_finds 151 = .ok (.putfield 179, 3) := by decide +kernel
theorem dX9_finds_154 : decode cX9_finds 154 = .ok (.aload_n 0, 1) := by decide +kernel
theorem dX9_finds_155 : decode cX9_finds 155 = .ok (.iload 5, 2) := by decide +kernel
theorem dX9_finds_157 : decode cX9_finds 157 = .ok (.aload_n 0, 1) := by decide +kernel
theorem dX9_finds_158 : decode cX9_finds 158 = .ok (.getfield 182, 3) := by decide +kernel
theorem dX9_finds_161 : decode cX9_finds 161 = .ok (.if_icmp .ge 8, 3) := by decide +kernel
theorem dX9_finds_164 : decode cX9_finds 164 = .ok (.iload 5, 2) := by decide +kernel
theorem dX9_finds_166 : decode cX9_finds 166 = .ok (.goto 7, 3) := by decide +kernel
theorem dX9_finds_169 : decode cX9_finds 169 = .ok (.aload_n 0, 1) := by decide +kernel
theorem dX9_finds_170 : decode cX9_finds 170 = .ok (.getfield 182, 3) := by decide +kernel
theorem dX9_finds_173 : decode cX9_finds 173 = .ok (.putfield 182, 3) := by decide +kernel
theorem dX9_finds_176 : decode cX9_finds 176 = .ok (.iinc 3 1, 3) := by decide +kernel
theorem dX9_finds_179 : decode cX9_finds 179 = .ok (.goto (-145), 3) := by decide +kernel
theorem dX9_finds_182 : decode cX9_finds 182 = .ok (.return_, 1) := by decide +kernel
set_option maxRecDepth 20000 in
theorem ggX9_nearest_X9_in : GoodIn wsX9_nearest wsX9_in := goodIn_r _ [6] (by decide +kernel) (by decide +kernel)
set_option maxRecDepth 20000 in
theorem gX9_nearest_X9_in : GoodIn wsX9_nearest (va_wsS RX9 83 yX9_in wsX9_in) := goodIn_app (goodIn_of _ (by decide +kernel)) ggX9_nearest_X9_in
set_option maxRecDepth 20000 in
theorem ggX9_nearest_X9_bad : GoodIn wsX9_nearest wsX9_bad := goodIn_r _ [10, 11, 67, 68, 69, 70, 71, 72, 73, 74, 75, 76, 77, 78, 79, 80, 81, 82, 83, 84, 85, 86, 87, 88, 89, 90, 91, 92, 93] (by decide +kernel) (by decide +kernel)
set_option maxRecDepth 20000 in
theorem gX9_nearest_X9_bad : GoodIn wsX9_nearest (wsV RX9 90 RX9 yX9_bad wsX9_bad) := goodIn_app (goodIn_of _ (by decide +kernel)) ggX9_nearest_X9_bad
set_option maxRecDepth 20000 in
theorem ggX9_nearest_X9_isFew : GoodIn wsX9_nearest wsX9_isFew := goodIn_r _ [15, 16, 17, 18, 5, 19, 20, 21, 22, 23, 24, 25, 26, 27, 28, 29, 30, 31, 32, 33, 34, 35, 36, 37, 38, 39, 40, 41, 67, 68, 69, 70, 71, 72, 73, 74, 75, 76, 77, 78, 79, 80, 81, 82, 83, 84, 85, 86, 87, 88, 89, 90, 91, 92, 93] (by decide +kernel) (by decide +kernel)
set_option maxRecDepth 20000 in
theorem gX9_nearest_X9_isFew : GoodIn wsX9_nearest (wsV RX9 188 RX9 yX9_isFew wsX9_isFew) := goodIn_app (goodIn_of _ (by decide +kernel)) ggX9_nearest_X9_isFew
set_option maxRecDepth 20000 in
theorem ggX9_nearest_X9_no : GoodIn wsX9_nearest wsX9_no := goodIn_r _ [45, 11, 67, 68, 69, 70, 71, 72, 73, 74, 75, 76, 77, 78, 79, 80, 81, 82, 83, 84, 85, 86, 87, 88, 89, 90, 91, 92, 93] (by decide +kernel) (by decide +kernel)
set_option maxRecDepth 20000 in
theorem gX9_nearest_X9_no : GoodIn wsX9_nearest (wsV RX9 192 RX9 yX9_no wsX9_no) := goodIn_app (goodIn_of _ (by decide +kernel)) ggX9_nearest_X9_no
set_option maxRecDepth 20000 in
theorem ggX9_nearest_X9_finds : GoodIn wsX9_nearest wsX9_finds := goodIn_r _ [49, 50, 1, 2, 51, 16, 17, 18, 5, 19, 20, 21, 22, 23, 24, 25, 26, 27, 28, 29, 30, 31, 32, 33, 34, 35, 36, 37, 38, 39, 40, 41, 52, 53, 54, 55, 56, 57, 58, 59, 60, 61, 62, 63, 64, 65, 66, 67, 68, 69, 70, 71, 72, 73, 74, 75, 76, 77, 78, 79, 80, 81, 82, 83, 84, 85, 86, 87, 88, 89, 90, 91, 92, 93] (by decide +kernel) (by decide +kernel)
set_option maxRecDepth 20000 in
theorem gX9_nearest_X9_finds : GoodIn wsX9_nearest (wsV RX9 195 RX9 yX9_finds wsX9_finds) := goodIn_app (goodIn_of _ (by decide +kernel)) ggX9_nearest_X9_finds
theorem dX9_nearest_0 : decode cX9_nearest 0 = .ok (.iload_n 1, 1) := by decide +kernel
theorem dX9_nearest_1 : decode cX9_nearest 1 = .ok (.i2l, 1) := by decide +kernel
theorem dX9_nearest_2 : decode cX9_nearest 2 = .ok (.lconst 0, 1) := by decide +kernel
theorem dX9_nearest_3 : decode cX9_nearest 3 = .ok (.lconst 1, 1) := by decide +kernel
theorem dX9_nearest_4 : decode cX9_nearest 4 = .ok (.invokestatic 83, 3) := by decide +kernel
theorem dX9_nearest_7 : decode cX9_nearest 7 = .ok (.ifCond .ne 10, 3) := by decide +kernel
theorem dX9_nearest_10 : decode cX9_nearest 10 = .ok (.aload_n 0, 1) := by decide +kernel
theorem dX9_nearest_11 : decode cX9_nearest 11 = .ok (.bipush (-2), 2) := by decide +kernel
theorem dX9_nearest_13 : decode cX9_nearest 13 = .ok (.invokevirtual 90, 3) := by decide +kernel
theorem dX9_nearest_16 : decode cX9_nearest 16 = .ok (.ireturn, 1) := by decide +kernel
theorem dX9_nearest_17 : decode cX9_nearest 17 = .ok (.aload_n 0, 1) := by decide +kernel
theorem dX9_nearest_18 : decode cX9_nearest 18 = .ok (.invokevirtual 188, 3) := by decide +kernel
theorem dX9_nearest_21 : decode cX9_nearest 21 = .ok (.ifCond .ne 10, 3) := by decide +kernel
theorem dX9_nearest_24 : decode cX9_nearest 24 = .ok (.aload_n 0, 1) := by decide +kernel
theorem dX9_nearest_25 : decode cX9_nearest 25 = .ok (.bipush (-3), 2) := by decide +kernel
theorem dX9_nearest_27 : decode cX9_nearest 27 = .ok (.invokevirtual 192, 3) := by decide +kernel
theorem dX9_nearest_30 : decode cX9_nearest 30 = .ok (.ireturn, 1) := by decide +kernel
theorem dX9_nearest_31 : decode cX9_nearest 31 = .ok (.aload_n 0, 1) := by decide +kernel
theorem dX9_nearest_32 : decode cX9_nearest 32 = .ok (.invokevirtual 195, 3) := by decide +kernel
theorem dX9_nearest_35 : decode cX9_nearest 35 = .ok (.iload_n 1, 1) := by decide +kernel
theorem dX9_nearest_36 : decode cX9_nearest 36 = .ok (.ifCond .ne 10, 3) := by decide +kernel
theorem dX9_nearest_39 : decode cX9_nearest 39 = .ok (.aload_n 0, 1) := by decide +kernel
theorem dX9_nearest_40 : decode cX9_nearest 40 = .ok (.getfield 182, 3) := by decide +kernel
theorem dX9_nearest_43 : decode cX9_nearest 43 = .ok (.goto 7, 3) := by decide +kernel
theorem dX9_nearest_46 : decode cX9_nearest 46 = .ok (.aload_n 0, 1) := by decide +kernel
theorem dX9_nearest_47 : decode cX9_nearest 47 = .ok (.getfield 185, 3) := by decide +kernel
theorem dX9_nearest_50 : decode cX9_nearest 50 = .ok (.ireturn, 1) := by decide +kernel
set_option maxRecDepth 20000 in
theorem ggX9_near_X9_isFew : GoodIn wsX9_near wsX9_isFew := goodIn_r _ [6, 7, 8, 9, 5, 10, 11, 12, 13, 14, 15, 16, 17, 18, 19, 20, 21, 22, 23, 24, 25, 26, 27, 28, 29, 30, 31, 32, 60, 61, 62, 63, 64, 65, 66, 67, 68, 69, 70, 71, 72, 73, 74, 75, 76, 77, 78, 79, 80, 81, 82, 83, 84, 85, 86] (by decide +kernel) (by decide +kernel)
set_option maxRecDepth 20000 in
theorem gX9_near_X9_isFew : GoodIn wsX9_near (wsV RX9 188 RX9 yX9_isFew wsX9_isFew) := goodIn_app (goodIn_of _ (by decide +kernel)) ggX9_near_X9_isFew
set_option maxRecDepth 20000 in
theorem ggX9_near_X9_no : GoodIn wsX9_near wsX9_no := goodIn_r _ [36, 37, 60, 61, 62, 63, 64, 65, 66, 67, 68, 69, 70, 71, 72, 73, 74, 75, 76, 77, 78, 79, 80, 81, 82, 83, 84, 85, 86] (by decide +kernel) (by decide +kernel)
set_option maxRecDepth 20000 in
theorem gX9_near_X9_no : GoodIn wsX9_near (wsV RX9 192 RX9 yX9_no wsX9_no) := goodIn_app (goodIn_of _ (by decide +kernel)) ggX9_near_X9_no
set_option maxRecDepth 20000 in
theorem ggX9_near_X9_finds : GoodIn wsX9_near wsX9_finds := goodIn_r _ [41, 1, 42, 43, 44, 7, 8, 9, 5, 10, 11, 12, 13, 14, 15, 16, 17, 18, 19, 20, 21, 22, 23, 24, 25, 26, 27, 28, 29, 30, 31, 32, 45, 46, 47, 48, 49, 50, 51, 52, 53, 54, 55, 56, 57, 58, 59, 60, 61, 62, 63, 64, 65, 66, 67, 68, 69, 70, 71, 72, 73, 74, 75, 76, 77, 78, 79, 80, 81, 82, 83, 84, 85, 86] (by decide +kernel) (by decide +kernel)
set_option maxRecDepth 20000 in
theorem gX9_near_X9_finds : GoodIn wsX9_near (wsV RX9 195 RX9 yX9_finds wsX9_finds) := goodIn_app (goodIn_of _ (by decide +kernel)) ggX9_near_X9_finds
theorem dX9_near_0 : decode cX9_near 0 = .ok (.aload_n 0, 1) := by decide +kernel
theorem dX9_near_1 : decode cX9_near 1 = .ok (.invokevirtual 188, 3) := by decide +kernel
theorem dX9_near_4 : decode cX9_near 4 = .ok (.ifCond .ne 9, 3) := by decide +kernel
theorem dX9_near_7 : decode cX9_near 7 = .ok (.aload_n 0, 1) := by decide +kernel
theorem dX9_near_8 : decode cX9_near 8 = .ok (.iconst 0, 1) := by decide +kernel
theorem dX9_near_9 : decode cX9_near 9 = .ok (.invokevirtual 192, 3) := by decide +kernel
theorem dX9_near_12 : decode cX9_near 12 = .ok (.ireturn, 1) := by decide +kernel
theorem dX9_near_13 : decode cX9_near 13 = .ok (.aload_n 0, 1) := by decide +kernel
theorem dX9_near_14 : decode cX9_near 14 = .ok (.invokevirtual 195, 3) := by decide +kernel
theorem dX9_near_17 : decode cX9_near 17 = .ok (.aload_n 0, 1) := by decide +kernel
theorem dX9_near_18 : decode cX9_near 18 = .ok (.getfield 179, 3) := by decide +kernel
theorem dX9_near_21 : decode cX9_near 21 = .ok (.ireturn, 1) := by decide +kernel
theorem dX9_softOf_0 : decode cX9_softOf 0 = .ok (.aload_n 0, 1) := by decide +kernel
theorem dX9_softOf_1 : decode cX9_softOf 1 = .ok (.getfield 7, 3) := by decide +kernel
theorem dX9_softOf_4 : decode cX9_softOf 4 = .ok (.iconst 3, 1) := by decide +kernel
theorem dX9_softOf_5 : decode cX9_softOf 5 = .ok (.iload_n 1, 1) := by decide +kernel
theorem dX9_softOf_6 : decode cX9_softOf 6 = .ok (.iadd, 1) := by decide +kernel
theorem dX9_softOf_7 : decode cX9_softOf 7 = .ok (.iaload, 1) := by decide +kernel
theorem dX9_softOf_8 : decode cX9_softOf 8 = .ok (.ireturn, 1) := by decide +kernel
set_option maxRecDepth 20000 in
theorem ggX9_softens_X9_softOf : GoodIn wsX9_softens wsX9_softOf := goodIn_r _ [6, 1, 7, 8, 9, 10, 11, 12, 13, 14, 15, 16, 17, 18, 19, 20, 21, 22, 23, 24, 25, 26, 27, 28, 29, 30, 31, 32, 33] (by decide +kernel) (by decide +kernel)
set_option maxRecDepth 20000 in
theorem gX9_softens_X9_softOf : GoodIn wsX9_softens (wsV RX9 198 RX9 yX9_softOf wsX9_softOf) := goodIn_app (goodIn_of _ (by decide +kernel)) ggX9_softens_X9_softOf
theorem dX9_softens_0 : decode cX9_softens 0 = .ok (.aload_n 0, 1) := by decide +kernel
theorem dX9_softens_1 : decode cX9_softens 1 = .ok (.iload_n 1, 1) := by decide +kernel
theorem dX9_softens_2 : decode cX9_softens 2 = .ok (.invokevirtual 198, 3) := by decide +kernel
theorem dX9_softens_5 : decode cX9_softens 5 = .ok (.istore_n 3, 1) := by decide +kernel
theorem dX9_softens_6 : decode cX9_softens 6 = .ok (.aload_n 0, 1) := by decide +kernel
theorem dX9_softens_7 : decode cX9_softens 7 = .ok (.getfield 7, 3) := by decide +kernel
theorem dX9_softens_10 : decode cX9_softens 10 = .ok (.iconst 3, 1) := by decide +kernel
theorem dX9_softens_11 : decode cX9_softens 11 = .ok (.iload_n 1, 1) := by decide +kernel
theorem dX9_softens_12 : decode cX9_softens 12 = .ok (.iadd, 1) := by decide +kernel
theorem dX9_softens_13 : decode cX9_softens 13 = .ok (.iload_n 2, 1) := by decide +kernel
theorem dX9_softens_14 : decode cX9_softens 14 = .ok (.iastore, 1) := by decide +kernel
theorem dX9_softens_15 : decode cX9_softens 15 = .ok (.iload_n 3, 1) := by decide +kernel
theorem dX9_softens_16 : decode cX9_softens 16 = .ok (.ireturn, 1) := by decide +kernel
set_option maxRecDepth 20000 in
theorem ggX9_soft_X9_isPlace : GoodIn wsX9_soft wsX9_isPlace := goodIn_r _ [7, 8, 9, 10, 6, 11, 12, 13, 14, 15, 16, 17, 18, 19, 39, 40, 41, 42, 43, 44, 45, 46, 47, 48, 49, 50, 51, 52, 53, 54, 55, 56, 57, 58, 59, 60, 61, 62, 63, 64, 65] (by decide +kernel) (by decide +kernel)
set_option maxRecDepth 20000 in
theorem gX9_soft_X9_isPlace : GoodIn wsX9_soft (wsV RX9 122 RX9 yX9_isPlace wsX9_isPlace) := goodIn_app (goodIn_of _ (by decide +kernel)) ggX9_soft_X9_isPlace
set_option maxRecDepth 20000 in
theorem ggX9_soft_X9_in : GoodIn wsX9_soft wsX9_in := goodIn_r _ [19] (by decide +kernel) (by decide +kernel)
set_option maxRecDepth 20000 in
theorem gX9_soft_X9_in : GoodIn wsX9_soft (va_wsS RX9 83 yX9_in wsX9_in) := goodIn_app (goodIn_of _ (by decide +kernel)) ggX9_soft_X9_in
set_option maxRecDepth 20000 in
theorem ggX9_soft_X9_bad : GoodIn wsX9_soft wsX9_bad := goodIn_r _ [23, 24, 39, 40, 41, 42, 43, 44, 45, 46, 47, 48, 49, 50, 51, 52, 53, 54, 55, 56, 57, 58, 59, 60, 61, 62, 63, 64, 65] (by decide +kernel) (by decide +kernel)
set_option maxRecDepth 20000 in
theorem gX9_soft_X9_bad : GoodIn wsX9_soft (wsV RX9 90 RX9 yX9_bad wsX9_bad) := goodIn_app (goodIn_of _ (by decide +kernel)) ggX9_soft_X9_bad
set_option maxRecDepth 20000 in
theorem ggX9_soft_X9_keep : GoodIn wsX9_soft wsX9_keep := goodIn_r _ [28, 29, 30, 16, 39, 40, 41, 42, 43, 44, 45, 46, 47, 48, 49, 50, 51, 52, 53, 54, 55, 56, 57, 58, 59, 60, 61, 62, 63, 64, 65] (by decide +kernel) (by decide +kernel)
set_option maxRecDepth 20000 in
theorem gX9_soft_X9_keep : GoodIn wsX9_soft (wsV RX9 93 RX9 yX9_keep wsX9_keep) := goodIn_app (goodIn_of _ (by decide +kernel)) ggX9_soft_X9_keep
set_option maxRecDepth 20000 in
theorem ggX9_soft_X9_softens : GoodIn wsX9_soft wsX9_softens := goodIn_r _ [34, 16, 35, 36, 37, 6, 38, 39, 40, 41, 42, 43, 44, 45, 46, 47, 48, 49, 50, 51, 52, 53, 54, 55, 56, 57, 58, 59, 60, 61, 62, 63, 64, 65] (by decide +kernel) (by decide +kernel)
set_option maxRecDepth 20000 in
theorem gX9_soft_X9_softens : GoodIn wsX9_soft (wsV RX9 205 RX9 yX9_softens wsX9_softens) := goodIn_app (goodIn_of _ (by decide +kernel)) ggX9_soft_X9_softens
theorem dX9_soft_0 : decode cX9_soft 0 = .ok (.aload_n 0, 1) := by decide +kernel
theorem dX9_soft_1 : decode cX9_soft 1 = .ok (.iload_n 1, 1) := by decide +kernel
theorem dX9_soft_2 : decode cX9_soft 2 = .ok (.invokevirtual 122, 3) := by decide +kernel
theorem dX9_soft_5 : decode cX9_soft 5 = .ok (.ifCond .eq 17, 3) := by decide +kernel
theorem dX9_soft_8 : decode cX9_soft 8 = .ok (.iload_n 2, 1) := by decide +kernel
theorem dX9_soft_9 : decode cX9_soft 9 = .ok (.i2l, 1) := by decide +kernel
theorem dX9_soft_10 : decode cX9_soft 10 = .ok (.ldc2_w 201, 3) := by decide +kernel
theorem dX9_soft_13 : decode cX9_soft 13 = .ok (.ldc2_w 203, 3) := by decide +kernel
theorem dX9_soft_16 : decode cX9_soft 16 = .ok (.invokestatic 83, 3) := by decide +kernel
theorem dX9_soft_19 : decode cX9_soft 19 = .ok (.ifCond .ne 11, 3) := by decide +kernel
theorem dX9_soft_22 : decode cX9_soft 22 = .ok (.aload_n 0, 1) := by decide +kernel
theorem dX9_soft_23 : decode cX9_soft 23 = .ok (.sipush (-1000), 3) := by decide +kernel
theorem dX9_soft_26 : decode cX9_soft 26 = .ok (.invokevirtual 90, 3) := by decide +kernel
theorem dX9_soft_29 : decode cX9_soft 29 = .ok (.ireturn, 1) := by decide +kernel
theorem dX9_soft_30 : decode cX9_soft 30 = .ok (.aload_n 0, 1) := by decide +kernel
theorem dX9_soft_31 : decode cX9_soft 31 = .ok (.invokevirtual 93, 3) := by decide +kernel
theorem dX9_soft_34 : decode cX9_soft 34 = .ok (.aload_n 0, 1) := by decide +kernel
theorem dX9_soft_35 : decode cX9_soft 35 = .ok (.iload_n 1, 1) := by decide +kernel
theorem dX9_soft_36 : decode cX9_soft 36 = .ok (.iload_n 2, 1) := by decide +kernel
theorem dX9_soft_37 : decode cX9_soft 37 = .ok (.invokevirtual 205, 3) := by decide +kernel
theorem dX9_soft_40 : decode cX9_soft 40 = .ok (.ireturn, 1) := by decide +kernel
set_option maxRecDepth 20000 in
theorem ggX9_harden_X9_in : GoodIn wsX9_harden wsX9_in := goodIn_r _ [6] (by decide +kernel) (by decide +kernel)
set_option maxRecDepth 20000 in
theorem gX9_harden_X9_in : GoodIn wsX9_harden (va_wsS RX9 83 yX9_in wsX9_in) := goodIn_app (goodIn_of _ (by decide +kernel)) ggX9_harden_X9_in
set_option maxRecDepth 20000 in
theorem ggX9_harden_X9_bad : GoodIn wsX9_harden wsX9_bad := goodIn_r _ [10, 11, 33, 34, 35, 36, 37, 38, 39, 40, 41, 42, 43, 44, 45, 46, 47, 48, 49, 50, 51, 52, 53, 54, 55, 56, 57, 58, 59] (by decide +kernel) (by decide +kernel)
set_option maxRecDepth 20000 in
theorem gX9_harden_X9_bad : GoodIn wsX9_harden (wsV RX9 90 RX9 yX9_bad wsX9_bad) := goodIn_app (goodIn_of _ (by decide +kernel)) ggX9_harden_X9_bad
set_option maxRecDepth 20000 in
theorem ggX9_harden_X9_keep : GoodIn wsX9_harden wsX9_keep := goodIn_r _ [15, 16, 17, 2, 33, 34, 35, 36, 37, 38, 39, 40, 41, 42, 43, 44, 45, 46, 47, 48, 49, 50, 51, 52, 53, 54, 55, 56, 57, 58, 59] (by decide +kernel) (by decide +kernel)
set_option maxRecDepth 20000 in
theorem gX9_harden_X9_keep : GoodIn wsX9_harden (wsV RX9 93 RX9 yX9_keep wsX9_keep) := goodIn_app (goodIn_of _ (by decide +kernel)) ggX9_harden_X9_keep
set_option maxRecDepth 20000 in
theorem ggX9_harden_X9_places : GoodIn wsX9_harden wsX9_places := goodIn_r _ [21, 22, 23, 24, 5, 25, 2, 33, 34, 35, 36, 37, 38, 39, 40, 41, 42, 43, 44, 45, 46, 47, 48, 49, 50, 51, 52, 53, 54, 55, 56, 57, 58, 59] (by decide +kernel) (by decide +kernel)
set_option maxRecDepth 20000 in
theorem gX9_harden_X9_places : GoodIn wsX9_harden (wsV RX9 60 RX9 yX9_places wsX9_places) := goodIn_app (goodIn_of _ (by decide +kernel)) ggX9_harden_X9_places
set_option maxRecDepth 20000 in
theorem ggX9_harden_X9_theWord : GoodIn wsX9_harden wsX9_theWord := goodIn_r _ [29, 2, 33, 34, 35, 36, 37, 38, 39, 40, 41, 42, 43, 44, 45, 46, 47, 48, 49, 50, 51, 52, 53, 54, 55, 56, 57, 58, 59] (by decide +kernel) (by decide +kernel)
set_option maxRecDepth 20000 in
theorem gX9_harden_X9_theWord : GoodIn wsX9_harden (wsV RX9 116 RX9 yX9_theWord wsX9_theWord) := goodIn_app (goodIn_of _ (by decide +kernel)) ggX9_harden_X9_theWord
set_option maxRecDepth 20000 in
theorem ggX9_harden_X9_has : GoodIn wsX9_harden wsX9_has := goodIn_r _ [32] (by decide +kernel) (by decide +kernel)
set_option maxRecDepth 20000 in
theorem gX9_harden_X9_has : GoodIn wsX9_harden (va_wsS RX9 74 yX9_has wsX9_has) := goodIn_app (goodIn_of _ (by decide +kernel)) ggX9_harden_X9_has
theorem dX9_harden_0 : decode cX9_harden 0 = .ok (.iload_n 1, 1) := by decide +kernel
theorem dX9_harden_1 : decode cX9_harden 1 = .ok (.i2l, 1) := by decide +kernel
theorem dX9_harden_2 : decode cX9_harden 2 = .ok (.lconst 1, 1) := by decide +kernel
theorem dX9_harden_3 : decode cX9_harden 3 = .ok (.ldc2_w 203, 3) := by decide +kernel
theorem dX9_harden_6 : decode cX9_harden 6 = .ok (.invokestatic 83, 3) := by decide +kernel
theorem dX9_harden_9 : decode cX9_harden 9 = .ok (.ifCond .ne 10, 3) := by decide +kernel
theorem dX9_harden_12 : decode cX9_harden 12 = .ok (.aload_n 0, 1) := by decide +kernel
theorem dX9_harden_13 : decode cX9_harden 13 = .ok (.bipush (-2), 2) := by decide +kernel
theorem dX9_harden_15 : decode cX9_harden 15 = .ok (.invokevirtual 90, 3) := by decide +kernel
theorem dX9_harden_18 : decode cX9_harden 18 = .ok (.ireturn, 1) := by decide +kernel
theorem dX9_harden_19 : decode cX9_harden 19 = .ok (.aload_n 0, 1) := by decide +kernel
theorem dX9_harden_20 : decode cX9_harden 20 = .ok (.invokevirtual 93, 3) := by decide +kernel
theorem dX9_harden_23 : decode cX9_harden 23 = .ok (.iconst 0, 1) := by decide +kernel
theorem dX9_harden_24 : decode cX9_harden 24 = .ok (.istore_n 2, 1) := by decide +kernel
theorem dX9_harden_25 : decode cX9_harden 25 = .ok (.iload_n 2, 1) := by decide +kernel
theorem dX9_harden_26 : decode cX9_harden 26 = .ok (.aload_n 0, 1) := by decide +kernel
theorem dX9_harden_27 : decode cX9_harden 27 = .ok (.invokevirtual 60, 3) := by decide +kernel
theorem dX9_harden_30 : decode cX9_harden 30 = .ok (.if_icmp .ge 34, 3) := by decide +kernel
theorem dX9_harden_33 : decode cX9_harden 33 = .ok (.aload_n 0, 1) := by decide +kernel
theorem dX9_harden_34 : decode cX9_harden 34 = .ok (.getfield 7, 3) := by decide +kernel
theorem dX9_harden_37 : decode cX9_harden 37 = .ok (.iconst 3, 1) := by decide +kernel
theorem dX9_harden_38 : decode cX9_harden 38 = .ok (.iload_n 2, 1) := by decide +kernel
theorem dX9_harden_39 : decode cX9_harden 39 = .ok (.iadd, 1) := by decide +kernel
theorem dX9_harden_40 : decode cX9_harden 40 = .ok (.aload_n 0, 1) := by decide +kernel
theorem dX9_harden_41 : decode cX9_harden 41 = .ok (.invokevirtual 116, 3) := by decide +kernel
theorem dX9_harden_44 : decode cX9_harden 44 = .ok (.iload_n 2, 1) := by decide +kernel
theorem dX9_harden_45 : decode cX9_harden 45 = .ok (.invokestatic 74, 3) := by decide +kernel
theorem dX9_harden_48 : decode cX9_harden 48 = .ok (.ifCond .eq 8, 3) := by decide +kernel
theorem dX9_harden_51 : decode cX9_harden 51 = .ok (.iload_n 1, 1) := by decide +kernel
theorem dX9_harden_52 : decode cX9_harden 52 = .ok (.ineg, 1) := by decide +kernel
theorem dX9_harden_53 : decode cX9_harden 53 = .ok (.goto 4, 3) := by decide +kernel
theorem dX9_harden_56 : decode cX9_harden 56 = .ok (.iload_n 1, 1) := by decide +kernel
theorem dX9_harden_57 : decode cX9_harden 57 = .ok (.iastore, 1) := by decide +kernel
theorem dX9_harden_58 : decode cX9_harden 58 = .ok (.iinc 2 1, 3) := by decide +kernel
theorem dX9_harden_61 : decode cX9_harden 61 = .ok (.goto (-36), 3) := by decide +kernel
theorem dX9_harden_64 : decode cX9_harden 64 = .ok (.iload_n 1, 1) := by decide +kernel
theorem dX9_harden_65 : decode cX9_harden 65 = .ok (.ireturn, 1) := by decide +kernel
set_option maxRecDepth 20000 in
theorem ggX9_plain_X9_allOf : GoodIn wsX9_plain wsX9_allOf := goodIn_r _ [7] (by decide +kernel) (by decide +kernel)
set_option maxRecDepth 20000 in
theorem gX9_plain_X9_allOf : GoodIn wsX9_plain (va_wsS RX9 106 yX9_allOf wsX9_allOf) := goodIn_app (goodIn_of _ (by decide +kernel)) ggX9_plain_X9_allOf
theorem dX9_plain_0 : decode cX9_plain 0 = .ok (.iconst 0, 1) := by decide +kernel
theorem dX9_plain_1 : decode cX9_plain 1 = .ok (.istore_n 2, 1) := by decide +kernel
theorem dX9_plain_2 : decode cX9_plain 2 = .ok (.iconst 0, 1) := by decide +kernel
theorem dX9_plain_3 : decode cX9_plain 3 = .ok (.istore_n 3, 1) := by decide +kernel
theorem dX9_plain_4 : decode cX9_plain 4 = .ok (.iconst 0, 1) := by decide +kernel
theorem dX9_plain_5 : decode cX9_plain 5 = .ok (.istore 4, 2) := by decide +kernel
theorem dX9_plain_7 : decode cX9_plain 7 = .ok (.iload 4, 2) := by decide +kernel
theorem dX9_plain_9 : decode cX9_plain 9 = .ok (.iconst 1, 1) := by decide +kernel
theorem dX9_plain_10 : decode cX9_plain 10 = .ok (.aload_n 0, 1) := by decide +kernel
theorem dX9_plain_11 : decode cX9_plain 11 = .ok (.getfield 31, 3) := by decide +kernel
theorem dX9_plain_14 : decode cX9_plain 14 = .ok (.iload_n 1, 1) := by decide +kernel
theorem dX9_plain_15 : decode cX9_plain 15 = .ok (.iaload, 1) := by decide +kernel
theorem dX9_plain_16 : decode cX9_plain 16 = .ok (.ishl, 1) := by decide +kernel
theorem dX9_plain_17 : decode cX9_plain 17 = .ok (.if_icmp .ge 50, 3) := by decide +kernel
theorem dX9_plain_20 : decode cX9_plain 20 = .ok (.iload_n 3, 1) := by decide +kernel
theorem dX9_plain_21 : decode cX9_plain 21 = .ok (.aload_n 0, 1) := by decide +kernel
theorem dX9_plain_22 : decode cX9_plain 22 = .ok (.getfield 25, 3) := by decide +kernel
theorem dX9_plain_25 : decode cX9_plain 25 = .ok (.bipush 32, 2) := by decide +kernel
theorem dX9_plain_27 : decode cX9_plain 27 = .ok (.iload_n 1, 1) := by decide +kernel
theorem dX9_plain_28 : decode cX9_plain 28 = .ok (.imul, 1) := by decide +kernel
theorem dX9_plain_29 : decode cX9_plain 29 = .ok (.iload 4, 2) := by decide +kernel
theorem dX9_plain_31 : decode cX9_plain 31 = .ok (.iadd, 1) := by decide +kernel
theorem dX9_plain_32 : decode cX9_plain 32 = .ok (.iaload, 1) := by decide +kernel
theorem dX9_plain_33 : decode cX9_plain 33 = .ok (.iadd, 1) := by decide +kernel
theorem dX9_plain_34 : decode cX9_plain 34 = .ok (.istore_n 3, 1) := by decide +kernel
theorem dX9_plain_35 : decode cX9_plain 35 = .ok (.iload_n 2, 1) := by decide +kernel
theorem dX9_plain_36 : decode cX9_plain 36 = .ok (.aload_n 0, 1) := by decide +kernel
theorem dX9_plain_37 : decode cX9_plain 37 = .ok (.getfield 25, 3) := by decide +kernel
theorem dX9_plain_40 : decode cX9_plain 40 = .ok (.bipush 32, 2) := by decide +kernel
theorem dX9_plain_42 : decode cX9_plain 42 = .ok (.iload_n 1, 1) := by decide +kernel
theorem dX9_plain_43 : decode cX9_plain 43 = .ok (.imul, 1) := by decide +kernel
theorem dX9_plain_44 : decode cX9_plain 44 = .ok (.iload 4, 2) := by decide +kernel
theorem dX9_plain_46 : decode cX9_plain 46 = .ok (.iadd, 1) := by decide +kernel
theorem dX9_plain_47 : decode cX9_plain 47 = .ok (.iaload, 1) := by decide +kernel
theorem dX9_plain_48 : decode cX9_plain 48 = .ok (.ifCond .ge 10, 3) := by decide +kernel
theorem dX9_plain_51 : decode cX9_plain 51 = .ok (.iconst 1, 1) := by decide +kernel
theorem dX9_plain_52 : decode cX9_plain 52 = .ok (.iload 4, 2) := by decide +kernel
theorem dX9_plain_54 : decode cX9_plain 54 = .ok (.ishl, 1) := by decide +kernel
theorem dX9_plain_55 : decode cX9_plain 55 = .ok (.goto 4, 3) := by decide +kernel
theorem dX9_plain_58 : decode cX9_plain 58 = .ok (.iconst 0, 1) := by decide +kernel
theorem dX9_plain_59 : decode cX9_plain 59 = .ok (.ior, 1) := by decide +kernel
theorem dX9_plain_60 : decode cX9_plain 60 = .ok (.istore_n 2, 1) := by decide +kernel
theorem dX9_plain_61 : decode cX9_plain 61 = .ok (.iinc 4 1, 3) := by decide +kernel
theorem dX9_plain_64 : decode cX9_plain 64 = .ok (.goto (-57), 3) := by decide +kernel
theorem dX9_plain_67 : decode cX9_plain 67 = .ok (.aload_n 0, 1) := by decide +kernel
theorem dX9_plain_68 : decode cX9_plain 68 = .ok (.getfield 28, 3) := by decide +kernel
theorem dX9_plain_71 : decode cX9_plain 71 = .ok (.iload_n 1, 1) := by decide +kernel
theorem dX9_plain_72 : decode cX9_plain 72 = .ok (.iaload, 1) := by decide +kernel
theorem dX9_plain_73 : decode cX9_plain 73 = .ok (.ifCond .le 7, 3) := by decide +kernel
theorem dX9_plain_76 : decode cX9_plain 76 = .ok (.iload_n 2, 1) := by decide +kernel
theorem dX9_plain_77 : decode cX9_plain 77 = .ok (.goto 22, 3) := by decide +kernel
theorem dX9_plain_80 : decode cX9_plain 80 = .ok (.iload_n 3, 1) := by decide +kernel
theorem dX9_plain_81 : decode cX9_plain 81 = .ok (.ifCond .ge 17, 3) := by decide +kernel
theorem dX9_plain_84 : decode cX9_plain 84 = .ok (.iconst 1, 1) := by decide +kernel
theorem dX9_plain_85 : decode cX9_plain 85 = .ok (.aload_n 0, 1) := by decide +kernel
theorem dX9_plain_86 : decode cX9_plain 86 = .ok (.getfield 31, 3) := by decide +kernel
theorem dX9_plain_89 : decode cX9_plain 89 = .ok (.iload_n 1, 1) := by decide +kernel
theorem dX9_plain_90 : decode cX9_plain 90 = .ok (.iaload, 1) := by decide +kernel
theorem dX9_plain_91 : decode cX9_plain 91 = .ok (.ishl, 1) := by decide +kernel
theorem dX9_plain_92 : decode cX9_plain 92 = .ok (.invokestatic 106, 3) := by decide +kernel
theorem dX9_plain_95 : decode cX9_plain 95 = .ok (.goto 4, 3) := by decide +kernel
theorem dX9_plain_98 : decode cX9_plain 98 = .ok (.iconst 0, 1) := by decide +kernel
theorem dX9_plain_99 : decode cX9_plain 99 = .ok (.ireturn, 1) := by decide +kernel
set_option maxRecDepth 20000 in
theorem ggX9_lesser_X9_far : GoodIn wsX9_lesser wsX9_far := goodIn_r _ [4] (by decide +kernel) (by decide +kernel)
set_option maxRecDepth 20000 in
theorem gX9_lesser_X9_far : GoodIn wsX9_lesser (va_wsS RX9 173 yX9_far wsX9_far) := goodIn_app (goodIn_of _ (by decide +kernel)) ggX9_lesser_X9_far
theorem dX9_lesser_0 : decode cX9_lesser 0 = .ok (.iload_n 0, 1) := by decide +kernel
theorem dX9_lesser_1 : decode cX9_lesser 1 = .ok (.invokestatic 173, 3) := by decide +kernel
theorem dX9_lesser_4 : decode cX9_lesser 4 = .ok (.iload_n 1, 1) := by decide +kernel
theorem dX9_lesser_5 : decode cX9_lesser 5 = .ok (.invokestatic 173, 3) := by decide +kernel
theorem dX9_lesser_8 : decode cX9_lesser 8 = .ok (.if_icmp .ge 10, 3) := by decide +kernel
theorem dX9_lesser_11 : decode cX9_lesser 11 = .ok (.iload_n 0, 1) := by decide +kernel
theorem dX9_lesser_12 : decode cX9_lesser 12 = .ok (.invokestatic 173, 3) := by decide +kernel
theorem dX9_lesser_15 : decode cX9_lesser 15 = .ok (.goto 7, 3) := by decide +kernel
theorem dX9_lesser_18 : decode cX9_lesser 18 = .ok (.iload_n 1, 1) := by decide +kernel
theorem dX9_lesser_19 : decode cX9_lesser 19 = .ok (.invokestatic 173, 3) := by decide +kernel
theorem dX9_lesser_22 : decode cX9_lesser 22 = .ok (.istore_n 2, 1) := by decide +kernel
theorem dX9_lesser_23 : decode cX9_lesser 23 = .ok (.iload_n 0, 1) := by decide +kernel
theorem dX9_lesser_24 : decode cX9_lesser 24 = .ok (.ifCond .ge 7, 3) := by decide +kernel
theorem dX9_lesser_27 : decode cX9_lesser 27 = .ok (.iconst 1, 1) := by decide +kernel
theorem dX9_lesser_28 : decode cX9_lesser 28 = .ok (.goto 4, 3) := by decide +kernel
theorem dX9_lesser_31 : decode cX9_lesser 31 = .ok (.iconst 0, 1) := by decide +kernel
theorem dX9_lesser_32 : decode cX9_lesser 32 = .ok (.iload_n 1, 1) := by decide +kernel
theorem dX9_lesser_33 : decode cX9_lesser 33 = .ok (.ifCond .ge 7, 3) := by decide +kernel
theorem dX9_lesser_36 : decode cX9_lesser 36 = .ok (.iconst 1, 1) := by decide +kernel
theorem dX9_lesser_37 : decode cX9_lesser 37 = .ok (.goto 4, 3) := by decide +kernel
theorem dX9_lesser_40 : decode cX9_lesser 40 = .ok (.iconst 0, 1) := by decide +kernel
theorem dX9_lesser_41 : decode cX9_lesser 41 = .ok (.if_icmp .ne 7, 3) := by decide +kernel
theorem dX9_lesser_44 : decode cX9_lesser 44 = .ok (.iload_n 2, 1) := by decide +kernel
theorem dX9_lesser_45 : decode cX9_lesser 45 = .ok (.goto 5, 3) := by decide +kernel
theorem dX9_lesser_48 : decode cX9_lesser 48 = .ok (.iload_n 2, 1) := by decide +kernel
theorem dX9_lesser_49 : decode cX9_lesser 49 = .ok (.ineg, 1) := by decide +kernel
theorem dX9_lesser_50 : decode cX9_lesser 50 = .ok (.ireturn, 1) := by decide +kernel
theorem dX9_begins_0 : decode cX9_begins 0 = .ok (.aload_n 0, 1) := by decide +kernel
theorem dX9_begins_1 : decode cX9_begins 1 = .ok (.getfield 28, 3) := by decide +kernel
theorem dX9_begins_4 : decode cX9_begins 4 = .ok (.iload_n 1, 1) := by decide +kernel
theorem dX9_begins_5 : decode cX9_begins 5 = .ok (.iload_n 2, 1) := by decide +kernel
theorem dX9_begins_6 : decode cX9_begins 6 = .ok (.iastore, 1) := by decide +kernel
theorem dX9_begins_7 : decode cX9_begins 7 = .ok (.aload_n 0, 1) := by decide +kernel
theorem dX9_begins_8 : decode cX9_begins 8 = .ok (.getfield 31, 3) := by decide +kernel
theorem dX9_begins_11 : decode cX9_begins 11 = .ok (.iload_n 1, 1) := by decide +kernel
theorem dX9_begins_12 : decode cX9_begins 12 = .ok (.iload_n 3, 1) := by decide +kernel
theorem dX9_begins_13 : decode cX9_begins 13 = .ok (.iastore, 1) := by decide +kernel
theorem dX9_begins_14 : decode cX9_begins 14 = .ok (.aload_n 0, 1) := by decide +kernel
theorem dX9_begins_15 : decode cX9_begins 15 = .ok (.getfield 34, 3) := by decide +kernel
theorem dX9_begins_18 : decode cX9_begins 18 = .ok (.iload_n 1, 1) := by decide +kernel
theorem dX9_begins_19 : decode cX9_begins 19 = .ok (.iconst 0, 1) := by decide +kernel
theorem dX9_begins_20 : decode cX9_begins 20 = .ok (.iastore, 1) := by decide +kernel
theorem dX9_begins_21 : decode cX9_begins 21 = .ok (.return_, 1) := by decide +kernel
set_option maxRecDepth 20000 in
theorem ggX9_halvesOf_X9_order : GoodIn wsX9_halvesOf wsX9_order := goodIn_r _ [10, 11, 44, 45, 46, 47, 48, 49, 50, 51, 52, 53, 54, 55, 56, 57, 58, 59, 60, 61, 62, 63, 64, 65, 66, 67, 68, 69, 70] (by decide +kernel) (by decide +kernel)
set_option maxRecDepth 20000 in
theorem gX9_halvesOf_X9_order : GoodIn wsX9_halvesOf (wsV RX9 67 RX9 yX9_order wsX9_order) := goodIn_app (goodIn_of _ (by decide +kernel)) ggX9_halvesOf_X9_order
set_option maxRecDepth 20000 in
theorem ggX9_halvesOf_X9_length : GoodIn wsX9_halvesOf wsX9_length := goodIn_r _ [15, 11, 44, 45, 46, 47, 48, 49, 50, 51, 52, 53, 54, 55, 56, 57, 58, 59, 60, 61, 62, 63, 64, 65, 66, 67, 68, 69, 70] (by decide +kernel) (by decide +kernel)
set_option maxRecDepth 20000 in
theorem gX9_halvesOf_X9_length : GoodIn wsX9_halvesOf (wsV RX9 49 RX9 yX9_length wsX9_length) := goodIn_app (goodIn_of _ (by decide +kernel)) ggX9_halvesOf_X9_length
set_option maxRecDepth 20000 in
theorem ggX9_halvesOf_X9_begins : GoodIn wsX9_halvesOf wsX9_begins := goodIn_r _ [19, 3, 2, 4, 44, 45, 46, 47, 48, 49, 50, 51, 52, 53, 54, 55, 56, 57, 58, 59, 60, 61, 62, 63, 64, 65, 66, 67, 68, 69, 70] (by decide +kernel) (by decide +kernel)
set_option maxRecDepth 20000 in
theorem gX9_halvesOf_X9_begins : GoodIn wsX9_halvesOf (wsV RX9 208 RX9 yX9_begins wsX9_begins) := goodIn_app (goodIn_of _ (by decide +kernel)) ggX9_halvesOf_X9_begins
set_option maxRecDepth 20000 in
theorem ggX9_halvesOf_X9_places : GoodIn wsX9_halvesOf wsX9_places := goodIn_r _ [23, 12, 13, 14, 9, 15, 11, 44, 45, 46, 47, 48, 49, 50, 51, 52, 53, 54, 55, 56, 57, 58, 59, 60, 61, 62, 63, 64, 65, 66, 67, 68, 69, 70] (by decide +kernel) (by decide +kernel)
set_option maxRecDepth 20000 in
theorem gX9_halvesOf_X9_places : GoodIn wsX9_halvesOf (wsV RX9 60 RX9 yX9_places wsX9_places) := goodIn_app (goodIn_of _ (by decide +kernel)) ggX9_halvesOf_X9_places
set_option maxRecDepth 20000 in
theorem ggX9_halvesOf_X9_softOf : GoodIn wsX9_halvesOf wsX9_softOf := goodIn_r _ [27, 11, 44, 45, 46, 47, 48, 49, 50, 51, 52, 53, 54, 55, 56, 57, 58, 59, 60, 61, 62, 63, 64, 65, 66, 67, 68, 69, 70] (by decide +kernel) (by decide +kernel)
set_option maxRecDepth 20000 in
theorem gX9_halvesOf_X9_softOf : GoodIn wsX9_halvesOf (wsV RX9 198 RX9 yX9_softOf wsX9_softOf) := goodIn_app (goodIn_of _ (by decide +kernel)) ggX9_halvesOf_X9_softOf
set_option maxRecDepth 20000 in
theorem ggX9_halvesOf_X9_plain : GoodIn wsX9_halvesOf wsX9_plain := goodIn_r _ [31, 2, 1, 3, 32, 33, 9, 34, 44, 45, 46, 47, 48, 49, 50, 51, 52, 53, 54, 55, 56, 57, 58, 59, 60, 61, 62, 63, 64, 65, 66, 67, 68, 69, 70] (by decide +kernel) (by decide +kernel)
set_option maxRecDepth 20000 in
theorem gX9_halvesOf_X9_plain : GoodIn wsX9_halvesOf (wsV RX9 212 RX9 yX9_plain wsX9_plain) := goodIn_app (goodIn_of _ (by decide +kernel)) ggX9_halvesOf_X9_plain
set_option maxRecDepth 20000 in
theorem ggX9_halvesOf_X9_lesser : GoodIn wsX9_halvesOf wsX9_lesser := goodIn_r _ [37, 38, 39, 9, 40] (by decide +kernel) (by decide +kernel)
set_option maxRecDepth 20000 in
theorem gX9_halvesOf_X9_lesser : GoodIn wsX9_halvesOf (va_wsS RX9 215 yX9_lesser wsX9_lesser) := goodIn_app (goodIn_of _ (by decide +kernel)) ggX9_halvesOf_X9_lesser
set_option maxRecDepth 20000 in
theorem ggX9_halvesOf_X9_has : GoodIn wsX9_halvesOf wsX9_has := goodIn_r _ [43] (by decide +kernel) (by decide +kernel)
set_option maxRecDepth 20000 in
theorem gX9_halvesOf_X9_has : GoodIn wsX9_halvesOf (va_wsS RX9 74 yX9_has wsX9_has) := goodIn_app (goodIn_of _ (by decide +kernel)) ggX9_halvesOf_X9_has
theorem dX9_halvesOf_0 : decode cX9_halvesOf 0 = .ok (.iconst 0, 1) := by decide +kernel
theorem dX9_halvesOf_1 : decode cX9_halvesOf 1 = .ok (.istore_n 1, 1) := by decide +kernel
theorem dX9_halvesOf_2 : decode cX9_halvesOf 2 = .ok (.iconst 0, 1) := by decide +kernel
theorem dX9_halvesOf_3 : decode cX9_halvesOf 3 = .ok (.istore_n 2, 1) := by decide +kernel
theorem dX9_halvesOf_4 : decode cX9_halvesOf 4 = .ok (.aload_n 0, 1) := by decide +kernel
theorem dX9_halvesOf_5 : decode cX9_halvesOf 5 = .ok (.iconst 0, 1) := by decide +kernel
theorem dX9_halvesOf_6 : decode cX9_halvesOf 6 = .ok (.aload_n 0, 1) := by decide +kernel
theorem dX9_halvesOf_7 : decode cX9_halvesOf 7 = .ok (.invokevirtual 67, 3) := by decide +kernel
theorem dX9_halvesOf_10 : decode cX9_halvesOf 10 = .ok (.aload_n 0, 1) := by decide +kernel
theorem dX9_halvesOf_11 : decode cX9_halvesOf 11 = .ok (.invokevirtual 49, 3) := by decide +kernel
theorem dX9_halvesOf_14 : decode cX9_halvesOf 14 = .ok (.invokevirtual 208, 3) := by decide +kernel
theorem dX9_halvesOf_17 : decode cX9_halvesOf 17 = .ok (.iconst 0, 1) := by decide +kernel
theorem dX9_halvesOf_18 : decode cX9_halvesOf 18 = .ok (.istore_n 3, 1) := by decide +kernel
theorem dX9_halvesOf_19 : decode cX9_halvesOf 19 = .ok (.iload_n 3, 1) := by decide +kernel
theorem dX9_halvesOf_20 : decode cX9_halvesOf 20 = .ok (.aload_n 0, 1) := by decide +kernel
theorem dX9_halvesOf_21 : decode cX9_halvesOf 21 = .ok (.invokevirtual 60, 3) := by decide +kernel
theorem dX9_halvesOf_24 : decode cX9_halvesOf 24 = .ok (.if_icmp .ge 20, 3) := by decide +kernel
theorem dX9_halvesOf_27 : decode cX9_halvesOf 27 = .ok (.aload_n 0, 1) := by decide +kernel
theorem dX9_halvesOf_28 : decode cX9_halvesOf 28 = .ok (.getfield 25, 3) := by decide +kernel
theorem dX9_halvesOf_31 : decode cX9_halvesOf 31 = .ok (.iload_n 3, 1) := by decide +kernel
theorem dX9_halvesOf_32 : decode cX9_halvesOf 32 = .ok (.aload_n 0, 1) := by decide +kernel
theorem dX9_halvesOf_33 : decode cX9_halvesOf 33 = .ok (.iload_n 3, 1) := by decide +kernel
theorem dX9_halvesOf_34 : decode cX9_halvesOf 34 = .ok (.invokevirtual 198, 3) := by decide +kernel
theorem dX9_halvesOf_37 : decode cX9_halvesOf 37 = .ok (.iastore, 1) := by decide +kernel
theorem dX9_halvesOf_38 : decode cX9_halvesOf 38 = .ok (.iinc 3 1, 3) := by decide +kernel
theorem dX9_halvesOf_41 : decode cX9_halvesOf 41 = .ok (.goto (-22), 3) := by decide +kernel
theorem dX9_halvesOf_44 : decode cX9_halvesOf 44 = .ok (.iload_n 2, 1) := by decide +kernel
theorem dX9_halvesOf_45 : decode cX9_halvesOf 45 = .ok (.ifCond .lt 294, 3) := by decide +kernel
theorem dX9_halvesOf_48 : decode cX9_halvesOf 48 = .ok (.iconst 1, 1) := by decide +kernel
theorem dX9_halvesOf_49 : decode cX9_halvesOf 49 = .ok (.aload_n 0, 1) := by decide +kernel
theorem dX9_halvesOf_50 : decode cX9_halvesOf 50 = .ok (.getfield 31, 3) := by decide +kernel
theorem dX9_halvesOf_53 : decode cX9_halvesOf 53 = .ok (.iload_n 2, 1) := by decide +kernel
theorem dX9_halvesOf_54 : decode cX9_halvesOf 54 = .ok (.iaload, 1) := by decide +kernel
theorem dX9_halvesOf_55 : decode cX9_halvesOf 55 = .ok (.ishl, 1) := by decide +kernel
theorem dX9_halvesOf_56 : decode cX9_halvesOf 56 = .ok (.iconst 1, 1) := by decide +kernel
theorem dX9_halvesOf_57 : decode cX9_halvesOf 57 = .ok (.ishr, 1) := by decide +kernel
theorem dX9_halvesOf_58 : decode cX9_halvesOf 58 = .ok (.istore_n 3, 1) := by decide +kernel
theorem dX9_halvesOf_59 : decode cX9_halvesOf 59 = .ok (.bipush 32, 2) := by decide +kernel
theorem dX9_halvesOf_61 : decode cX9_halvesOf 61 = .ok (.iload_n 2, 1) := by decide +kernel
theorem dX9_halvesOf_62 : decode cX9_halvesOf 62 = .ok (.imul, 1) := by decide +kernel
theorem dX9_halvesOf_63 : decode cX9_halvesOf 63 = .ok (.istore 4, 2) := by decide +kernel
theorem dX9_halvesOf_65 : decode cX9_halvesOf 65 = .ok (.aload_n 0, 1) := by decide +kernel
theorem dX9_halvesOf_66 : decode cX9_halvesOf 66 = .ok (.getfield 28, 3) := by decide +kernel
theorem dX9_halvesOf_69 : decode cX9_halvesOf 69 = .ok (.iload_n 2, 1) := by decide +kernel
theorem dX9_halvesOf_70 : decode cX9_halvesOf 70 = .ok (.iaload, 1) := by decide +kernel
theorem dX9_halvesOf_71 : decode cX9_halvesOf 71 = .ok (.ifCond .eq 18, 3) := by decide +kernel
theorem dX9_halvesOf_74 : decode cX9_halvesOf 74 = .ok (.aload_n 0, 1) := by decide +kernel
theorem dX9_halvesOf_75 : decode cX9_halvesOf 75 = .ok (.getfield 28, 3) := by decide +kernel
theorem dX9_halvesOf_78 : decode cX9_halvesOf 78 = .ok (.iload_n 2, 1) := by decide +kernel
theorem dX9_halvesOf_79 : decode cX9_halvesOf 79 = .ok (.iaload, 1) := by decide +kernel
theorem dX9_halvesOf_80 : decode cX9_halvesOf 80 = .ok (.aload_n 0, 1) := by decide +kernel
theorem dX9_halvesOf_81 : decode cX9_halvesOf 81 = .ok (.getfield 31, 3) := by decide +kernel
theorem dX9_halvesOf_84 : decode cX9_halvesOf 84 = .ok (.iload_n 2, 1) := by decide +kernel
theorem dX9_halvesOf_85 : decode cX9_halvesOf 85 = .ok (.iaload, 1) := by decide +kernel
theorem dX9_halvesOf_86 : decode cX9_halvesOf 86 = .ok (.if_icmp .ne 15, 3) := by decide +kernel
theorem dX9_halvesOf_89 : decode cX9_halvesOf 89 = .ok (.aload_n 0, 1) := by decide +kernel
theorem dX9_halvesOf_90 : decode cX9_halvesOf 90 = .ok (.iload_n 2, 1) := by decide +kernel
theorem dX9_halvesOf_91 : decode cX9_halvesOf 91 = .ok (.invokevirtual 212, 3) := by decide +kernel
theorem dX9_halvesOf_94 : decode cX9_halvesOf 94 = .ok (.istore_n 1, 1) := by decide +kernel
theorem dX9_halvesOf_95 : decode cX9_halvesOf 95 = .ok (.iinc 2 (-1), 3) := by decide +kernel
theorem dX9_halvesOf_98 : decode cX9_halvesOf 98 = .ok (.goto 238, 3) := by decide +kernel
theorem dX9_halvesOf_101 : decode cX9_halvesOf 101 = .ok (.aload_n 0, 1) := by decide +kernel
theorem dX9_halvesOf_102 : decode cX9_halvesOf 102 = .ok (.getfield 34, 3) := by decide +kernel
theorem dX9_halvesOf_105 : decode cX9_halvesOf 105 = .ok (.iload_n 2, 1) := by decide +kernel
theorem dX9_halvesOf_106 : decode cX9_halvesOf 106 = .ok (.iaload, 1) := by decide +kernel
theorem dX9_halvesOf_107 : decode cX9_halvesOf 107 = .ok (.ifCond .ne 92, 3) := by decide +kernel
theorem dX9_halvesOf_110 : decode cX9_halvesOf 110 = .ok (.aload_n 0, 1) := by decide +kernel
theorem dX9_halvesOf_111 : decode cX9_halvesOf 111 = .ok (.iload_n 2, 1) := by decide +kernel
theorem dX9_halvesOf_112 : decode cX9_halvesOf 112 = .ok (.iconst 1, 1) := by decide +kernel
theorem dX9_halvesOf_113 : decode cX9_halvesOf 113 = .ok (.iadd, 1) := by decide +kernel
theorem dX9_halvesOf_114 : decode cX9_halvesOf 114 = .ok (.aload_n 0, 1) := by decide +kernel
theorem dX9_halvesOf_115 : decode cX9_halvesOf 115 = .ok (.getfield 28, 3) := by decide +kernel
theorem dX9_halvesOf_118 : decode cX9_halvesOf 118 = .ok (.iload_n 2, 1) := by decide +kernel
theorem dX9_halvesOf_119 : decode cX9_halvesOf 119 = .ok (.iaload, 1) := by decide +kernel
theorem dX9_halvesOf_120 : decode cX9_halvesOf 120 = .ok (.iconst 1, 1) := by decide +kernel
theorem dX9_halvesOf_121 : decode cX9_halvesOf 121 = .ok (.isub, 1) := by decide +kernel
theorem dX9_halvesOf_122 : decode cX9_halvesOf 122 = .ok (.aload_n 0, 1) := by decide +kernel
theorem dX9_halvesOf_123 : decode cX9_halvesOf 123 = .ok (.getfield 31, 3) := by decide +kernel
theorem dX9_halvesOf_126 : decode cX9_halvesOf 126 = .ok (.iload_n 2, 1) := by decide +kernel
theorem dX9_halvesOf_127 : decode cX9_halvesOf 127 = .ok (.iaload, 1) := by decide +kernel
theorem dX9_halvesOf_128 : decode cX9_halvesOf 128 = .ok (.iconst 1, 1) := by decide +kernel
theorem dX9_halvesOf_129 : decode cX9_halvesOf 129 = .ok (.isub, 1) := by decide +kernel
theorem dX9_halvesOf_130 : decode cX9_halvesOf 130 = .ok (.invokevirtual 208, 3) := by decide +kernel
theorem dX9_halvesOf_133 : decode cX9_halvesOf 133 = .ok (.iconst 0, 1) := by decide +kernel
theorem dX9_halvesOf_134 : decode cX9_halvesOf 134 = .ok (.istore 5, 2) := by decide +kernel
theorem dX9_halvesOf_136 : decode cX9_halvesOf 136 = .ok (.iload 5, 2) := by decide +kernel
theorem dX9_halvesOf_138 : decode cX9_halvesOf 138 = .ok (.iload_n 3, 1) := by decide +kernel
theorem dX9_halvesOf_139 : decode cX9_halvesOf 139 = .ok (.if_icmp .ge 47, 3) := by decide +kernel
theorem dX9_halvesOf_142 : decode cX9_halvesOf 142 = .ok (.aload_n 0, 1) := by decide +kernel
theorem dX9_halvesOf_143 : decode cX9_halvesOf 143 = .ok (.getfield 25, 3) := by decide +kernel
theorem dX9_halvesOf_146 : decode cX9_halvesOf 146 = .ok (.iload 4, 2) := by decide +kernel
theorem dX9_halvesOf_148 : decode cX9_halvesOf 148 = .ok (.bipush 32, 2) := by decide +kernel
theorem dX9_halvesOf_150 : decode cX9_halvesOf 150 = .ok (.iadd, 1) := by decide +kernel
theorem dX9_halvesOf_151 : decode cX9_halvesOf 151 = .ok (.iload 5, 2) := by decide +kernel
theorem dX9_halvesOf_153 : decode cX9_halvesOf 153 = .ok (.iadd, 1) := by decide +kernel
theorem dX9_halvesOf_154 : decode cX9_halvesOf 154 = .ok (.aload_n 0, 1) := by decide +kernel
theorem dX9_halvesOf_155 : decode cX9_halvesOf 155 = .ok (.getfield 25, 3) := by decide +kernel
theorem dX9_halvesOf_158 : decode cX9_halvesOf 158 = .ok (.iload 4, 2) := by decide +kernel
theorem dX9_halvesOf_160 : decode cX9_halvesOf 160 = .ok (.iload 5, 2) := by decide +kernel
theorem dX9_halvesOf_162 : decode cX9_halvesOf 162 = .ok (.iadd, 1) := by decide +kernel
theorem dX9_halvesOf_163 : decode cX9_halvesOf 163 = .ok (.iaload, 1) := by decide +kernel
theorem dX9_halvesOf_164 : decode cX9_halvesOf 164 = .ok (.aload_n 0, 1) := by decide +kernel
theorem dX9_halvesOf_165 : decode cX9_halvesOf 165 = .ok (.getfield 25, 3) := by decide +kernel
theorem dX9_halvesOf_168 : decode cX9_halvesOf 168 = .ok (.iload 4, 2) := by decide +kernel
theorem dX9_halvesOf_170 : decode cX9_halvesOf 170 = .ok (.iload_n 3, 1) := by decide +kernel
theorem dX9_halvesOf_171 : decode cX9_halvesOf 171 = .ok (.iadd, 1) := by decide +kernel
theorem dX9_halvesOf_172 : decode cX9_halvesOf 172 = .ok (.iload 5, 2) := by decide +kernel
theorem dX9_halvesOf_174 : decode cX9_halvesOf 174 = .ok (.iadd, 1) := by decide +kernel
theorem dX9_halvesOf_175 : decode cX9_halvesOf 175 = .ok (.iaload, 1) := by decide +kernel
theorem dX9_halvesOf_176 : decode cX9_halvesOf 176 = .ok (.invokestatic 215, 3) := by decide +kernel
theorem dX9_halvesOf_179 : decode cX9_halvesOf 179 = .ok (.iastore, 1) := by decide +kernel
theorem dX9_halvesOf_180 : decode cX9_halvesOf 180 = .ok (.iinc 5 1, 3) := by decide +kernel
theorem dX9_halvesOf_183 : decode cX9_halvesOf 183 = .ok (.goto (-47), 3) := by decide +kernel
theorem dX9_halvesOf_186 : decode cX9_halvesOf 186 = .ok (.aload_n 0, 1) := by decide +kernel
theorem dX9_halvesOf_187 : decode cX9_halvesOf 187 = .ok (.getfield 34, 3) := by decide +kernel
theorem dX9_halvesOf_190 : decode cX9_halvesOf 190 = .ok (.iload_n 2, 1) := by decide +kernel
theorem dX9_halvesOf_191 : decode cX9_halvesOf 191 = .ok (.iconst 1, 1) := by decide +kernel
theorem dX9_halvesOf_192 : decode cX9_halvesOf 192 = .ok (.iastore, 1) := by decide +kernel
theorem dX9_halvesOf_193 : decode cX9_halvesOf 193 = .ok (.iinc 2 1, 3) := by decide +kernel
theorem dX9_halvesOf_196 : decode cX9_halvesOf 196 = .ok (.goto 140, 3) := by decide +kernel
theorem dX9_halvesOf_199 : decode cX9_halvesOf 199 = .ok (.aload_n 0, 1) := by decide +kernel
theorem dX9_halvesOf_200 : decode cX9_halvesOf 200 = .ok (.getfield 34, 3) := by decide +kernel
theorem dX9_halvesOf_203 : decode cX9_halvesOf 203 = .ok (.iload_n 2, 1) := by decide +kernel
theorem dX9_halvesOf_204 : decode cX9_halvesOf 204 = .ok (.iaload, 1) := by decide +kernel
theorem dX9_halvesOf_205 : decode cX9_halvesOf 205 = .ok (.iconst 1, 1) := by decide +kernel
theorem dX9_halvesOf_206 : decode cX9_halvesOf 206 = .ok (.if_icmp .ne 114, 3) := by decide +kernel
theorem dX9_halvesOf_209 : decode cX9_halvesOf 209 = .ok (.aload_n 0, 1) := by decide +kernel
theorem dX9_halvesOf_210 : decode cX9_halvesOf 210 = .ok (.getfield 37, 3) := by decide +kernel
theorem dX9_halvesOf_213 : decode cX9_halvesOf 213 = .ok (.iload_n 2, 1) := by decide +kernel
theorem dX9_halvesOf_214 : decode cX9_halvesOf 214 = .ok (.iload_n 1, 1) := by decide +kernel
theorem dX9_halvesOf_215 : decode cX9_halvesOf 215 = .ok (.iastore, 1) := by decide +kernel
theorem dX9_halvesOf_216 : decode cX9_halvesOf 216 = .ok (.aload_n 0, 1) := by decide +kernel
theorem dX9_halvesOf_217 : decode cX9_halvesOf 217 = .ok (.iload_n 2, 1) := by decide +kernel
theorem dX9_halvesOf_218 : decode cX9_halvesOf 218 = .ok (.iconst 1, 1) := by decide +kernel
theorem dX9_halvesOf_219 : decode cX9_halvesOf 219 = .ok (.iadd, 1) := by decide +kernel
theorem dX9_halvesOf_220 : decode cX9_halvesOf 220 = .ok (.aload_n 0, 1) := by decide +kernel
theorem dX9_halvesOf_221 : decode cX9_halvesOf 221 = .ok (.getfield 28, 3) := by decide +kernel
theorem dX9_halvesOf_224 : decode cX9_halvesOf 224 = .ok (.iload_n 2, 1) := by decide +kernel
theorem dX9_halvesOf_225 : decode cX9_halvesOf 225 = .ok (.iaload, 1) := by decide +kernel
theorem dX9_halvesOf_226 : decode cX9_halvesOf 226 = .ok (.aload_n 0, 1) := by decide +kernel
theorem dX9_halvesOf_227 : decode cX9_halvesOf 227 = .ok (.getfield 31, 3) := by decide +kernel
theorem dX9_halvesOf_230 : decode cX9_halvesOf 230 = .ok (.iload_n 2, 1) := by decide +kernel
theorem dX9_halvesOf_231 : decode cX9_halvesOf 231 = .ok (.iaload, 1) := by decide +kernel
theorem dX9_halvesOf_232 : decode cX9_halvesOf 232 = .ok (.iconst 1, 1) := by decide +kernel
theorem dX9_halvesOf_233 : decode cX9_halvesOf 233 = .ok (.isub, 1) := by decide +kernel
theorem dX9_halvesOf_234 : decode cX9_halvesOf 234 = .ok (.invokevirtual 208, 3) := by decide +kernel
theorem dX9_halvesOf_237 : decode cX9_halvesOf 237 = .ok (.iconst 0, 1) := by decide +kernel
theorem dX9_halvesOf_238 : decode cX9_halvesOf 238 = .ok (.istore 5, 2) := by decide +kernel
theorem dX9_halvesOf_240 : decode cX9_halvesOf 240 = .ok (.iload 5, 2) := by decide +kernel
theorem dX9_halvesOf_242 : decode cX9_halvesOf 242 = .ok (.iload_n 3, 1) := by decide +kernel
theorem dX9_halvesOf_243 : decode cX9_halvesOf 243 = .ok (.if_icmp .ge 64, 3) := by decide +kernel
theorem dX9_halvesOf_246 : decode cX9_halvesOf 246 = .ok (.aload_n 0, 1) := by decide +kernel
theorem dX9_halvesOf_247 : decode cX9_halvesOf 247 = .ok (.getfield 25, 3) := by decide +kernel
theorem dX9_halvesOf_250 : decode cX9_halvesOf 250 = .ok (.iload 4, 2) := by decide +kernel
theorem dX9_halvesOf_252 : decode cX9_halvesOf 252 = .ok (.iload_n 3, 1) := by decide +kernel
theorem dX9_halvesOf_253 : decode cX9_halvesOf 253 = .ok (.iadd, 1) := by decide +kernel
theorem dX9_halvesOf_254 : decode cX9_halvesOf 254 = .ok (.iload 5, 2) := by decide +kernel
theorem dX9_halvesOf_256 : decode cX9_halvesOf 256 = .ok (.iadd, 1) := by decide +kernel
theorem dX9_halvesOf_257 : decode cX9_halvesOf 257 = .ok (.iaload, 1) := by decide +kernel
theorem dX9_halvesOf_258 : decode cX9_halvesOf 258 = .ok (.istore 6, 2) := by decide +kernel
theorem dX9_halvesOf_260 : decode cX9_halvesOf 260 = .ok (.aload_n 0, 1) := by decide +kernel
theorem dX9_halvesOf_261 : decode cX9_halvesOf 261 = .ok (.getfield 25, 3) := by decide +kernel
theorem dX9_halvesOf_264 : decode cX9_halvesOf 264 = .ok (.iload 4, 2) := by decide +kernel
theorem dX9_halvesOf_266 : decode cX9_halvesOf 266 = .ok (.bipush 32, 2) := by decide +kernel
theorem dX9_halvesOf_268 : decode cX9_halvesOf 268 = .ok (.iadd, 1) := by decide +kernel
theorem dX9_halvesOf_269 : decode cX9_halvesOf 269 = .ok (.iload 5, 2) := by decide +kernel
theorem dX9_halvesOf_271 : decode cX9_halvesOf 271 = .ok (.iadd, 1) := by decide +kernel
theorem dX9_halvesOf_272 : decode cX9_halvesOf 272 = .ok (.aload_n 0, 1) := by decide +kernel
theorem dX9_halvesOf_273 : decode cX9_halvesOf 273 = .ok (.getfield 25, 3) := by decide +kernel
theorem dX9_halvesOf_276 : decode cX9_halvesOf 276 = .ok (.iload 4, 2) := by decide +kernel
theorem dX9_halvesOf_278 : decode cX9_halvesOf 278 = .ok (.iload 5, 2) := by decide +kernel
theorem dX9_halvesOf_280 : decode cX9_halvesOf 280 = .ok (.iadd, 1) := by decide +kernel
theorem dX9_halvesOf_281 : decode cX9_halvesOf 281 = .ok (.iaload, 1) := by decide +kernel
theorem dX9_halvesOf_282 : decode cX9_halvesOf 282 = .ok (.iload_n 1, 1) := by decide +kernel
theorem dX9_halvesOf_283 : decode cX9_halvesOf 283 = .ok (.iload 5, 2) := by decide +kernel
theorem dX9_halvesOf_285 : decode cX9_halvesOf 285 = .ok (.invokestatic 74, 3) := by decide +kernel
theorem dX9_halvesOf_288 : decode cX9_halvesOf 288 = .ok (.ifCond .eq 9, 3) := by decide +kernel
theorem dX9_halvesOf_291 : decode cX9_halvesOf 291 = .ok (.iload 6, 2) := by decide +kernel
theorem dX9_halvesOf_293 : decode cX9_halvesOf 293 = .ok (.ineg, 1) := by decide +kernel
theorem dX9_halvesOf_294 : decode cX9_halvesOf 294 = .ok (.goto 5, 3) := by decide +kernel
theorem dX9_halvesOf_297 : decode cX9_halvesOf 297 = .ok (.iload 6, 2) := by decide +kernel
theorem dX9_halvesOf_299 : decode cX9_halvesOf 299 = .ok (.iadd, 1) := by decide +kernel
theorem dX9_halvesOf_300 : decode cX9_halvesOf 300 = .ok (.iastore, 1) := by decide +kernel
theorem dX9_halvesOf_301 : decode cX9_halvesOf 301 = .ok (.iinc 5 1, 3) := by decide +kernel
theorem dX9_halvesOf_304 : decode cX9_halvesOf 304 = .ok (.goto (-64), 3) := by decide +kernel
theorem dX9_halvesOf_307 : decode cX9_halvesOf 307 = .ok (.aload_n 0, 1) := by decide +kernel
theorem dX9_halvesOf_308 : decode cX9_halvesOf 308 = .ok (.getfield 34, 3) := by decide +kernel
theorem dX9_halvesOf_311 : decode cX9_halvesOf 311 = .ok (.iload_n 2, 1) := by decide +kernel
theorem dX9_halvesOf_312 : decode cX9_halvesOf 312 = .ok (.iconst 2, 1) := by decide +kernel
theorem dX9_halvesOf_313 : decode cX9_halvesOf 313 = .ok (.iastore, 1) := by decide +kernel
theorem dX9_halvesOf_314 : decode cX9_halvesOf 314 = .ok (.iinc 2 1, 3) := by decide +kernel
theorem dX9_halvesOf_317 : decode cX9_halvesOf 317 = .ok (.goto 19, 3) := by decide +kernel
theorem dX9_halvesOf_320 : decode cX9_halvesOf 320 = .ok (.iload_n 1, 1) := by decide +kernel
theorem dX9_halvesOf_321 : decode cX9_halvesOf 321 = .ok (.iload_n 1, 1) := by decide +kernel
theorem dX9_halvesOf_322 : decode cX9_halvesOf 322 = .ok (.aload_n 0, 1) := by decide +kernel
theorem dX9_halvesOf_323 : decode cX9_halvesOf 323 = .ok (.getfield 37, 3) := by decide +kernel
theorem dX9_halvesOf_326 : decode cX9_halvesOf 326 = .ok (.iload_n 2, 1) := by decide +kernel
theorem dX9_halvesOf_327 : decode cX9_halvesOf 327 = .ok (.iaload, 1) := by decide +kernel
theorem dX9_halvesOf_328 : decode cX9_halvesOf 328 = .ok (.ixor, 1) := by decide +kernel
theorem dX9_halvesOf_329 : decode cX9_halvesOf 329 = .ok (.iload_n 3, 1) := by decide +kernel
theorem dX9_halvesOf_330 : decode cX9_halvesOf 330 = .ok (.ishl, 1) := by decide +kernel
theorem dX9_halvesOf_331 : decode cX9_halvesOf 331 = .ok (.ior, 1) := by decide +kernel
theorem dX9_halvesOf_332 : decode cX9_halvesOf 332 = .ok (.istore_n 1, 1) := by decide +kernel
theorem dX9_halvesOf_333 : decode cX9_halvesOf 333 = .ok (.iinc 2 (-1), 3) := by decide +kernel
theorem dX9_halvesOf_336 : decode cX9_halvesOf 336 = .ok (.goto (-292), 3) := by decide +kernel
theorem dX9_halvesOf_339 : decode cX9_halvesOf 339 = .ok (.iload_n 1, 1) := by decide +kernel
theorem dX9_halvesOf_340 : decode cX9_halvesOf 340 = .ok (.ireturn, 1) := by decide +kernel
set_option maxRecDepth 20000 in
theorem ggX9_halves_X9_halvesOf : GoodIn wsX9_halves wsX9_halvesOf := goodIn_r _ [5, 6, 7, 8, 9, 10, 11, 12, 13, 4, 14, 15, 16, 17, 18, 19, 20, 21, 22, 23, 24, 25, 26, 27, 28, 29, 30, 31, 32, 33, 34, 35, 36, 37, 38, 39, 40, 41, 42, 43, 44, 45, 46, 47, 48, 49, 50, 51, 52, 53, 54, 55, 56, 57, 58, 59, 60, 61, 62, 63, 64, 65, 66, 67, 68, 69, 70, 71, 72, 73, 74] (by decide +kernel) (by decide +kernel)
set_option maxRecDepth 20000 in
theorem gX9_halves_X9_halvesOf : GoodIn wsX9_halves (wsV RX9 218 RX9 yX9_halvesOf wsX9_halvesOf) := goodIn_app (goodIn_of _ (by decide +kernel)) ggX9_halves_X9_halvesOf
theorem dX9_halves_0 : decode cX9_halves 0 = .ok (.aload_n 0, 1) := by decide +kernel
theorem dX9_halves_1 : decode cX9_halves 1 = .ok (.invokevirtual 218, 3) := by decide +kernel
theorem dX9_halves_4 : decode cX9_halves 4 = .ok (.ireturn, 1) := by decide +kernel
set_option maxRecDepth 20000 in
theorem ggX9_meritOf_X9_places : GoodIn wsX9_meritOf wsX9_places := goodIn_r _ [5, 6, 7, 8, 4, 9, 10, 18, 19, 20, 21, 22, 23, 24, 25, 26, 27, 28, 29, 30, 31, 32, 33, 34, 35, 36, 37, 38, 39, 40, 41, 42, 43, 44] (by decide +kernel) (by decide +kernel)
set_option maxRecDepth 20000 in
theorem gX9_meritOf_X9_places : GoodIn wsX9_meritOf (wsV RX9 60 RX9 yX9_places wsX9_places) := goodIn_app (goodIn_of _ (by decide +kernel)) ggX9_meritOf_X9_places
set_option maxRecDepth 20000 in
theorem ggX9_meritOf_X9_has : GoodIn wsX9_meritOf wsX9_has := goodIn_r _ [13] (by decide +kernel) (by decide +kernel)
set_option maxRecDepth 20000 in
theorem gX9_meritOf_X9_has : GoodIn wsX9_meritOf (va_wsS RX9 74 yX9_has wsX9_has) := goodIn_app (goodIn_of _ (by decide +kernel)) ggX9_meritOf_X9_has
set_option maxRecDepth 20000 in
theorem ggX9_meritOf_X9_softOf : GoodIn wsX9_meritOf wsX9_softOf := goodIn_r _ [17, 10, 18, 19, 20, 21, 22, 23, 24, 25, 26, 27, 28, 29, 30, 31, 32, 33, 34, 35, 36, 37, 38, 39, 40, 41, 42, 43, 44] (by decide +kernel) (by decide +kernel)
set_option maxRecDepth 20000 in
theorem gX9_meritOf_X9_softOf : GoodIn wsX9_meritOf (wsV RX9 198 RX9 yX9_softOf wsX9_softOf) := goodIn_app (goodIn_of _ (by decide +kernel)) ggX9_meritOf_X9_softOf
theorem dX9_meritOf_0 : decode cX9_meritOf 0 = .ok (.iconst 0, 1) := by decide +kernel
theorem dX9_meritOf_1 : decode cX9_meritOf 1 = .ok (.istore_n 2, 1) := by decide +kernel
theorem dX9_meritOf_2 : decode cX9_meritOf 2 = .ok (.iconst 0, 1) := by decide +kernel
theorem dX9_meritOf_3 : decode cX9_meritOf 3 = .ok (.istore_n 3, 1) := by decide +kernel
theorem dX9_meritOf_4 : decode cX9_meritOf 4 = .ok (.iload_n 3, 1) := by decide +kernel
theorem dX9_meritOf_5 : decode cX9_meritOf 5 = .ok (.aload_n 0, 1) := by decide +kernel
theorem dX9_meritOf_6 : decode cX9_meritOf 6 = .ok (.invokevirtual 60, 3) := by decide +kernel
theorem dX9_meritOf_9 : decode cX9_meritOf 9 = .ok (.if_icmp .ge 34, 3) := by decide +kernel
theorem dX9_meritOf_12 : decode cX9_meritOf 12 = .ok (.iload_n 2, 1) := by decide +kernel
theorem dX9_meritOf_13 : decode cX9_meritOf 13 = .ok (.iload_n 1, 1) := by decide +kernel
theorem dX9_meritOf_14 : decode cX9_meritOf 14 = .ok (.iload_n 3, 1) := by decide +kernel
theorem dX9_meritOf_15 : decode cX9_meritOf 15 = .ok (.invokestatic 74, 3) := by decide +kernel
theorem dX9_meritOf_18 : decode cX9_meritOf 18 = .ok (.ifCond .eq 12, 3) := by decide +kernel
theorem dX9_meritOf_21 : decode cX9_meritOf 21 = .ok (.aload_n 0, 1) := by decide +kernel
theorem dX9_meritOf_22 : decode cX9_meritOf 22 = .ok (.iload_n 3, 1) := by decide +kernel
theorem dX9_meritOf_23 : decode cX9_meritOf 23 = .ok (.invokevirtual 198, 3) := by decide +kernel
theorem dX9_meritOf_26 : decode cX9_meritOf 26 = .ok (.ineg, 1) := by decide +kernel
theorem dX9_meritOf_27 : decode cX9_meritOf 27 = .ok (.goto 8, 3) := by decide +kernel
theorem dX9_meritOf_30 : decode cX9_meritOf 30 = .ok (.aload_n 0, 1) := by decide +kernel
theorem dX9_meritOf_31 : decode cX9_meritOf 31 = .ok (.iload_n 3, 1) := by decide +kernel
theorem dX9_meritOf_32 : decode cX9_meritOf 32 = .ok (.invokevirtual 198, 3) := by decide +kernel
theorem dX9_meritOf_35 : decode cX9_meritOf 35 = .ok (.iadd, 1) := by decide +kernel
theorem dX9_meritOf_36 : decode cX9_meritOf 36 = .ok (.istore_n 2, 1) := by decide +kernel
theorem dX9_meritOf_37 : decode cX9_meritOf 37 = .ok (.iinc 3 1, 3) := by decide +kernel
theorem dX9_meritOf_40 : decode cX9_meritOf 40 = .ok (.goto (-36), 3) := by decide +kernel
theorem dX9_meritOf_43 : decode cX9_meritOf 43 = .ok (.iload_n 2, 1) := by decide +kernel
theorem dX9_meritOf_44 : decode cX9_meritOf 44 = .ok (.ireturn, 1) := by decide +kernel
set_option maxRecDepth 20000 in
theorem ggX9_greatest_X9_many : GoodIn wsX9_greatest wsX9_many := goodIn_r _ [6, 7, 8, 9, 10, 5, 11, 12, 13, 14, 15, 16, 17, 18, 19, 20, 21, 22, 23, 24, 25, 26, 27, 28, 48, 49, 50, 51, 52, 53, 54, 55, 56, 57, 58, 59, 60, 61, 62, 63, 64, 65, 66, 67, 68, 69, 70, 71, 72, 73, 74] (by decide +kernel) (by decide +kernel)
set_option maxRecDepth 20000 in
theorem gX9_greatest_X9_many : GoodIn wsX9_greatest (wsV RX9 100 RX9 yX9_many wsX9_many) := goodIn_app (goodIn_of _ (by decide +kernel)) ggX9_greatest_X9_many
set_option maxRecDepth 20000 in
theorem ggX9_greatest_X9_laysBasis : GoodIn wsX9_greatest wsX9_laysBasis := goodIn_r _ [32, 1, 17, 2, 3, 4, 5, 6, 7, 8, 9, 10, 11, 12, 13, 14, 15, 16, 18, 19, 20, 21, 22, 23, 24, 25, 26, 27, 28, 33, 34, 35, 36, 48, 49, 50, 51, 52, 53, 54, 55, 56, 57, 58, 59, 60, 61, 62, 63, 64, 65, 66, 67, 68, 69, 70, 71, 72, 73, 74] (by decide +kernel) (by decide +kernel)
set_option maxRecDepth 20000 in
theorem gX9_greatest_X9_laysBasis : GoodIn wsX9_greatest (wsV RX9 176 RX9 yX9_laysBasis wsX9_laysBasis) := goodIn_app (goodIn_of _ (by decide +kernel)) ggX9_greatest_X9_laysBasis
set_option maxRecDepth 20000 in
theorem ggX9_greatest_X9_meritOf : GoodIn wsX9_greatest wsX9_meritOf := goodIn_r _ [40, 18, 19, 20, 5, 21, 22, 23, 24, 25, 12, 41, 42, 43, 44, 45, 46, 47, 48, 49, 50, 51, 52, 53, 54, 55, 56, 57, 58, 59, 60, 61, 62, 63, 64, 65, 66, 67, 68, 69, 70, 71, 72, 73, 74] (by decide +kernel) (by decide +kernel)
set_option maxRecDepth 20000 in
theorem gX9_greatest_X9_meritOf : GoodIn wsX9_greatest (wsV RX9 221 RX9 yX9_meritOf wsX9_meritOf) := goodIn_app (goodIn_of _ (by decide +kernel)) ggX9_greatest_X9_meritOf
set_option maxRecDepth 20000 in
theorem ggX9_greatest_X9_has : GoodIn wsX9_greatest wsX9_has := goodIn_r _ [43] (by decide +kernel) (by decide +kernel)
set_option maxRecDepth 20000 in
theorem gX9_greatest_X9_has : GoodIn wsX9_greatest (va_wsS RX9 74 yX9_has wsX9_has) := goodIn_app (goodIn_of _ (by decide +kernel)) ggX9_greatest_X9_has
theorem dX9_greatest_0 : decode cX9_greatest 0 = .ok (.iconst 0, 1) := by decide +kernel
theorem dX9_greatest_1 : decode cX9_greatest 1 = .ok (.istore_n 1, 1) := by decide +kernel
theorem dX9_greatest_2 : decode cX9_greatest 2 = .ok (.aload_n 0, 1) := by decide +kernel
theorem dX9_greatest_3 : decode cX9_greatest 3 = .ok (.invokevirtual 100, 3) := by decide +kernel
theorem dX9_greatest_6 : decode cX9_greatest 6 = .ok (.istore_n 2, 1) := by decide +kernel
theorem dX9_greatest_7 : decode cX9_greatest 7 = .ok (.aload_n 0, 1) := by decide +kernel
theorem dX9_greatest_8 : decode cX9_greatest 8 = .ok (.invokevirtual 176, 3) := by decide +kernel
theorem dX9_greatest_11 : decode cX9_greatest 11 = .ok (.aload_n 0, 1) := by decide +kernel
theorem dX9_greatest_12 : decode cX9_greatest 12 = .ok (.iconst 0, 1) := by decide +kernel
theorem dX9_greatest_13 : decode cX9_greatest 13 = .ok (.invokevirtual 221, 3) := by decide +kernel
theorem dX9_greatest_16 : decode cX9_greatest 16 = .ok (.istore_n 3, 1) := by decide +kernel
theorem dX9_greatest_17 : decode cX9_greatest 17 = .ok (.iconst 1, 1) := by decide +kernel
theorem dX9_greatest_18 : decode cX9_greatest 18 = .ok (.istore 4, 2) := by decide +kernel
theorem dX9_greatest_20 : decode cX9_greatest 20 = .ok (.iload 4, 2) := by decide +kernel
theorem dX9_greatest_22 : decode cX9_greatest 22 = .ok (.iconst 1, 1) := by decide +kernel
theorem dX9_greatest_23 : decode cX9_greatest 23 = .ok (.iload_n 2, 1) := by decide +kernel
theorem dX9_greatest_24 : decode cX9_greatest 24 = .ok (.ishl, 1) := by decide +kernel
theorem dX9_greatest_25 : decode cX9_greatest 25 = .ok (.if_icmp .ge 72, 3) := by decide +kernel
theorem dX9_greatest_28 : decode cX9_greatest 28 = .ok (.iload 4, 2) := by decide +kernel
theorem dX9_greatest_30 : decode cX9_greatest 30 = .ok (.iload 4, 2) := by decide +kernel
theorem dX9_greatest_32 : decode cX9_greatest 32 = .ok (.iconst 1, 1) := by decide +kernel
theorem dX9_greatest_33 : decode cX9_greatest 33 = .ok (.isub, 1) := by decide +kernel
theorem dX9_greatest_34 : decode cX9_greatest 34 = .ok (.ixor, 1) := by decide +kernel
theorem dX9_greatest_35 : decode cX9_greatest 35 = .ok (.istore 5, 2) := by decide +kernel
theorem dX9_greatest_37 : decode cX9_greatest 37 = .ok (.iconst 0, 1) := by decide +kernel
theorem dX9_greatest_38 : decode cX9_greatest 38 = .ok (.istore 6, 2) := by decide +kernel
theorem dX9_greatest_40 : decode cX9_greatest 40 = .ok (.iload 6, 2) := by decide +kernel
theorem dX9_greatest_42 : decode cX9_greatest 42 = .ok (.iload_n 2, 1) := by decide +kernel
theorem dX9_greatest_43 : decode cX9_greatest 43 = .ok (.if_icmp .ge 29, 3) := by decide +kernel
theorem dX9_greatest_46 : decode cX9_greatest 46 = .ok (.iload 5, 2) := by decide +kernel
theorem dX9_greatest_48 : decode cX9_greatest 48 = .ok (.iload 6, 2) := by decide +kernel
theorem dX9_greatest_50 : decode cX9_greatest 50 = .ok (.invokestatic 74, 3) := by decide +kernel
theorem dX9_greatest_53 : decode cX9_greatest 53 = .ok (.ifCond .eq 19, 3) := by decide +kernel
theorem dX9_greatest_56 : decode cX9_greatest 56 = .ok (.iload_n 1, 1) := by decide +kernel
theorem dX9_greatest_57 : decode cX9_greatest 57 = .ok (.aload_n 0, 1) := by decide +kernel
theorem dX9_greatest_58 : decode cX9_greatest 58 = .ok (.getfield 22, 3) := by decide +kernel
theorem dX9_greatest_61 : decode cX9_greatest 61 = .ok (.iload 6, 2) := by decide +kernel
theorem dX9_greatest_63 : decode cX9_greatest 63 = .ok (.iaload, 1) := by decide +kernel
theorem dX9_greatest_64 : decode cX9_greatest 64 = .ok (.ixor, 1) := by decide +kernel
theorem dX9_greatest_65 : decode cX9_greatest 65 = .ok (.istore_n 1, 1) := by decide +kernel
theorem dX9_greatest_66 : decode cX9_greatest 66 = .ok (.iinc 6 1, 3) := by decide +kernel
theorem dX9_greatest_69 : decode cX9_greatest 69 = .ok (.goto (-29), 3) := by decide +kernel
theorem dX9_greatest_72 : decode cX9_greatest 72 = .ok (.aload_n 0, 1) := by decide +kernel
theorem dX9_greatest_73 : decode cX9_greatest 73 = .ok (.iload_n 1, 1) := by decide +kernel
theorem dX9_greatest_74 : decode cX9_greatest 74 = .ok (.invokevirtual 221, 3) := by decide +kernel
theorem dX9_greatest_77 : decode cX9_greatest 77 = .ok (.iload_n 3, 1) := by decide +kernel
theorem dX9_greatest_78 : decode cX9_greatest 78 = .ok (.if_icmp .le 11, 3) := by decide +kernel
theorem dX9_greatest_81 : decode cX9_greatest 81 = .ok (.aload_n 0, 1) := by decide +kernel
theorem dX9_greatest_82 : decode cX9_greatest 82 = .ok (.iload_n 1, 1) := by decide +kernel
theorem dX9_greatest_83 : decode cX9_greatest 83 = .ok (.invokevirtual 221, 3) := by decide +kernel
theorem dX9_greatest_86 : decode cX9_greatest 86 = .ok (.goto 4, 3) := by decide +kernel
theorem dX9_greatest_89 : decode cX9_greatest 89 = .ok (.iload_n 3, 1) := by decide +kernel
theorem dX9_greatest_90 : decode cX9_greatest 90 = .ok (.istore_n 3, 1) := by decide +kernel
theorem dX9_greatest_91 : decode cX9_greatest 91 = .ok (.iinc 4 1, 3) := by decide +kernel
theorem dX9_greatest_94 : decode cX9_greatest 94 = .ok (.goto (-74), 3) := by decide +kernel
theorem dX9_greatest_97 : decode cX9_greatest 97 = .ok (.iload_n 3, 1) := by decide +kernel
theorem dX9_greatest_98 : decode cX9_greatest 98 = .ok (.ireturn, 1) := by decide +kernel
set_option maxRecDepth 20000 in
theorem ggX9_merit_X9_in : GoodIn wsX9_merit wsX9_in := goodIn_r _ [5] (by decide +kernel) (by decide +kernel)
set_option maxRecDepth 20000 in
theorem gX9_merit_X9_in : GoodIn wsX9_merit (va_wsS RX9 83 yX9_in wsX9_in) := goodIn_app (goodIn_of _ (by decide +kernel)) ggX9_merit_X9_in
set_option maxRecDepth 20000 in
theorem ggX9_merit_X9_bad : GoodIn wsX9_merit wsX9_bad := goodIn_r _ [9, 10, 99, 100, 101, 102, 103, 104, 105, 106, 107, 108, 109, 110, 111, 112, 113, 114, 115, 116, 117, 118, 119, 120, 121, 122, 123, 124, 125] (by decide +kernel) (by decide +kernel)
set_option maxRecDepth 20000 in
theorem gX9_merit_X9_bad : GoodIn wsX9_merit (wsV RX9 90 RX9 yX9_bad wsX9_bad) := goodIn_app (goodIn_of _ (by decide +kernel)) ggX9_merit_X9_bad
set_option maxRecDepth 20000 in
theorem ggX9_merit_X9_isFew : GoodIn wsX9_merit wsX9_isFew := goodIn_r _ [14, 15, 16, 17, 4, 18, 19, 20, 21, 22, 23, 24, 25, 26, 27, 28, 29, 30, 31, 32, 33, 34, 35, 36, 37, 38, 39, 40, 99, 100, 101, 102, 103, 104, 105, 106, 107, 108, 109, 110, 111, 112, 113, 114, 115, 116, 117, 118, 119, 120, 121, 122, 123, 124, 125] (by decide +kernel) (by decide +kernel)
set_option maxRecDepth 20000 in
theorem gX9_merit_X9_isFew : GoodIn wsX9_merit (wsV RX9 188 RX9 yX9_isFew wsX9_isFew) := goodIn_app (goodIn_of _ (by decide +kernel)) ggX9_merit_X9_isFew
set_option maxRecDepth 20000 in
theorem ggX9_merit_X9_no : GoodIn wsX9_merit wsX9_no := goodIn_r _ [44, 10, 99, 100, 101, 102, 103, 104, 105, 106, 107, 108, 109, 110, 111, 112, 113, 114, 115, 116, 117, 118, 119, 120, 121, 122, 123, 124, 125] (by decide +kernel) (by decide +kernel)
set_option maxRecDepth 20000 in
theorem gX9_merit_X9_no : GoodIn wsX9_merit (wsV RX9 192 RX9 yX9_no wsX9_no) := goodIn_app (goodIn_of _ (by decide +kernel)) ggX9_merit_X9_no
set_option maxRecDepth 20000 in
theorem ggX9_merit_X9_theWord : GoodIn wsX9_merit wsX9_theWord := goodIn_r _ [48, 24, 99, 100, 101, 102, 103, 104, 105, 106, 107, 108, 109, 110, 111, 112, 113, 114, 115, 116, 117, 118, 119, 120, 121, 122, 123, 124, 125] (by decide +kernel) (by decide +kernel)
set_option maxRecDepth 20000 in
theorem gX9_merit_X9_theWord : GoodIn wsX9_merit (wsV RX9 116 RX9 yX9_theWord wsX9_theWord) := goodIn_app (goodIn_of _ (by decide +kernel)) ggX9_merit_X9_theWord
set_option maxRecDepth 20000 in
theorem ggX9_merit_X9_meritOf : GoodIn wsX9_merit wsX9_meritOf := goodIn_r _ [52, 30, 31, 32, 4, 33, 34, 35, 36, 37, 24, 53, 54, 55, 56, 57, 58, 59, 99, 100, 101, 102, 103, 104, 105, 106, 107, 108, 109, 110, 111, 112, 113, 114, 115, 116, 117, 118, 119, 120, 121, 122, 123, 124, 125] (by decide +kernel) (by decide +kernel)
set_option maxRecDepth 20000 in
theorem gX9_merit_X9_meritOf : GoodIn wsX9_merit (wsV RX9 221 RX9 yX9_meritOf wsX9_meritOf) := goodIn_app (goodIn_of _ (by decide +kernel)) ggX9_merit_X9_meritOf
set_option maxRecDepth 20000 in
theorem ggX9_merit_X9_halvesOf : GoodIn wsX9_merit wsX9_halvesOf := goodIn_r _ [63, 64, 65, 66, 67, 68, 20, 21, 22, 4, 23, 24, 34, 35, 36, 37, 69, 70, 71, 72, 30, 31, 32, 33, 56, 57, 58, 59, 73, 74, 75, 76, 77, 78, 79, 80, 81, 82, 83, 84, 85, 53, 54, 55, 99, 100, 101, 102, 103, 104, 105, 106, 107, 108, 109, 110, 111, 112, 113, 114, 115, 116, 117, 118, 119, 120, 121, 122, 123, 124, 125] (by decide +kernel) (by decide +kernel)
set_option maxRecDepth 20000 in
theorem gX9_merit_X9_halvesOf : GoodIn wsX9_merit (wsV RX9 218 RX9 yX9_halvesOf wsX9_halvesOf) := goodIn_app (goodIn_of _ (by decide +kernel)) ggX9_merit_X9_halvesOf
set_option maxRecDepth 20000 in
theorem ggX9_merit_X9_greatest : GoodIn wsX9_merit wsX9_greatest := goodIn_r _ [89, 90, 15, 16, 17, 4, 18, 19, 20, 21, 22, 23, 24, 25, 26, 27, 28, 29, 30, 31, 32, 33, 34, 35, 36, 37, 38, 39, 40, 91, 92, 93, 94, 95, 96, 97, 98, 49, 50, 51, 52, 53, 54, 55, 56, 57, 58, 59, 99, 100, 101, 102, 103, 104, 105, 106, 107, 108, 109, 110, 111, 112, 113, 114, 115, 116, 117, 118, 119, 120, 121, 122, 123, 124, 125] (by decide +kernel) (by decide +kernel)
set_option maxRecDepth 20000 in
theorem gX9_merit_X9_greatest : GoodIn wsX9_merit (wsV RX9 224 RX9 yX9_greatest wsX9_greatest) := goodIn_app (goodIn_of _ (by decide +kernel)) ggX9_merit_X9_greatest
theorem dX9_merit_0 : decode cX9_merit 0 = .ok (.iload_n 1, 1) := by decide +kernel
theorem dX9_merit_1 : decode cX9_merit 1 = .ok (.i2l, 1) := by decide +kernel
theorem dX9_merit_2 : decode cX9_merit 2 = .ok (.lconst 0, 1) := by decide +kernel
theorem dX9_merit_3 : decode cX9_merit 3 = .ok (.ldc2_w 171, 3) := by decide +kernel
theorem dX9_merit_6 : decode cX9_merit 6 = .ok (.invokestatic 83, 3) := by decide +kernel
theorem dX9_merit_9 : decode cX9_merit 9 = .ok (.ifCond .ne 10, 3) := by decide +kernel
theorem dX9_merit_12 : decode cX9_merit 12 = .ok (.aload_n 0, 1) := by decide +kernel
theorem dX9_merit_13 : decode cX9_merit 13 = .ok (.bipush (-2), 2) := by decide +kernel
theorem dX9_merit_15 : decode cX9_merit 15 = .ok (.invokevirtual 90, 3) := by decide +kernel
theorem dX9_merit_18 : decode cX9_merit 18 = .ok (.ireturn, 1) := by decide +kernel
theorem dX9_merit_19 : decode cX9_merit 19 = .ok (.iload_n 1, 1) := by decide +kernel
theorem dX9_merit_20 : decode cX9_merit 20 = .ok (.iconst 2, 1) := by decide +kernel
theorem dX9_merit_21 : decode cX9_merit 21 = .ok (.if_icmp .ne 17, 3) := by decide +kernel
theorem dX9_merit_24 : decode cX9_merit 24 = .ok (.aload_n 0, 1) := by decide +kernel
theorem dX9_merit_25 : decode cX9_merit 25 = .ok (.invokevirtual 188, 3) := by decide +kernel
theorem dX9_merit_28 : decode cX9_merit 28 = .ok (.ifCond .ne 10, 3) := by decide +kernel
theorem dX9_merit_31 : decode cX9_merit 31 = .ok (.aload_n 0, 1) := by decide +kernel
theorem dX9_merit_32 : decode cX9_merit 32 = .ok (.bipush (-3), 2) := by decide +kernel
theorem dX9_merit_34 : decode cX9_merit 34 = .ok (.invokevirtual 192, 3) := by decide +kernel
theorem dX9_merit_37 : decode cX9_merit 37 = .ok (.ireturn, 1) := by decide +kernel
theorem dX9_merit_38 : decode cX9_merit 38 = .ok (.iload_n 1, 1) := by decide +kernel
theorem dX9_merit_39 : decode cX9_merit 39 = .ok (.ifCond .ne 14, 3) := by decide +kernel
theorem dX9_merit_42 : decode cX9_merit 42 = .ok (.aload_n 0, 1) := by decide +kernel
theorem dX9_merit_43 : decode cX9_merit 43 = .ok (.aload_n 0, 1) := by decide +kernel
theorem dX9_merit_44 : decode cX9_merit 44 = .ok (.invokevirtual 116, 3) := by decide +kernel
theorem dX9_merit_47 : decode cX9_merit 47 = .ok (.invokevirtual 221, 3) := by decide +kernel
theorem dX9_merit_50 : decode cX9_merit 50 = .ok (.goto 23, 3) := by decide +kernel
theorem dX9_merit_53 : decode cX9_merit 53 = .ok (.iload_n 1, 1) := by decide +kernel
theorem dX9_merit_54 : decode cX9_merit 54 = .ok (.iconst 1, 1) := by decide +kernel
theorem dX9_merit_55 : decode cX9_merit 55 = .ok (.if_icmp .ne 14, 3) := by decide +kernel
theorem dX9_merit_58 : decode cX9_merit 58 = .ok (.aload_n 0, 1) := by decide +kernel
theorem dX9_merit_59 : decode cX9_merit 59 = .ok (.aload_n 0, 1) := by decide +kernel
theorem dX9_merit_60 : decode cX9_merit 60 = .ok (.invokevirtual 218, 3) := by decide +kernel
theorem dX9_merit_63 : decode cX9_merit 63 = .ok (.invokevirtual 221, 3) := by decide +kernel
theorem dX9_merit_66 : decode cX9_merit 66 = .ok (.goto 7, 3) := by decide +kernel
theorem dX9_merit_69 : decode cX9_merit 69 = .ok (.aload_n 0, 1) := by decide +kernel
theorem dX9_merit_70 : decode cX9_merit 70 = .ok (.invokevirtual 224, 3) := by decide +kernel
theorem dX9_merit_73 : decode cX9_merit 73 = .ok (.ireturn, 1) := by decide +kernel
set_option maxRecDepth 20000 in
theorem ggX9_weights_X9_in : GoodIn wsX9_weights wsX9_in := goodIn_r _ [6] (by decide +kernel) (by decide +kernel)
set_option maxRecDepth 20000 in
theorem gX9_weights_X9_in : GoodIn wsX9_weights (va_wsS RX9 83 yX9_in wsX9_in) := goodIn_app (goodIn_of _ (by decide +kernel)) ggX9_weights_X9_in
set_option maxRecDepth 20000 in
theorem ggX9_weights_X9_bad : GoodIn wsX9_weights wsX9_bad := goodIn_r _ [10, 11, 57, 58, 59, 60, 61, 62, 63, 64, 65, 66, 67, 68, 69, 70, 71, 72, 73, 74, 75, 76, 77, 78, 79, 80, 81, 82, 83] (by decide +kernel) (by decide +kernel)
set_option maxRecDepth 20000 in
theorem gX9_weights_X9_bad : GoodIn wsX9_weights (wsV RX9 90 RX9 yX9_bad wsX9_bad) := goodIn_app (goodIn_of _ (by decide +kernel)) ggX9_weights_X9_bad
set_option maxRecDepth 20000 in
theorem ggX9_weights_X9_isFew : GoodIn wsX9_weights wsX9_isFew := goodIn_r _ [15, 16, 17, 18, 5, 19, 20, 21, 22, 23, 24, 25, 26, 27, 28, 29, 30, 31, 32, 33, 34, 35, 36, 37, 38, 39, 40, 41, 57, 58, 59, 60, 61, 62, 63, 64, 65, 66, 67, 68, 69, 70, 71, 72, 73, 74, 75, 76, 77, 78, 79, 80, 81, 82, 83] (by decide +kernel) (by decide +kernel)
set_option maxRecDepth 20000 in
theorem gX9_weights_X9_isFew : GoodIn wsX9_weights (wsV RX9 188 RX9 yX9_isFew wsX9_isFew) := goodIn_app (goodIn_of _ (by decide +kernel)) ggX9_weights_X9_isFew
set_option maxRecDepth 20000 in
theorem ggX9_weights_X9_no : GoodIn wsX9_weights wsX9_no := goodIn_r _ [45, 11, 57, 58, 59, 60, 61, 62, 63, 64, 65, 66, 67, 68, 69, 70, 71, 72, 73, 74, 75, 76, 77, 78, 79, 80, 81, 82, 83] (by decide +kernel) (by decide +kernel)
set_option maxRecDepth 20000 in
theorem gX9_weights_X9_no : GoodIn wsX9_weights (wsV RX9 192 RX9 yX9_no wsX9_no) := goodIn_app (goodIn_of _ (by decide +kernel)) ggX9_weights_X9_no
set_option maxRecDepth 20000 in
theorem ggX9_weights_X9_many : GoodIn wsX9_weights wsX9_many := goodIn_r _ [19, 20, 21, 22, 23, 5, 24, 25, 26, 27, 28, 29, 30, 31, 32, 33, 34, 35, 36, 37, 38, 39, 40, 41, 57, 58, 59, 60, 61, 62, 63, 64, 65, 66, 67, 68, 69, 70, 71, 72, 73, 74, 75, 76, 77, 78, 79, 80, 81, 82, 83] (by decide +kernel) (by decide +kernel)
set_option maxRecDepth 20000 in
theorem gX9_weights_X9_many : GoodIn wsX9_weights (wsV RX9 100 RX9 yX9_many wsX9_many) := goodIn_app (goodIn_of _ (by decide +kernel)) ggX9_weights_X9_many
set_option maxRecDepth 20000 in
theorem ggX9_weights_X9_laysBasis : GoodIn wsX9_weights wsX9_laysBasis := goodIn_r _ [49, 2, 30, 16, 17, 18, 5, 19, 20, 21, 22, 23, 24, 25, 26, 27, 28, 29, 31, 32, 33, 34, 35, 36, 37, 38, 39, 40, 41, 50, 51, 52, 53, 57, 58, 59, 60, 61, 62, 63, 64, 65, 66, 67, 68, 69, 70, 71, 72, 73, 74, 75, 76, 77, 78, 79, 80, 81, 82, 83] (by decide +kernel) (by decide +kernel)
set_option maxRecDepth 20000 in
theorem gX9_weights_X9_laysBasis : GoodIn wsX9_weights (wsV RX9 176 RX9 yX9_laysBasis wsX9_laysBasis) := goodIn_app (goodIn_of _ (by decide +kernel)) ggX9_weights_X9_laysBasis
set_option maxRecDepth 20000 in
theorem ggX9_weights_X9_has : GoodIn wsX9_weights wsX9_has := goodIn_r _ [56] (by decide +kernel) (by decide +kernel)
set_option maxRecDepth 20000 in
theorem gX9_weights_X9_has : GoodIn wsX9_weights (va_wsS RX9 74 yX9_has wsX9_has) := goodIn_app (goodIn_of _ (by decide +kernel)) ggX9_weights_X9_has
set_option maxRecDepth 20000 in
theorem ggX9_weights_X9_bits : GoodIn wsX9_weights wsX9_bits := goodIn_r _ [41] (by decide +kernel) (by decide +kernel)
set_option maxRecDepth 20000 in
theorem gX9_weights_X9_bits : GoodIn wsX9_weights (va_wsS RX9 63 yX9_bits wsX9_bits) := goodIn_app (goodIn_of _ (by decide +kernel)) ggX9_weights_X9_bits
theorem dX9_weights_0 : decode cX9_weights 0 = .ok (.iload_n 1, 1) := by decide +kernel
theorem dX9_weights_1 : decode cX9_weights 1 = .ok (.i2l, 1) := by decide +kernel
theorem dX9_weights_2 : decode cX9_weights 2 = .ok (.lconst 0, 1) := by decide +kernel
theorem dX9_weights_3 : decode cX9_weights 3 = .ok (.ldc2_w 227, 3) := by decide +kernel
theorem dX9_weights_6 : decode cX9_weights 6 = .ok (.invokestatic 83, 3) := by decide +kernel
theorem dX9_weights_9 : decode cX9_weights 9 = .ok (.ifCond .ne 10, 3) := by decide +kernel
theorem dX9_weights_12 : decode cX9_weights 12 = .ok (.aload_n 0, 1) := by decide +kernel
theorem dX9_weights_13 : decode cX9_weights 13 = .ok (.bipush (-2), 2) := by decide +kernel
theorem dX9_weights_15 : decode cX9_weights 15 = .ok (.invokevirtual 90, 3) := by decide +kernel
theorem dX9_weights_18 : decode cX9_weights 18 = .ok (.ireturn, 1) := by decide +kernel
theorem dX9_weights_19 : decode cX9_weights 19 = .ok (.aload_n 0, 1) := by decide +kernel
theorem dX9_weights_20 : decode cX9_weights 20 = .ok (.invokevirtual 188, 3) := by decide +kernel
theorem dX9_weights_23 : decode cX9_weights 23 = .ok (.ifCond .ne 10, 3) := by decide +kernel
theorem dX9_weights_26 : decode cX9_weights 26 = .ok (.aload_n 0, 1) := by decide +kernel
theorem dX9_weights_27 : decode cX9_weights 27 = .ok (.bipush (-3), 2) := by decide +kernel
theorem dX9_weights_29 : decode cX9_weights 29 = .ok (.invokevirtual 192, 3) := by decide +kernel
theorem dX9_weights_32 : decode cX9_weights 32 = .ok (.ireturn, 1) := by decide +kernel
theorem dX9_weights_33 : decode cX9_weights 33 = .ok (.iconst 0, 1) := by decide +kernel
theorem dX9_weights_34 : decode cX9_weights 34 = .ok (.istore_n 2, 1) := by decide +kernel
theorem dX9_weights_35 : decode cX9_weights 35 = .ok (.aload_n 0, 1) := by decide +kernel
theorem dX9_weights_36 : decode cX9_weights 36 = .ok (.invokevirtual 100, 3) := by decide +kernel
theorem dX9_weights_39 : decode cX9_weights 39 = .ok (.istore_n 3, 1) := by decide +kernel
theorem dX9_weights_40 : decode cX9_weights 40 = .ok (.iload_n 1, 1) := by decide +kernel
theorem dX9_weights_41 : decode cX9_weights 41 = .ok (.ifCond .ne 7, 3) := by decide +kernel
theorem dX9_weights_44 : decode cX9_weights 44 = .ok (.iconst 1, 1) := by decide +kernel
theorem dX9_weights_45 : decode cX9_weights 45 = .ok (.goto 4, 3) := by decide +kernel
theorem dX9_weights_48 : decode cX9_weights 48 = .ok (.iconst 0, 1) := by decide +kernel
theorem dX9_weights_49 : decode cX9_weights 49 = .ok (.istore 4, 2) := by decide +kernel
theorem dX9_weights_51 : decode cX9_weights 51 = .ok (.aload_n 0, 1) := by decide +kernel
theorem dX9_weights_52 : decode cX9_weights 52 = .ok (.invokevirtual 176, 3) := by decide +kernel
theorem dX9_weights_55 : decode cX9_weights 55 = .ok (.iconst 1, 1) := by decide +kernel
theorem dX9_weights_56 : decode cX9_weights 56 = .ok (.istore 5, 2) := by decide +kernel
theorem dX9_weights_58 : decode cX9_weights 58 = .ok (.iload 5, 2) := by decide +kernel
theorem dX9_weights_60 : decode cX9_weights 60 = .ok (.iconst 1, 1) := by decide +kernel
theorem dX9_weights_61 : decode cX9_weights 61 = .ok (.iload_n 3, 1) := by decide +kernel
theorem dX9_weights_62 : decode cX9_weights 62 = .ok (.ishl, 1) := by decide +kernel
theorem dX9_weights_63 : decode cX9_weights 63 = .ok (.if_icmp .ge 71, 3) := by decide +kernel
theorem dX9_weights_66 : decode cX9_weights 66 = .ok (.iload 5, 2) := by decide +kernel
theorem dX9_weights_68 : decode cX9_weights 68 = .ok (.iload 5, 2) := by decide +kernel
theorem dX9_weights_70 : decode cX9_weights 70 = .ok (.iconst 1, 1) := by decide +kernel
theorem dX9_weights_71 : decode cX9_weights 71 = .ok (.isub, 1) := by decide +kernel
theorem dX9_weights_72 : decode cX9_weights 72 = .ok (.ixor, 1) := by decide +kernel
theorem dX9_weights_73 : decode cX9_weights 73 = .ok (.istore 6, 2) := by decide +kernel
theorem dX9_weights_75 : decode cX9_weights 75 = .ok (.iconst 0, 1) := by decide +kernel
theorem dX9_weights_76 : decode cX9_weights 76 = .ok (.istore 7, 2) := by decide +kernel
theorem dX9_weights_78 : decode cX9_weights 78 = .ok (.iload 7, 2) := by decide +kernel
theorem dX9_weights_80 : decode cX9_weights 80 = .ok (.iload_n 3, 1) := by decide +kernel
theorem dX9_weights_81 : decode cX9_weights 81 = .ok (.if_icmp .ge 29, 3) := by decide +kernel
theorem dX9_weights_84 : decode cX9_weights 84 = .ok (.iload 6, 2) := by decide +kernel
theorem dX9_weights_86 : decode cX9_weights 86 = .ok (.iload 7, 2) := by decide +kernel
theorem dX9_weights_88 : decode cX9_weights 88 = .ok (.invokestatic 74, 3) := by decide +kernel
theorem dX9_weights_91 : decode cX9_weights 91 = .ok (.ifCond .eq 19, 3) := by decide +kernel
theorem dX9_weights_94 : decode cX9_weights 94 = .ok (.iload_n 2, 1) := by decide +kernel
theorem dX9_weights_95 : decode cX9_weights 95 = .ok (.aload_n 0, 1) := by decide +kernel
theorem dX9_weights_96 : decode cX9_weights 96 = .ok (.getfield 22, 3) := by decide +kernel
theorem dX9_weights_99 : decode cX9_weights 99 = .ok (.iload 7, 2) := by decide +kernel
theorem dX9_weights_101 : decode cX9_weights 101 = .ok (.iaload, 1) := by decide +kernel
theorem dX9_weights_102 : decode cX9_weights 102 = .ok (.ixor, 1) := by decide +kernel
theorem dX9_weights_103 : decode cX9_weights 103 = .ok (.istore_n 2, 1) := by decide +kernel
theorem dX9_weights_104 : decode cX9_weights 104 = .ok (.iinc 7 1, 3) := by decide +kernel
theorem dX9_weights_107 : decode cX9_weights 107 = .ok (.goto (-29), 3) := by decide +kernel
theorem dX9_weights_110 : decode cX9_weights 110 = .ok (.iload 4, 2) := by decide +kernel
theorem dX9_weights_112 : decode cX9_weights 112 = .ok (.iload_n 2, 1) := by decide +kernel
theorem dX9_weights_113 : decode cX9_weights 113 = .ok (.invokestatic 63, 3) := by decide +kernel
theorem dX9_weights_116 : decode cX9_weights 116 = .ok (.iload_n 1, 1) := by decide +kernel
theorem dX9_weights_117 : decode cX9_weights 117 = .ok (.if_icmp .ne 7, 3) := by decide +kernel
theorem dX9_weights_120 : decode cX9_weights 120 = .ok (.iconst 1, 1) := by decide +kernel
theorem dX9_weights_121 : decode cX9_weights 121 = .ok (.goto 4, 3) := by decide +kernel
theorem dX9_weights_124 : decode cX9_weights 124 = .ok (.iconst 0, 1) := by decide +kernel
theorem dX9_weights_125 : decode cX9_weights 125 = .ok (.iadd, 1) := by decide +kernel
theorem dX9_weights_126 : decode cX9_weights 126 = .ok (.istore 4, 2) := by decide +kernel
theorem dX9_weights_128 : decode cX9_weights 128 = .ok (.iinc 5 1, 3) := by decide +kernel
theorem dX9_weights_131 : decode cX9_weights 131 = .ok (.goto (-73), 3) := by decide +kernel
theorem dX9_weights_134 : decode cX9_weights 134 = .ok (.iload 4, 2) := by decide +kernel
theorem dX9_weights_136 : decode cX9_weights 136 = .ok (.ireturn, 1) := by decide +kernel
set_option maxRecDepth 20000 in
theorem ggX9_perpendicular_X9_many : GoodIn wsX9_perpendicular wsX9_many := goodIn_r _ [6, 7, 8, 9, 10, 5, 11, 12, 13, 14, 15, 16, 1, 17, 18, 19, 20, 21, 22, 23, 24, 25, 26, 27, 36, 37, 38, 39, 40, 41, 42, 43, 44, 45, 46, 47, 48, 49, 50, 51, 52, 53, 54, 55, 56, 57, 58, 59, 60, 61, 62] (by decide +kernel) (by decide +kernel)
set_option maxRecDepth 20000 in
theorem gX9_perpendicular_X9_many : GoodIn wsX9_perpendicular (wsV RX9 100 RX9 yX9_many wsX9_many) := goodIn_app (goodIn_of _ (by decide +kernel)) ggX9_perpendicular_X9_many
set_option maxRecDepth 20000 in
theorem ggX9_perpendicular_X9_theWord : GoodIn wsX9_perpendicular wsX9_theWord := goodIn_r _ [31, 12, 36, 37, 38, 39, 40, 41, 42, 43, 44, 45, 46, 47, 48, 49, 50, 51, 52, 53, 54, 55, 56, 57, 58, 59, 60, 61, 62] (by decide +kernel) (by decide +kernel)
set_option maxRecDepth 20000 in
theorem gX9_perpendicular_X9_theWord : GoodIn wsX9_perpendicular (wsV RX9 116 RX9 yX9_theWord wsX9_theWord) := goodIn_app (goodIn_of _ (by decide +kernel)) ggX9_perpendicular_X9_theWord
set_option maxRecDepth 20000 in
theorem ggX9_perpendicular_X9_wordOf : GoodIn wsX9_perpendicular wsX9_wordOf := goodIn_r _ [35, 17, 18, 19, 5, 20, 21, 22, 23, 24, 12, 36, 37, 38, 39, 40, 41, 42, 43, 44, 45, 46, 47, 48, 49, 50, 51, 52, 53, 54, 55, 56, 57, 58, 59, 60, 61, 62] (by decide +kernel) (by decide +kernel)
set_option maxRecDepth 20000 in
theorem gX9_perpendicular_X9_wordOf : GoodIn wsX9_perpendicular (wsV RX9 78 RX9 yX9_wordOf wsX9_wordOf) := goodIn_app (goodIn_of _ (by decide +kernel)) ggX9_perpendicular_X9_wordOf
set_option maxRecDepth 20000 in
theorem ggX9_perpendicular_X9_bits : GoodIn wsX9_perpendicular wsX9_bits := goodIn_r _ [27] (by decide +kernel) (by decide +kernel)
set_option maxRecDepth 20000 in
theorem gX9_perpendicular_X9_bits : GoodIn wsX9_perpendicular (va_wsS RX9 63 yX9_bits wsX9_bits) := goodIn_app (goodIn_of _ (by decide +kernel)) ggX9_perpendicular_X9_bits
theorem dX9_perpendicular_0 : decode cX9_perpendicular 0 = .ok (.aload_n 0, 1) := by decide +kernel
theorem dX9_perpendicular_1 : decode cX9_perpendicular 1 = .ok (.invokevirtual 100, 3) := by decide +kernel
theorem dX9_perpendicular_4 : decode cX9_perpendicular 4 = .ok (.istore_n 1, 1) := by decide +kernel
theorem dX9_perpendicular_5 : decode cX9_perpendicular 5 = .ok (.iconst 1, 1) := by decide +kernel
theorem dX9_perpendicular_6 : decode cX9_perpendicular 6 = .ok (.istore_n 2, 1) := by decide +kernel
theorem dX9_perpendicular_7 : decode cX9_perpendicular 7 = .ok (.iconst 0, 1) := by decide +kernel
theorem dX9_perpendicular_8 : decode cX9_perpendicular 8 = .ok (.istore_n 3, 1) := by decide +kernel
theorem dX9_perpendicular_9 : decode cX9_perpendicular 9 = .ok (.iload_n 3, 1) := by decide +kernel
theorem dX9_perpendicular_10 : decode cX9_perpendicular 10 = .ok (.iload_n 1, 1) := by decide +kernel
theorem dX9_perpendicular_11 : decode cX9_perpendicular 11 = .ok (.if_icmp .ge 39, 3) := by decide +kernel
theorem dX9_perpendicular_14 : decode cX9_perpendicular 14 = .ok (.aload_n 0, 1) := by decide +kernel
theorem dX9_perpendicular_15 : decode cX9_perpendicular 15 = .ok (.invokevirtual 116, 3) := by decide +kernel
theorem dX9_perpendicular_18 : decode cX9_perpendicular 18 = .ok (.aload_n 0, 1) := by decide +kernel
theorem dX9_perpendicular_19 : decode cX9_perpendicular 19 = .ok (.aload_n 0, 1) := by decide +kernel
theorem dX9_perpendicular_20 : decode cX9_perpendicular 20 = .ok (.getfield 19, 3) := by decide +kernel
theorem dX9_perpendicular_23 : decode cX9_perpendicular 23 = .ok (.iload_n 3, 1) := by decide +kernel
theorem dX9_perpendicular_24 : decode cX9_perpendicular 24 = .ok (.iaload, 1) := by decide +kernel
theorem dX9_perpendicular_25 : decode cX9_perpendicular 25 = .ok (.invokevirtual 78, 3) := by decide +kernel
theorem dX9_perpendicular_28 : decode cX9_perpendicular 28 = .ok (.iand, 1) := by decide +kernel
theorem dX9_perpendicular_29 : decode cX9_perpendicular 29 = .ok (.invokestatic 63, 3) := by decide +kernel
theorem dX9_perpendicular_32 : decode cX9_perpendicular 32 = .ok (.iconst 1, 1) := by decide +kernel
theorem dX9_perpendicular_33 : decode cX9_perpendicular 33 = .ok (.iand, 1) := by decide +kernel
theorem dX9_perpendicular_34 : decode cX9_perpendicular 34 = .ok (.iconst 1, 1) := by decide +kernel
theorem dX9_perpendicular_35 : decode cX9_perpendicular 35 = .ok (.if_icmp .ne 7, 3) := by decide +kernel
theorem dX9_perpendicular_38 : decode cX9_perpendicular 38 = .ok (.iconst 0, 1) := by decide +kernel
theorem dX9_perpendicular_39 : decode cX9_perpendicular 39 = .ok (.goto 4, 3) := by decide +kernel
theorem dX9_perpendicular_42 : decode cX9_perpendicular 42 = .ok (.iload_n 2, 1) := by decide +kernel
theorem dX9_perpendicular_43 : decode cX9_perpendicular 43 = .ok (.istore_n 2, 1) := by decide +kernel
theorem dX9_perpendicular_44 : decode cX9_perpendicular 44 = .ok (.iinc 3 1, 3) := by decide +kernel
theorem dX9_perpendicular_47 : decode cX9_perpendicular 47 = .ok (.goto (-38), 3) := by decide +kernel
theorem dX9_perpendicular_50 : decode cX9_perpendicular 50 = .ok (.iload_n 2, 1) := by decide +kernel
theorem dX9_perpendicular_51 : decode cX9_perpendicular 51 = .ok (.ireturn, 1) := by decide +kernel
set_option maxRecDepth 20000 in
theorem ggX9_around_X9_places : GoodIn wsX9_around wsX9_places := goodIn_r _ [5, 6, 7, 8, 4, 9, 10, 15, 16, 17, 18, 19, 20, 21, 22, 23, 24, 25, 26, 27, 28, 29, 30, 31, 32, 33, 34, 35, 36, 37, 38, 39, 40, 41] (by decide +kernel) (by decide +kernel)
set_option maxRecDepth 20000 in
theorem gX9_around_X9_places : GoodIn wsX9_around (wsV RX9 60 RX9 yX9_places wsX9_places) := goodIn_app (goodIn_of _ (by decide +kernel)) ggX9_around_X9_places
set_option maxRecDepth 20000 in
theorem ggX9_around_X9_theWord : GoodIn wsX9_around wsX9_theWord := goodIn_r _ [14, 10, 15, 16, 17, 18, 19, 20, 21, 22, 23, 24, 25, 26, 27, 28, 29, 30, 31, 32, 33, 34, 35, 36, 37, 38, 39, 40, 41] (by decide +kernel) (by decide +kernel)
set_option maxRecDepth 20000 in
theorem gX9_around_X9_theWord : GoodIn wsX9_around (wsV RX9 116 RX9 yX9_theWord wsX9_theWord) := goodIn_app (goodIn_of _ (by decide +kernel)) ggX9_around_X9_theWord
theorem dX9_around_0 : decode cX9_around 0 = .ok (.iconst 0, 1) := by decide +kernel
theorem dX9_around_1 : decode cX9_around 1 = .ok (.istore_n 3, 1) := by decide +kernel
theorem dX9_around_2 : decode cX9_around 2 = .ok (.iconst 0, 1) := by decide +kernel
theorem dX9_around_3 : decode cX9_around 3 = .ok (.istore 4, 2) := by decide +kernel
theorem dX9_around_5 : decode cX9_around 5 = .ok (.iload 4, 2) := by decide +kernel
theorem dX9_around_7 : decode cX9_around 7 = .ok (.aload_n 0, 1) := by decide +kernel
theorem dX9_around_8 : decode cX9_around 8 = .ok (.invokevirtual 60, 3) := by decide +kernel
theorem dX9_around_11 : decode cX9_around 11 = .ok (.if_icmp .ge 45, 3) := by decide +kernel
theorem dX9_around_14 : decode cX9_around 14 = .ok (.iload 4, 2) := by decide +kernel
theorem dX9_around_16 : decode cX9_around 16 = .ok (.iload_n 1, 1) := by decide +kernel
theorem dX9_around_17 : decode cX9_around 17 = .ok (.ixor, 1) := by decide +kernel
theorem dX9_around_18 : decode cX9_around 18 = .ok (.istore 5, 2) := by decide +kernel
theorem dX9_around_20 : decode cX9_around 20 = .ok (.iload_n 3, 1) := by decide +kernel
theorem dX9_around_21 : decode cX9_around 21 = .ok (.iload 5, 2) := by decide +kernel
theorem dX9_around_23 : decode cX9_around 23 = .ok (.ifCond .eq 24, 3) := by decide +kernel
theorem dX9_around_26 : decode cX9_around 26 = .ok (.iload 5, 2) := by decide +kernel
theorem dX9_around_28 : decode cX9_around 28 = .ok (.iload_n 2, 1) := by decide +kernel
theorem dX9_around_29 : decode cX9_around 29 = .ok (.iconst (-1), 1) := by decide +kernel
theorem dX9_around_30 : decode cX9_around 30 = .ok (.ixor, 1) := by decide +kernel
theorem dX9_around_31 : decode cX9_around 31 = .ok (.iand, 1) := by decide +kernel
theorem dX9_around_32 : decode cX9_around 32 = .ok (.ifCond .ne 15, 3) := by decide +kernel
theorem dX9_around_35 : decode cX9_around 35 = .ok (.aload_n 0, 1) := by decide +kernel
theorem dX9_around_36 : decode cX9_around 36 = .ok (.invokevirtual 116, 3) := by decide +kernel
theorem dX9_around_39 : decode cX9_around 39 = .ok (.iload 4, 2) := by decide +kernel
theorem dX9_around_41 : decode cX9_around 41 = .ok (.ishr, 1) := by decide +kernel
theorem dX9_around_42 : decode cX9_around 42 = .ok (.iconst 1, 1) := by decide +kernel
theorem dX9_around_43 : decode cX9_around 43 = .ok (.iand, 1) := by decide +kernel
theorem dX9_around_44 : decode cX9_around 44 = .ok (.goto 4, 3) := by decide +kernel
theorem dX9_around_47 : decode cX9_around 47 = .ok (.iconst 0, 1) := by decide +kernel
theorem dX9_around_48 : decode cX9_around 48 = .ok (.ixor, 1) := by decide +kernel
theorem dX9_around_49 : decode cX9_around 49 = .ok (.istore_n 3, 1) := by decide +kernel
theorem dX9_around_50 : decode cX9_around 50 = .ok (.iinc 4 1, 3) := by decide +kernel
theorem dX9_around_53 : decode cX9_around 53 = .ok (.goto (-48), 3) := by decide +kernel
theorem dX9_around_56 : decode cX9_around 56 = .ok (.iload_n 3, 1) := by decide +kernel
theorem dX9_around_57 : decode cX9_around 57 = .ok (.ireturn, 1) := by decide +kernel
set_option maxRecDepth 20000 in
theorem ggX9_asked_X9_isPlace : GoodIn wsX9_asked wsX9_isPlace := goodIn_r _ [5, 6, 7, 8, 4, 9, 10, 11, 12, 13, 14, 15, 16, 17, 42, 43, 44, 45, 46, 47, 48, 49, 50, 51, 52, 53, 54, 55, 56, 57, 58, 59, 60, 61, 62, 63, 64, 65, 66, 67, 68] (by decide +kernel) (by decide +kernel)
set_option maxRecDepth 20000 in
theorem gX9_asked_X9_isPlace : GoodIn wsX9_asked (wsV RX9 122 RX9 yX9_isPlace wsX9_isPlace) := goodIn_app (goodIn_of _ (by decide +kernel)) ggX9_asked_X9_isPlace
set_option maxRecDepth 20000 in
theorem ggX9_asked_X9_bad : GoodIn wsX9_asked wsX9_bad := goodIn_r _ [21, 22, 42, 43, 44, 45, 46, 47, 48, 49, 50, 51, 52, 53, 54, 55, 56, 57, 58, 59, 60, 61, 62, 63, 64, 65, 66, 67, 68] (by decide +kernel) (by decide +kernel)
set_option maxRecDepth 20000 in
theorem gX9_asked_X9_bad : GoodIn wsX9_asked (wsV RX9 90 RX9 yX9_bad wsX9_bad) := goodIn_app (goodIn_of _ (by decide +kernel)) ggX9_asked_X9_bad
set_option maxRecDepth 20000 in
theorem ggX9_asked_X9_order : GoodIn wsX9_asked wsX9_order := goodIn_r _ [26, 14, 42, 43, 44, 45, 46, 47, 48, 49, 50, 51, 52, 53, 54, 55, 56, 57, 58, 59, 60, 61, 62, 63, 64, 65, 66, 67, 68] (by decide +kernel) (by decide +kernel)
set_option maxRecDepth 20000 in
theorem gX9_asked_X9_order : GoodIn wsX9_asked (wsV RX9 67 RX9 yX9_order wsX9_order) := goodIn_app (goodIn_of _ (by decide +kernel)) ggX9_asked_X9_order
set_option maxRecDepth 20000 in
theorem ggX9_asked_X9_length : GoodIn wsX9_asked wsX9_length := goodIn_r _ [13, 14, 42, 43, 44, 45, 46, 47, 48, 49, 50, 51, 52, 53, 54, 55, 56, 57, 58, 59, 60, 61, 62, 63, 64, 65, 66, 67, 68] (by decide +kernel) (by decide +kernel)
set_option maxRecDepth 20000 in
theorem gX9_asked_X9_length : GoodIn wsX9_asked (wsV RX9 49 RX9 yX9_length wsX9_length) := goodIn_app (goodIn_of _ (by decide +kernel)) ggX9_asked_X9_length
set_option maxRecDepth 20000 in
theorem ggX9_asked_X9_no : GoodIn wsX9_asked wsX9_no := goodIn_r _ [30, 22, 42, 43, 44, 45, 46, 47, 48, 49, 50, 51, 52, 53, 54, 55, 56, 57, 58, 59, 60, 61, 62, 63, 64, 65, 66, 67, 68] (by decide +kernel) (by decide +kernel)
set_option maxRecDepth 20000 in
theorem gX9_asked_X9_no : GoodIn wsX9_asked (wsV RX9 192 RX9 yX9_no wsX9_no) := goodIn_app (goodIn_of _ (by decide +kernel)) ggX9_asked_X9_no
set_option maxRecDepth 20000 in
theorem ggX9_asked_X9_places : GoodIn wsX9_asked wsX9_places := goodIn_r _ [9, 10, 11, 12, 4, 13, 14, 42, 43, 44, 45, 46, 47, 48, 49, 50, 51, 52, 53, 54, 55, 56, 57, 58, 59, 60, 61, 62, 63, 64, 65, 66, 67, 68] (by decide +kernel) (by decide +kernel)
set_option maxRecDepth 20000 in
theorem gX9_asked_X9_places : GoodIn wsX9_asked (wsV RX9 60 RX9 yX9_places wsX9_places) := goodIn_app (goodIn_of _ (by decide +kernel)) ggX9_asked_X9_places
set_option maxRecDepth 20000 in
theorem ggX9_asked_X9_bits : GoodIn wsX9_asked wsX9_bits := goodIn_r _ [33] (by decide +kernel) (by decide +kernel)
set_option maxRecDepth 20000 in
theorem gX9_asked_X9_bits : GoodIn wsX9_asked (va_wsS RX9 63 yX9_bits wsX9_bits) := goodIn_app (goodIn_of _ (by decide +kernel)) ggX9_asked_X9_bits
set_option maxRecDepth 20000 in
theorem ggX9_asked_X9_around : GoodIn wsX9_asked wsX9_around := goodIn_r _ [37, 6, 7, 8, 4, 9, 10, 11, 12, 13, 14, 38, 39, 40, 41, 42, 43, 44, 45, 46, 47, 48, 49, 50, 51, 52, 53, 54, 55, 56, 57, 58, 59, 60, 61, 62, 63, 64, 65, 66, 67, 68] (by decide +kernel) (by decide +kernel)
set_option maxRecDepth 20000 in
theorem gX9_asked_X9_around : GoodIn wsX9_asked (wsV RX9 229 RX9 yX9_around wsX9_around) := goodIn_app (goodIn_of _ (by decide +kernel)) ggX9_asked_X9_around
theorem dX9_asked_0 : decode cX9_asked 0 = .ok (.aload_n 0, 1) := by decide +kernel
theorem dX9_asked_1 : decode cX9_asked 1 = .ok (.iload_n 1, 1) := by decide +kernel
theorem dX9_asked_2 : decode cX9_asked 2 = .ok (.invokevirtual 122, 3) := by decide +kernel
theorem dX9_asked_5 : decode cX9_asked 5 = .ok (.ifCond .ne 10, 3) := by decide +kernel
theorem dX9_asked_8 : decode cX9_asked 8 = .ok (.aload_n 0, 1) := by decide +kernel
theorem dX9_asked_9 : decode cX9_asked 9 = .ok (.bipush (-2), 2) := by decide +kernel
theorem dX9_asked_11 : decode cX9_asked 11 = .ok (.invokevirtual 90, 3) := by decide +kernel
theorem dX9_asked_14 : decode cX9_asked 14 = .ok (.ireturn, 1) := by decide +kernel
theorem dX9_asked_15 : decode cX9_asked 15 = .ok (.aload_n 0, 1) := by decide +kernel
theorem dX9_asked_16 : decode cX9_asked 16 = .ok (.invokevirtual 67, 3) := by decide +kernel
theorem dX9_asked_19 : decode cX9_asked 19 = .ok (.aload_n 0, 1) := by decide +kernel
theorem dX9_asked_20 : decode cX9_asked 20 = .ok (.invokevirtual 49, 3) := by decide +kernel
theorem dX9_asked_23 : decode cX9_asked 23 = .ok (.if_icmp .ne 10, 3) := by decide +kernel
theorem dX9_asked_26 : decode cX9_asked 26 = .ok (.aload_n 0, 1) := by decide +kernel
theorem dX9_asked_27 : decode cX9_asked 27 = .ok (.bipush (-3), 2) := by decide +kernel
theorem dX9_asked_29 : decode cX9_asked 29 = .ok (.invokevirtual 192, 3) := by decide +kernel
theorem dX9_asked_32 : decode cX9_asked 32 = .ok (.ireturn, 1) := by decide +kernel
theorem dX9_asked_33 : decode cX9_asked 33 = .ok (.iconst 0, 1) := by decide +kernel
theorem dX9_asked_34 : decode cX9_asked 34 = .ok (.istore_n 2, 1) := by decide +kernel
theorem dX9_asked_35 : decode cX9_asked 35 = .ok (.iconst 0, 1) := by decide +kernel
theorem dX9_asked_36 : decode cX9_asked 36 = .ok (.istore_n 3, 1) := by decide +kernel
theorem dX9_asked_37 : decode cX9_asked 37 = .ok (.iload_n 3, 1) := by decide +kernel
theorem dX9_asked_38 : decode cX9_asked 38 = .ok (.aload_n 0, 1) := by decide +kernel
theorem dX9_asked_39 : decode cX9_asked 39 = .ok (.invokevirtual 60, 3) := by decide +kernel
theorem dX9_asked_42 : decode cX9_asked 42 = .ok (.if_icmp .ge 40, 3) := by decide +kernel
theorem dX9_asked_45 : decode cX9_asked 45 = .ok (.iload_n 3, 1) := by decide +kernel
theorem dX9_asked_46 : decode cX9_asked 46 = .ok (.invokestatic 63, 3) := by decide +kernel
theorem dX9_asked_49 : decode cX9_asked 49 = .ok (.aload_n 0, 1) := by decide +kernel
theorem dX9_asked_50 : decode cX9_asked 50 = .ok (.invokevirtual 67, 3) := by decide +kernel
theorem dX9_asked_53 : decode cX9_asked 53 = .ok (.iconst 1, 1) := by decide +kernel
theorem dX9_asked_54 : decode cX9_asked 54 = .ok (.iadd, 1) := by decide +kernel
theorem dX9_asked_55 : decode cX9_asked 55 = .ok (.if_icmp .ne 21, 3) := by decide +kernel
theorem dX9_asked_58 : decode cX9_asked 58 = .ok (.iload_n 2, 1) := by decide +kernel
theorem dX9_asked_59 : decode cX9_asked 59 = .ok (.aload_n 0, 1) := by decide +kernel
theorem dX9_asked_60 : decode cX9_asked 60 = .ok (.iload_n 1, 1) := by decide +kernel
theorem dX9_asked_61 : decode cX9_asked 61 = .ok (.iload_n 3, 1) := by decide +kernel
theorem dX9_asked_62 : decode cX9_asked 62 = .ok (.invokevirtual 229, 3) := by decide +kernel
theorem dX9_asked_65 : decode cX9_asked 65 = .ok (.iconst 1, 1) := by decide +kernel
theorem dX9_asked_66 : decode cX9_asked 66 = .ok (.if_icmp .ne 7, 3) := by decide +kernel
theorem dX9_asked_69 : decode cX9_asked 69 = .ok (.iconst 1, 1) := by decide +kernel
theorem dX9_asked_70 : decode cX9_asked 70 = .ok (.goto 4, 3) := by decide +kernel
theorem dX9_asked_73 : decode cX9_asked 73 = .ok (.iconst (-1), 1) := by decide +kernel
theorem dX9_asked_74 : decode cX9_asked 74 = .ok (.iadd, 1) := by decide +kernel
theorem dX9_asked_75 : decode cX9_asked 75 = .ok (.istore_n 2, 1) := by decide +kernel
theorem dX9_asked_76 : decode cX9_asked 76 = .ok (.iinc 3 1, 3) := by decide +kernel
theorem dX9_asked_79 : decode cX9_asked 79 = .ok (.goto (-42), 3) := by decide +kernel
theorem dX9_asked_82 : decode cX9_asked 82 = .ok (.iload_n 2, 1) := by decide +kernel
theorem dX9_asked_83 : decode cX9_asked 83 = .ok (.ifCond .le 7, 3) := by decide +kernel
theorem dX9_asked_86 : decode cX9_asked 86 = .ok (.iconst 1, 1) := by decide +kernel
theorem dX9_asked_87 : decode cX9_asked 87 = .ok (.goto 4, 3) := by decide +kernel
theorem dX9_asked_90 : decode cX9_asked 90 = .ok (.iconst 0, 1) := by decide +kernel
theorem dX9_asked_91 : decode cX9_asked 91 = .ok (.ireturn, 1) := by decide +kernel
set_option maxRecDepth 20000 in
theorem ggX9_type_X9_in : GoodIn wsX9_type wsX9_in := goodIn_r _ [7] (by decide +kernel) (by decide +kernel)
set_option maxRecDepth 20000 in
theorem gX9_type_X9_in : GoodIn wsX9_type (va_wsS RX9 83 yX9_in wsX9_in) := goodIn_app (goodIn_of _ (by decide +kernel)) ggX9_type_X9_in
set_option maxRecDepth 20000 in
theorem ggX9_type_X9_bad : GoodIn wsX9_type wsX9_bad := goodIn_r _ [11, 12, 17, 18, 19, 20, 21, 22, 23, 24, 25, 26, 27, 28, 29, 30, 31, 32, 33, 34, 35, 36, 37, 38, 39, 40, 41, 42, 43] (by decide +kernel) (by decide +kernel)
set_option maxRecDepth 20000 in
theorem gX9_type_X9_bad : GoodIn wsX9_type (wsV RX9 90 RX9 yX9_bad wsX9_bad) := goodIn_app (goodIn_of _ (by decide +kernel)) ggX9_type_X9_bad
set_option maxRecDepth 20000 in
theorem ggX9_type_X9_full : GoodIn wsX9_type wsX9_full := goodIn_r _ [16, 12, 17, 18, 19, 20, 21, 22, 23, 24, 25, 26, 27, 28, 29, 30, 31, 32, 33, 34, 35, 36, 37, 38, 39, 40, 41, 42, 43] (by decide +kernel) (by decide +kernel)
set_option maxRecDepth 20000 in
theorem gX9_type_X9_full : GoodIn wsX9_type (wsV RX9 237 RX9 yX9_full wsX9_full) := goodIn_app (goodIn_of _ (by decide +kernel)) ggX9_type_X9_full
theorem dX9_type_0 : decode cX9_type 0 = .ok (.iload_n 1, 1) := by decide +kernel
theorem dX9_type_1 : decode cX9_type 1 = .ok (.i2l, 1) := by decide +kernel
theorem dX9_type_2 : decode cX9_type 2 = .ok (.lconst 0, 1) := by decide +kernel
theorem dX9_type_3 : decode cX9_type 3 = .ok (.ldc2_w 232, 3) := by decide +kernel
theorem dX9_type_6 : decode cX9_type 6 = .ok (.invokestatic 83, 3) := by decide +kernel
theorem dX9_type_9 : decode cX9_type 9 = .ok (.ifCond .ne 10, 3) := by decide +kernel
theorem dX9_type_12 : decode cX9_type 12 = .ok (.aload_n 0, 1) := by decide +kernel
theorem dX9_type_13 : decode cX9_type 13 = .ok (.bipush (-2), 2) := by decide +kernel
theorem dX9_type_15 : decode cX9_type 15 = .ok (.invokevirtual 90, 3) := by decide +kernel
theorem dX9_type_18 : decode cX9_type 18 = .ok (.ireturn, 1) := by decide +kernel
theorem dX9_type_19 : decode cX9_type 19 = .ok (.aload_n 0, 1) := by decide +kernel
theorem dX9_type_20 : decode cX9_type 20 = .ok (.getfield 234, 3) := by decide +kernel
theorem dX9_type_23 : decode cX9_type 23 = .ok (.bipush 120, 2) := by decide +kernel
theorem dX9_type_25 : decode cX9_type 25 = .ok (.if_icmp .ne 8, 3) := by decide +kernel
theorem dX9_type_28 : decode cX9_type 28 = .ok (.aload_n 0, 1) := by decide +kernel
theorem dX9_type_29 : decode cX9_type 29 = .ok (.invokevirtual 237, 3) := by decide +kernel
theorem dX9_type_32 : decode cX9_type 32 = .ok (.ireturn, 1) := by decide +kernel
theorem dX9_type_33 : decode cX9_type 33 = .ok (.aload_n 0, 1) := by decide +kernel
theorem dX9_type_34 : decode cX9_type 34 = .ok (.getfield 40, 3) := by decide +kernel
theorem dX9_type_37 : decode cX9_type 37 = .ok (.aload_n 0, 1) := by decide +kernel
theorem dX9_type_38 : decode cX9_type 38 = .ok (.getfield 234, 3) := by decide +kernel
theorem dX9_type_41 : decode cX9_type 41 = .ok (.iload_n 1, 1) := by decide +kernel
theorem dX9_type_42 : decode cX9_type 42 = .ok (.iastore, 1) := by decide +kernel
theorem dX9_type_43 : decode cX9_type 43 = .ok (.aload_n 0, 1) := by decide +kernel
theorem dX9_type_44 : decode cX9_type 44 = .ok (.dup, 1) := by decide +kernel
theorem dX9_type_45 : decode cX9_type 45 = .ok (.getfield 234, 3) := by decide +kernel
theorem dX9_type_48 : decode cX9_type 48 = .ok (.iconst 1, 1) := by decide +kernel
theorem dX9_type_49 : decode cX9_type 49 = .ok (.iadd, 1) := by decide +kernel
theorem dX9_type_50 : decode cX9_type 50 = .ok (.putfield 234, 3) := by decide +kernel
theorem dX9_type_53 : decode cX9_type 53 = .ok (.aload_n 0, 1) := by decide +kernel
theorem dX9_type_54 : decode cX9_type 54 = .ok (.getfield 234, 3) := by decide +kernel
theorem dX9_type_57 : decode cX9_type 57 = .ok (.ireturn, 1) := by decide +kernel
theorem dX9_clear_0 : decode cX9_clear 0 = .ok (.aload_n 0, 1) := by decide +kernel
theorem dX9_clear_1 : decode cX9_clear 1 = .ok (.getfield 234, 3) := by decide +kernel
theorem dX9_clear_4 : decode cX9_clear 4 = .ok (.istore_n 1, 1) := by decide +kernel
theorem dX9_clear_5 : decode cX9_clear 5 = .ok (.aload_n 0, 1) := by decide +kernel
theorem dX9_clear_6 : decode cX9_clear 6 = .ok (.iconst 0, 1) := by decide +kernel
theorem dX9_clear_7 : decode cX9_clear 7 = .ok (.putfield 234, 3) := by decide +kernel
theorem dX9_clear_10 : decode cX9_clear 10 = .ok (.iload_n 1, 1) := by decide +kernel
theorem dX9_clear_11 : decode cX9_clear 11 = .ok (.ireturn, 1) := by decide +kernel
theorem dX9_here_0 : decode cX9_here 0 = .ok (.aload_n 0, 1) := by decide +kernel
theorem dX9_here_1 : decode cX9_here 1 = .ok (.getfield 240, 3) := by decide +kernel
theorem dX9_here_4 : decode cX9_here 4 = .ok (.aload_n 0, 1) := by decide +kernel
theorem dX9_here_5 : decode cX9_here 5 = .ok (.getfield 234, 3) := by decide +kernel
theorem dX9_here_8 : decode cX9_here 8 = .ok (.if_icmp .ge 30, 3) := by decide +kernel
theorem dX9_here_11 : decode cX9_here 11 = .ok (.aload_n 0, 1) := by decide +kernel
theorem dX9_here_12 : decode cX9_here 12 = .ok (.getfield 40, 3) := by decide +kernel
theorem dX9_here_15 : decode cX9_here 15 = .ok (.aload_n 0, 1) := by decide +kernel
theorem dX9_here_16 : decode cX9_here 16 = .ok (.getfield 240, 3) := by decide +kernel
theorem dX9_here_19 : decode cX9_here 19 = .ok (.iaload, 1) := by decide +kernel
theorem dX9_here_20 : decode cX9_here 20 = .ok (.bipush 32, 2) := by decide +kernel
theorem dX9_here_22 : decode cX9_here 22 = .ok (.if_icmp .ne 16, 3) := by decide +kernel
theorem dX9_here_25 : decode cX9_here 25 = .ok (.aload_n 0, 1) := by decide +kernel
theorem dX9_here_26 : decode cX9_here 26 = .ok (.dup, 1) := by decide +kernel
theorem dX9_here_27 : decode cX9_here 27 = .ok (.getfield 240, 3) := by decide +kernel
theorem dX9_here_30 : decode cX9_here 30 = .ok (.iconst 1, 1) := by decide +kernel
theorem dX9_here_31 : decode cX9_here 31 = .ok (.iadd, 1) := by decide +kernel
theorem dX9_here_32 : decode cX9_here 32 = .ok (.putfield 240, 3) := by decide +kernel
theorem dX9_here_35 : decode cX9_here 35 = .ok (.goto (-35), 3) := by decide +kernel
theorem dX9_here_38 : decode cX9_here 38 = .ok (.aload_n 0, 1) := by decide +kernel
theorem dX9_here_39 : decode cX9_here 39 = .ok (.getfield 240, 3) := by decide +kernel
theorem dX9_here_42 : decode cX9_here 42 = .ok (.aload_n 0, 1) := by decide +kernel
theorem dX9_here_43 : decode cX9_here 43 = .ok (.getfield 234, 3) := by decide +kernel
theorem dX9_here_46 : decode cX9_here 46 = .ok (.if_icmp .ge 15, 3) := by decide +kernel
theorem dX9_here_49 : decode cX9_here 49 = .ok (.aload_n 0, 1) := by decide +kernel
theorem dX9_here_50 : decode cX9_here 50 = .ok (.getfield 40, 3) := by decide +kernel
theorem dX9_here_53 : decode cX9_here 53 = .ok (.aload_n 0, 1) := by decide +kernel
theorem dX9_here_54 : decode cX9_here 54 = .ok (.getfield 240, 3) := by decide +kernel
theorem dX9_here_57 : decode cX9_here 57 = .ok (.iaload, 1) := by decide +kernel
theorem dX9_here_58 : decode cX9_here 58 = .ok (.goto 4, 3) := by decide +kernel
theorem dX9_here_61 : decode cX9_here 61 = .ok (.iconst (-1), 1) := by decide +kernel
theorem dX9_here_62 : decode cX9_here 62 = .ok (.ireturn, 1) := by decide +kernel
set_option maxRecDepth 20000 in
theorem ggX9_isFigure_X9_in : GoodIn wsX9_isFigure wsX9_in := goodIn_r _ [8] (by decide +kernel) (by decide +kernel)
set_option maxRecDepth 20000 in
theorem gX9_isFigure_X9_in : GoodIn wsX9_isFigure (va_wsS RX9 83 yX9_in wsX9_in) := goodIn_app (goodIn_of _ (by decide +kernel)) ggX9_isFigure_X9_in
theorem dX9_isFigure_0 : decode cX9_isFigure 0 = .ok (.iload_n 1, 1) := by decide +kernel
theorem dX9_isFigure_1 : decode cX9_isFigure 1 = .ok (.aload_n 0, 1) := by decide +kernel
theorem dX9_isFigure_2 : decode cX9_isFigure 2 = .ok (.getfield 234, 3) := by decide +kernel
theorem dX9_isFigure_5 : decode cX9_isFigure 5 = .ok (.if_icmp .ge 26, 3) := by decide +kernel
theorem dX9_isFigure_8 : decode cX9_isFigure 8 = .ok (.aload_n 0, 1) := by decide +kernel
theorem dX9_isFigure_9 : decode cX9_isFigure 9 = .ok (.getfield 40, 3) := by decide +kernel
theorem dX9_isFigure_12 : decode cX9_isFigure 12 = .ok (.iload_n 1, 1) := by decide +kernel
theorem dX9_isFigure_13 : decode cX9_isFigure 13 = .ok (.iaload, 1) := by decide +kernel
theorem dX9_isFigure_14 : decode cX9_isFigure 14 = .ok (.i2l, 1) := by decide +kernel
theorem dX9_isFigure_15 : decode cX9_isFigure 15 = .ok (.ldc2_w 243, 3) := by decide +kernel
theorem dX9_isFigure_18 : decode cX9_isFigure 18 = .ok (.ldc2_w 245, 3) := by decide +kernel
theorem dX9_isFigure_21 : decode cX9_isFigure 21 = .ok (.invokestatic 83, 3) := by decide +kernel
theorem dX9_isFigure_24 : decode cX9_isFigure 24 = .ok (.ifCond .eq 7, 3) := by decide +kernel
theorem dX9_isFigure_27 : decode cX9_isFigure 27 = .ok (.iconst 1, 1) := by decide +kernel
theorem dX9_isFigure_28 : decode cX9_isFigure 28 = .ok (.goto 4, 3) := by decide +kernel
theorem dX9_isFigure_31 : decode cX9_isFigure 31 = .ok (.iconst 0, 1) := by decide +kernel
theorem dX9_isFigure_32 : decode cX9_isFigure 32 = .ok (.ireturn, 1) := by decide +kernel
set_option maxRecDepth 20000 in
theorem ggX9_takes_X9_here : GoodIn wsX9_takes wsX9_here := goodIn_r _ [9, 1, 10, 2, 20, 21, 22, 23, 24, 25, 26, 27, 28, 29, 30, 31, 32, 33, 34, 35, 36, 37, 38, 39, 40, 41, 42, 43, 44, 45, 46] (by decide +kernel) (by decide +kernel)
set_option maxRecDepth 20000 in
theorem gX9_takes_X9_here : GoodIn wsX9_takes (wsV RX9 247 RX9 yX9_here wsX9_here) := goodIn_app (goodIn_of _ (by decide +kernel)) ggX9_takes_X9_here
set_option maxRecDepth 20000 in
theorem ggX9_takes_X9_isFigure : GoodIn wsX9_takes wsX9_isFigure := goodIn_r _ [14, 10, 2, 15, 16, 17, 18, 8, 19, 20, 21, 22, 23, 24, 25, 26, 27, 28, 29, 30, 31, 32, 33, 34, 35, 36, 37, 38, 39, 40, 41, 42, 43, 44, 45, 46] (by decide +kernel) (by decide +kernel)
set_option maxRecDepth 20000 in
theorem gX9_takes_X9_isFigure : GoodIn wsX9_takes (wsV RX9 250 RX9 yX9_isFigure wsX9_isFigure) := goodIn_app (goodIn_of _ (by decide +kernel)) ggX9_takes_X9_isFigure
set_option maxRecDepth 20000 in
theorem ggX9_takes_X9_in : GoodIn wsX9_takes wsX9_in := goodIn_r _ [19] (by decide +kernel) (by decide +kernel)
set_option maxRecDepth 20000 in
theorem gX9_takes_X9_in : GoodIn wsX9_takes (va_wsS RX9 83 yX9_in wsX9_in) := goodIn_app (goodIn_of _ (by decide +kernel)) ggX9_takes_X9_in
theorem dX9_takes_0 : decode cX9_takes 0 = .ok (.aload_n 0, 1) := by decide +kernel
theorem dX9_takes_1 : decode cX9_takes 1 = .ok (.invokevirtual 247, 3) := by decide +kernel
theorem dX9_takes_4 : decode cX9_takes 4 = .ok (.bipush 45, 2) := by decide +kernel
theorem dX9_takes_6 : decode cX9_takes 6 = .ok (.if_icmp .ne 11, 3) := by decide +kernel
theorem dX9_takes_9 : decode cX9_takes 9 = .ok (.iload_n 1, 1) := by decide +kernel
theorem dX9_takes_10 : decode cX9_takes 10 = .ok (.ifCond .ge 7, 3) := by decide +kernel
theorem dX9_takes_13 : decode cX9_takes 13 = .ok (.iconst 1, 1) := by decide +kernel
theorem dX9_takes_14 : decode cX9_takes 14 = .ok (.goto 4, 3) := by decide +kernel
theorem dX9_takes_17 : decode cX9_takes 17 = .ok (.iconst 0, 1) := by decide +kernel
theorem dX9_takes_18 : decode cX9_takes 18 = .ok (.istore_n 3, 1) := by decide +kernel
theorem dX9_takes_19 : decode cX9_takes 19 = .ok (.aload_n 0, 1) := by decide +kernel
theorem dX9_takes_20 : decode cX9_takes 20 = .ok (.getfield 240, 3) := by decide +kernel
theorem dX9_takes_23 : decode cX9_takes 23 = .ok (.iload_n 3, 1) := by decide +kernel
theorem dX9_takes_24 : decode cX9_takes 24 = .ok (.ifCond .eq 7, 3) := by decide +kernel
theorem dX9_takes_27 : decode cX9_takes 27 = .ok (.iconst 1, 1) := by decide +kernel
theorem dX9_takes_28 : decode cX9_takes 28 = .ok (.goto 4, 3) := by decide +kernel
theorem dX9_takes_31 : decode cX9_takes 31 = .ok (.iconst 0, 1) := by decide +kernel
theorem dX9_takes_32 : decode cX9_takes 32 = .ok (.iadd, 1) := by decide +kernel
theorem dX9_takes_33 : decode cX9_takes 33 = .ok (.istore 4, 2) := by decide +kernel
theorem dX9_takes_35 : decode cX9_takes 35 = .ok (.iload 4, 2) := by decide +kernel
theorem dX9_takes_37 : decode cX9_takes 37 = .ok (.istore 5, 2) := by decide +kernel
theorem dX9_takes_39 : decode cX9_takes 39 = .ok (.iconst 0, 1) := by decide +kernel
theorem dX9_takes_40 : decode cX9_takes 40 = .ok (.istore 6, 2) := by decide +kernel
theorem dX9_takes_42 : decode cX9_takes 42 = .ok (.aload_n 0, 1) := by decide +kernel
theorem dX9_takes_43 : decode cX9_takes 43 = .ok (.iload 4, 2) := by decide +kernel
theorem dX9_takes_45 : decode cX9_takes 45 = .ok (.invokevirtual 250, 3) := by decide +kernel
theorem dX9_takes_48 : decode cX9_takes 48 = .ok (.ifCond .eq 36, 3) := by decide +kernel
theorem dX9_takes_51 : decode cX9_takes 51 = .ok (.iload 4, 2) := by decide +kernel
theorem dX9_takes_53 : decode cX9_takes 53 = .ok (.iload 5, 2) := by decide +kernel
theorem dX9_takes_55 : decode cX9_takes 55 = .ok (.isub, 1) := by decide +kernel
theorem dX9_takes_56 : decode cX9_takes 56 = .ok (.iconst 3, 1) := by decide +kernel
theorem dX9_takes_57 : decode cX9_takes 57 = .ok (.if_icmp .ge 27, 3) := by decide +kernel
theorem dX9_takes_60 : decode cX9_takes 60 = .ok (.bipush 10, 2) := by decide +kernel
theorem dX9_takes_62 : decode cX9_takes 62 = .ok (.iload 6, 2) := by decide +kernel
theorem dX9_takes_64 : decode cX9_takes 64 = .ok (.imul, 1) := by decide +kernel
theorem dX9_takes_65 : decode cX9_takes 65 = .ok (.aload_n 0, 1) := by decide +kernel
theorem dX9_takes_66 : decode cX9_takes 66 = .ok (.getfield 40, 3) := by decide +kernel
theorem dX9_takes_69 : decode cX9_takes 69 = .ok (.iload 4, 2) := by decide +kernel
theorem dX9_takes_71 : decode cX9_takes 71 = .ok (.iaload, 1) := by decide +kernel
theorem dX9_takes_72 : decode cX9_takes 72 = .ok (.iadd, 1) := by decide +kernel
theorem dX9_takes_73 : decode cX9_takes 73 = .ok (.bipush 48, 2) := by decide +kernel
theorem dX9_takes_75 : decode cX9_takes 75 = .ok (.isub, 1) := by decide +kernel
theorem dX9_takes_76 : decode cX9_takes 76 = .ok (.istore 6, 2) := by decide +kernel
theorem dX9_takes_78 : decode cX9_takes 78 = .ok (.iinc 4 1, 3) := by decide +kernel
theorem dX9_takes_81 : decode cX9_takes 81 = .ok (.goto (-39), 3) := by decide +kernel
theorem dX9_takes_84 : decode cX9_takes 84 = .ok (.aload_n 0, 1) := by decide +kernel
theorem dX9_takes_85 : decode cX9_takes 85 = .ok (.iload_n 3, 1) := by decide +kernel
theorem dX9_takes_86 : decode cX9_takes 86 = .ok (.ifCond .eq 9, 3) := by decide +kernel
theorem dX9_takes_89 : decode cX9_takes 89 = .ok (.iload 6, 2) := by decide +kernel
theorem dX9_takes_91 : decode cX9_takes 91 = .ok (.ineg, 1) := by decide +kernel
theorem dX9_takes_92 : decode cX9_takes 92 = .ok (.goto 5, 3) := by decide +kernel
theorem dX9_takes_95 : decode cX9_takes 95 = .ok (.iload 6, 2) := by decide +kernel
theorem dX9_takes_97 : decode cX9_takes 97 = .ok (.putfield 253, 3) := by decide +kernel
theorem dX9_takes_100 : decode cX9_takes 100 = .ok (.iload 4, 2) := by decide +kernel
theorem dX9_takes_102 : decode cX9_takes 102 = .ok (.iload 5, 2) := by decide +kernel
theorem dX9_takes_104 : decode cX9_takes 104 = .ok (.isub, 1) := by decide +kernel
theorem dX9_takes_105 : decode cX9_takes 105 = .ok (.i2l, 1) := by decide +kernel
theorem dX9_takes_106 : decode cX9_takes 106 = .ok (.lconst 1, 1) := by decide +kernel
theorem dX9_takes_107 : decode cX9_takes 107 = .ok (.ldc2_w 171, 3) := by decide +kernel
theorem dX9_takes_110 : decode cX9_takes 110 = .ok (.invokestatic 83, 3) := by decide +kernel
theorem dX9_takes_113 : decode cX9_takes 113 = .ok (.ifCond .eq 22, 3) := by decide +kernel
theorem dX9_takes_116 : decode cX9_takes 116 = .ok (.aload_n 0, 1) := by decide +kernel
theorem dX9_takes_117 : decode cX9_takes 117 = .ok (.getfield 253, 3) := by decide +kernel
theorem dX9_takes_120 : decode cX9_takes 120 = .ok (.i2l, 1) := by decide +kernel
theorem dX9_takes_121 : decode cX9_takes 121 = .ok (.iload_n 1, 1) := by decide +kernel
theorem dX9_takes_122 : decode cX9_takes 122 = .ok (.i2l, 1) := by decide +kernel
theorem dX9_takes_123 : decode cX9_takes 123 = .ok (.iload_n 2, 1) := by decide +kernel
theorem dX9_takes_124 : decode cX9_takes 124 = .ok (.i2l, 1) := by decide +kernel
theorem dX9_takes_125 : decode cX9_takes 125 = .ok (.invokestatic 83, 3) := by decide +kernel
theorem dX9_takes_128 : decode cX9_takes 128 = .ok (.ifCond .eq 7, 3) := by decide +kernel
theorem dX9_takes_131 : decode cX9_takes 131 = .ok (.iconst 1, 1) := by decide +kernel
theorem dX9_takes_132 : decode cX9_takes 132 = .ok (.goto 4, 3) := by decide +kernel
theorem dX9_takes_135 : decode cX9_takes 135 = .ok (.iconst 0, 1) := by decide +kernel
theorem dX9_takes_136 : decode cX9_takes 136 = .ok (.istore 7, 2) := by decide +kernel
theorem dX9_takes_138 : decode cX9_takes 138 = .ok (.aload_n 0, 1) := by decide +kernel
theorem dX9_takes_139 : decode cX9_takes 139 = .ok (.iload 7, 2) := by decide +kernel
theorem dX9_takes_141 : decode cX9_takes 141 = .ok (.ifCond .eq 8, 3) := by decide +kernel
theorem dX9_takes_144 : decode cX9_takes 144 = .ok (.iload 4, 2) := by decide +kernel
theorem dX9_takes_146 : decode cX9_takes 146 = .ok (.goto 7, 3) := by decide +kernel
theorem dX9_takes_149 : decode cX9_takes 149 = .ok (.aload_n 0, 1) := by decide +kernel
theorem dX9_takes_150 : decode cX9_takes 150 = .ok (.getfield 240, 3) := by decide +kernel
theorem dX9_takes_153 : decode cX9_takes 153 = .ok (.putfield 240, 3) := by decide +kernel
theorem dX9_takes_156 : decode cX9_takes 156 = .ok (.iload 7, 2) := by decide +kernel
theorem dX9_takes_158 : decode cX9_takes 158 = .ok (.ireturn, 1) := by decide +kernel
set_option maxRecDepth 20000 in
theorem ggX9_hexAt_X9_in : GoodIn wsX9_hexAt wsX9_in := goodIn_r _ [10] (by decide +kernel) (by decide +kernel)
set_option maxRecDepth 20000 in
theorem gX9_hexAt_X9_in : GoodIn wsX9_hexAt (va_wsS RX9 83 yX9_in wsX9_in) := goodIn_app (goodIn_of _ (by decide +kernel)) ggX9_hexAt_X9_in
theorem dX9_hexAt_0 : decode cX9_hexAt 0 = .ok (.iload_n 1, 1) := by decide +kernel
theorem dX9_hexAt_1 : decode cX9_hexAt 1 = .ok (.aload_n 0, 1) := by decide +kernel
theorem dX9_hexAt_2 : decode cX9_hexAt 2 = .ok (.getfield 234, 3) := by decide +kernel
theorem dX9_hexAt_5 : decode cX9_hexAt 5 = .ok (.if_icmp .ge 12, 3) := by decide +kernel
theorem dX9_hexAt_8 : decode cX9_hexAt 8 = .ok (.aload_n 0, 1) := by decide +kernel
theorem dX9_hexAt_9 : decode cX9_hexAt 9 = .ok (.getfield 40, 3) := by decide +kernel
theorem dX9_hexAt_12 : decode cX9_hexAt 12 = .ok (.iload_n 1, 1) := by decide +kernel
theorem dX9_hexAt_13 : decode cX9_hexAt 13 = .ok (.iaload, 1) := by decide +kernel
theorem dX9_hexAt_14 : decode cX9_hexAt 14 = .ok (.goto 4, 3) := by decide +kernel
theorem dX9_hexAt_17 : decode cX9_hexAt 17 = .ok (.iconst 0, 1) := by decide +kernel
theorem dX9_hexAt_18 : decode cX9_hexAt 18 = .ok (.istore_n 2, 1) := by decide +kernel
theorem dX9_hexAt_19 : decode cX9_hexAt 19 = .ok (.iload_n 2, 1) := by decide +kernel
theorem dX9_hexAt_20 : decode cX9_hexAt 20 = .ok (.i2l, 1) := by decide +kernel
theorem dX9_hexAt_21 : decode cX9_hexAt 21 = .ok (.ldc2_w 243, 3) := by decide +kernel
theorem dX9_hexAt_24 : decode cX9_hexAt 24 = .ok (.ldc2_w 245, 3) := by decide +kernel
theorem dX9_hexAt_27 : decode cX9_hexAt 27 = .ok (.invokestatic 83, 3) := by decide +kernel
theorem dX9_hexAt_30 : decode cX9_hexAt 30 = .ok (.ifCond .eq 10, 3) := by decide +kernel
theorem dX9_hexAt_33 : decode cX9_hexAt 33 = .ok (.iload_n 2, 1) := by decide +kernel
theorem dX9_hexAt_34 : decode cX9_hexAt 34 = .ok (.bipush 48, 2) := by decide +kernel
theorem dX9_hexAt_36 : decode cX9_hexAt 36 = .ok (.isub, 1) := by decide +kernel
theorem dX9_hexAt_37 : decode cX9_hexAt 37 = .ok (.goto 28, 3) := by decide +kernel
theorem dX9_hexAt_40 : decode cX9_hexAt 40 = .ok (.iload_n 2, 1) := by decide +kernel
theorem dX9_hexAt_41 : decode cX9_hexAt 41 = .ok (.i2l, 1) := by decide +kernel
theorem dX9_hexAt_42 : decode cX9_hexAt 42 = .ok (.ldc2_w 256, 3) := by decide +kernel
theorem dX9_hexAt_45 : decode cX9_hexAt 45 = .ok (.ldc2_w 258, 3) := by decide +kernel
theorem dX9_hexAt_48 : decode cX9_hexAt 48 = .ok (.invokestatic 83, 3) := by decide +kernel
theorem dX9_hexAt_51 : decode cX9_hexAt 51 = .ok (.ifCond .eq 13, 3) := by decide +kernel
theorem dX9_hexAt_54 : decode cX9_hexAt 54 = .ok (.iload_n 2, 1) := by decide +kernel
theorem dX9_hexAt_55 : decode cX9_hexAt 55 = .ok (.bipush 97, 2) := by decide +kernel
theorem dX9_hexAt_57 : decode cX9_hexAt 57 = .ok (.isub, 1) := by decide +kernel
theorem dX9_hexAt_58 : decode cX9_hexAt 58 = .ok (.bipush 10, 2) := by decide +kernel
theorem dX9_hexAt_60 : decode cX9_hexAt 60 = .ok (.iadd, 1) := by decide +kernel
theorem dX9_hexAt_61 : decode cX9_hexAt 61 = .ok (.goto 4, 3) := by decide +kernel
theorem dX9_hexAt_64 : decode cX9_hexAt 64 = .ok (.iconst (-1), 1) := by decide +kernel
theorem dX9_hexAt_65 : decode cX9_hexAt 65 = .ok (.ireturn, 1) := by decide +kernel
set_option maxRecDepth 20000 in
theorem ggX9_takesHex_X9_here : GoodIn wsX9_takesHex wsX9_here := goodIn_r _ [8, 1, 9, 10, 29, 30, 31, 32, 33, 34, 35, 36, 37, 38, 39, 40, 41, 42, 43, 44, 45, 46, 47, 48, 49, 50, 51, 52, 53, 54, 55] (by decide +kernel) (by decide +kernel)
set_option maxRecDepth 20000 in
theorem gX9_takesHex_X9_here : GoodIn wsX9_takesHex (wsV RX9 247 RX9 yX9_here wsX9_here) := goodIn_app (goodIn_of _ (by decide +kernel)) ggX9_takesHex_X9_here
set_option maxRecDepth 20000 in
theorem ggX9_takesHex_X9_hexAt : GoodIn wsX9_takesHex wsX9_hexAt := goodIn_r _ [14, 9, 10, 15, 16, 17, 18, 19, 20, 7, 21, 29, 30, 31, 32, 33, 34, 35, 36, 37, 38, 39, 40, 41, 42, 43, 44, 45, 46, 47, 48, 49, 50, 51, 52, 53, 54, 55] (by decide +kernel) (by decide +kernel)
set_option maxRecDepth 20000 in
theorem gX9_takesHex_X9_hexAt : GoodIn wsX9_takesHex (wsV RX9 260 RX9 yX9_hexAt wsX9_hexAt) := goodIn_app (goodIn_of _ (by decide +kernel)) ggX9_takesHex_X9_hexAt
set_option maxRecDepth 20000 in
theorem ggX9_takesHex_X9_in : GoodIn wsX9_takesHex wsX9_in := goodIn_r _ [21] (by decide +kernel) (by decide +kernel)
set_option maxRecDepth 20000 in
theorem gX9_takesHex_X9_in : GoodIn wsX9_takesHex (va_wsS RX9 83 yX9_in wsX9_in) := goodIn_app (goodIn_of _ (by decide +kernel)) ggX9_takesHex_X9_in
set_option maxRecDepth 20000 in
theorem ggX9_takesHex_X9_isWithin : GoodIn wsX9_takesHex wsX9_isWithin := goodIn_r _ [25, 26, 27, 7, 28] (by decide +kernel) (by decide +kernel)
set_option maxRecDepth 20000 in
theorem gX9_takesHex_X9_isWithin : GoodIn wsX9_takesHex (wsV RX9 109 RX9 yX9_isWithin wsX9_isWithin) := goodIn_app (goodIn_of _ (by decide +kernel)) ggX9_takesHex_X9_isWithin
theorem dX9_takesHex_0 : decode cX9_takesHex 0 = .ok (.aload_n 0, 1) := by decide +kernel
theorem dX9_takesHex_1 : decode cX9_takesHex 1 = .ok (.invokevirtual 247, 3) := by decide +kernel
theorem dX9_takesHex_4 : decode cX9_takesHex 4 = .ok (.istore_n 2, 1) := by decide +kernel
theorem dX9_takesHex_5 : decode cX9_takesHex 5 = .ok (.aload_n 0, 1) := by decide +kernel
theorem dX9_takesHex_6 : decode cX9_takesHex 6 = .ok (.getfield 240, 3) := by decide +kernel
theorem dX9_takesHex_9 : decode cX9_takesHex 9 = .ok (.istore_n 3, 1) := by decide +kernel
theorem dX9_takesHex_10 : decode cX9_takesHex 10 = .ok (.aload_n 0, 1) := by decide +kernel
theorem dX9_takesHex_11 : decode cX9_takesHex 11 = .ok (.iconst 0, 1) := by decide +kernel
theorem dX9_takesHex_12 : decode cX9_takesHex 12 = .ok (.putfield 253, 3) := by decide +kernel
theorem dX9_takesHex_15 : decode cX9_takesHex 15 = .ok (.aload_n 0, 1) := by decide +kernel
theorem dX9_takesHex_16 : decode cX9_takesHex 16 = .ok (.iload_n 3, 1) := by decide +kernel
theorem dX9_takesHex_17 : decode cX9_takesHex 17 = .ok (.invokevirtual 260, 3) := by decide +kernel
theorem dX9_takesHex_20 : decode cX9_takesHex 20 = .ok (.iconst (-1), 1) := by decide +kernel
theorem dX9_takesHex_21 : decode cX9_takesHex 21 = .ok (.if_icmp .eq 37, 3) := by decide +kernel
theorem dX9_takesHex_24 : decode cX9_takesHex 24 = .ok (.iload_n 3, 1) := by decide +kernel
theorem dX9_takesHex_25 : decode cX9_takesHex 25 = .ok (.aload_n 0, 1) := by decide +kernel
theorem dX9_takesHex_26 : decode cX9_takesHex 26 = .ok (.getfield 240, 3) := by decide +kernel
theorem dX9_takesHex_29 : decode cX9_takesHex 29 = .ok (.isub, 1) := by decide +kernel
theorem dX9_takesHex_30 : decode cX9_takesHex 30 = .ok (.bipush 9, 2) := by decide +kernel
theorem dX9_takesHex_32 : decode cX9_takesHex 32 = .ok (.if_icmp .ge 26, 3) := by decide +kernel
theorem dX9_takesHex_35 : decode cX9_takesHex 35 = .ok (.aload_n 0, 1) := by decide +kernel
theorem dX9_takesHex_36 : decode cX9_takesHex 36 = .ok (.bipush 16, 2) := by decide +kernel
theorem dX9_takesHex_38 : decode cX9_takesHex 38 = .ok (.aload_n 0, 1) := by decide +kernel
theorem dX9_takesHex_39 : decode cX9_takesHex 39 = .ok (.getfield 253, 3) := by decide +kernel
theorem dX9_takesHex_42 : decode cX9_takesHex 42 = .ok (.imul, 1) := by decide +kernel
theorem dX9_takesHex_43 : decode cX9_takesHex 43 = .ok (.aload_n 0, 1) := by decide +kernel
theorem dX9_takesHex_44 : decode cX9_takesHex 44 = .ok (.iload_n 3, 1) := by decide +kernel
theorem dX9_takesHex_45 : decode cX9_takesHex 45 = .ok (.invokevirtual 260, 3) := by decide +kernel
theorem dX9_takesHex_48 : decode cX9_takesHex 48 = .ok (.iadd, 1) := by decide +kernel
theorem dX9_takesHex_49 : decode cX9_takesHex 49 = .ok (.putfield 253, 3) := by decide +kernel
theorem dX9_takesHex_52 : decode cX9_takesHex 52 = .ok (.iinc 3 1, 3) := by decide +kernel
theorem dX9_takesHex_55 : decode cX9_takesHex 55 = .ok (.goto (-40), 3) := by decide +kernel
theorem dX9_takesHex_58 : decode cX9_takesHex 58 = .ok (.iload_n 3, 1) := by decide +kernel
theorem dX9_takesHex_59 : decode cX9_takesHex 59 = .ok (.aload_n 0, 1) := by decide +kernel
theorem dX9_takesHex_60 : decode cX9_takesHex 60 = .ok (.getfield 240, 3) := by decide +kernel
theorem dX9_takesHex_63 : decode cX9_takesHex 63 = .ok (.isub, 1) := by decide +kernel
theorem dX9_takesHex_64 : decode cX9_takesHex 64 = .ok (.i2l, 1) := by decide +kernel
theorem dX9_takesHex_65 : decode cX9_takesHex 65 = .ok (.lconst 1, 1) := by decide +kernel
theorem dX9_takesHex_66 : decode cX9_takesHex 66 = .ok (.ldc2_w 263, 3) := by decide +kernel
theorem dX9_takesHex_69 : decode cX9_takesHex 69 = .ok (.invokestatic 83, 3) := by decide +kernel
theorem dX9_takesHex_72 : decode cX9_takesHex 72 = .ok (.ifCond .eq 19, 3) := by decide +kernel
theorem dX9_takesHex_75 : decode cX9_takesHex 75 = .ok (.aload_n 0, 1) := by decide +kernel
theorem dX9_takesHex_76 : decode cX9_takesHex 76 = .ok (.aload_n 0, 1) := by decide +kernel
theorem dX9_takesHex_77 : decode cX9_takesHex 77 = .ok (.getfield 253, 3) := by decide +kernel
theorem dX9_takesHex_80 : decode cX9_takesHex 80 = .ok (.iload_n 1, 1) := by decide +kernel
theorem dX9_takesHex_81 : decode cX9_takesHex 81 = .ok (.invokevirtual 109, 3) := by decide +kernel
theorem dX9_takesHex_84 : decode cX9_takesHex 84 = .ok (.ifCond .eq 7, 3) := by decide +kernel
theorem dX9_takesHex_87 : decode cX9_takesHex 87 = .ok (.iconst 1, 1) := by decide +kernel
theorem dX9_takesHex_88 : decode cX9_takesHex 88 = .ok (.goto 4, 3) := by decide +kernel
theorem dX9_takesHex_91 : decode cX9_takesHex 91 = .ok (.iconst 0, 1) := by decide +kernel
theorem dX9_takesHex_92 : decode cX9_takesHex 92 = .ok (.istore 4, 2) := by decide +kernel
theorem dX9_takesHex_94 : decode cX9_takesHex 94 = .ok (.aload_n 0, 1) := by decide +kernel
theorem dX9_takesHex_95 : decode cX9_takesHex 95 = .ok (.iload 4, 2) := by decide +kernel
theorem dX9_takesHex_97 : decode cX9_takesHex 97 = .ok (.ifCond .eq 7, 3) := by decide +kernel
theorem dX9_takesHex_100 : decode cX9_takesHex 100 = .ok (.iload_n 3, 1) := by decide +kernel
theorem dX9_takesHex_101 : decode cX9_takesHex 101 = .ok (.goto 7, 3) := by decide +kernel
theorem dX9_takesHex_104 : decode cX9_takesHex 104 = .ok (.aload_n 0, 1) := by decide +kernel
theorem dX9_takesHex_105 : decode cX9_takesHex 105 = .ok (.getfield 240, 3) := by decide +kernel
theorem dX9_takesHex_108 : decode cX9_takesHex 108 = .ok (.putfield 240, 3) := by decide +kernel
theorem dX9_takesHex_111 : decode cX9_takesHex 111 = .ok (.iload 4, 2) := by decide +kernel
theorem dX9_takesHex_113 : decode cX9_takesHex 113 = .ok (.ireturn, 1) := by decide +kernel
set_option maxRecDepth 20000 in
theorem ggX9_readsOne_X9_here : GoodIn wsX9_readsOne wsX9_here := goodIn_r _ [8, 1, 9, 10, 148, 149, 150, 151, 152, 153, 154, 155, 156, 157, 158, 159, 160, 161, 162, 163, 164, 165, 166, 167, 168, 169, 170, 171, 172, 173, 174] (by decide +kernel) (by decide +kernel)
set_option maxRecDepth 20000 in
theorem gX9_readsOne_X9_here : GoodIn wsX9_readsOne (wsV RX9 247 RX9 yX9_here wsX9_here) := goodIn_app (goodIn_of _ (by decide +kernel)) ggX9_readsOne_X9_here
set_option maxRecDepth 20000 in
theorem ggX9_readsOne_X9_takes : GoodIn wsX9_readsOne wsX9_takes := goodIn_r _ [14, 1, 10, 2, 15, 4, 5, 6, 7, 8, 9, 16, 17, 18, 19, 20, 21, 22, 23, 24, 148, 149, 150, 151, 152, 153, 154, 155, 156, 157, 158, 159, 160, 161, 162, 163, 164, 165, 166, 167, 168, 169, 170, 171, 172, 173, 174] (by decide +kernel) (by decide +kernel)
set_option maxRecDepth 20000 in
theorem gX9_readsOne_X9_takes : GoodIn wsX9_readsOne (wsV RX9 265 RX9 yX9_takes wsX9_takes) := goodIn_app (goodIn_of _ (by decide +kernel)) ggX9_readsOne_X9_takes
set_option maxRecDepth 20000 in
theorem ggX9_readsOne_X9_many : GoodIn wsX9_readsOne wsX9_many := goodIn_r _ [28, 29, 30, 31, 32, 7, 33, 34, 35, 36, 37, 38, 39, 40, 41, 42, 43, 44, 45, 46, 47, 48, 49, 50, 148, 149, 150, 151, 152, 153, 154, 155, 156, 157, 158, 159, 160, 161, 162, 163, 164, 165, 166, 167, 168, 169, 170, 171, 172, 173, 174] (by decide +kernel) (by decide +kernel)
set_option maxRecDepth 20000 in
theorem gX9_readsOne_X9_many : GoodIn wsX9_readsOne (wsV RX9 100 RX9 yX9_many wsX9_many) := goodIn_app (goodIn_of _ (by decide +kernel)) ggX9_readsOne_X9_many
set_option maxRecDepth 20000 in
theorem ggX9_readsOne_X9_places : GoodIn wsX9_readsOne wsX9_places := goodIn_r _ [43, 44, 45, 46, 7, 47, 34, 148, 149, 150, 151, 152, 153, 154, 155, 156, 157, 158, 159, 160, 161, 162, 163, 164, 165, 166, 167, 168, 169, 170, 171, 172, 173, 174] (by decide +kernel) (by decide +kernel)
set_option maxRecDepth 20000 in
theorem gX9_readsOne_X9_places : GoodIn wsX9_readsOne (wsV RX9 60 RX9 yX9_places wsX9_places) := goodIn_app (goodIn_of _ (by decide +kernel)) ggX9_readsOne_X9_places
set_option maxRecDepth 20000 in
theorem ggX9_readsOne_X9_takesHex : GoodIn wsX9_readsOne wsX9_takesHex := goodIn_r _ [54, 1, 2, 55, 4, 5, 6, 7, 8, 9, 10, 56, 57, 58, 59, 20, 21, 60, 61, 22, 23, 24, 62, 63, 64, 65, 66, 67, 68, 148, 149, 150, 151, 152, 153, 154, 155, 156, 157, 158, 159, 160, 161, 162, 163, 164, 165, 166, 167, 168, 169, 170, 171, 172, 173, 174] (by decide +kernel) (by decide +kernel)
set_option maxRecDepth 20000 in
theorem gX9_readsOne_X9_takesHex : GoodIn wsX9_readsOne (wsV RX9 271 RX9 yX9_takesHex wsX9_takesHex) := goodIn_app (goodIn_of _ (by decide +kernel)) ggX9_readsOne_X9_takesHex
set_option maxRecDepth 20000 in
theorem ggX9_readsOne_X9_doesOne : GoodIn wsX9_readsOne wsX9_doesOne := goodIn_r _ [72, 3, 2, 34, 73, 74, 75, 7, 76, 77, 78, 79, 80, 25, 26, 27, 28, 29, 30, 31, 32, 33, 35, 36, 37, 38, 39, 40, 41, 42, 43, 44, 45, 46, 47, 48, 49, 50, 81, 82, 83, 84, 85, 86, 87, 88, 89, 90, 91, 92, 93, 94, 95, 96, 97, 98, 99, 100, 101, 102, 103, 104, 105, 106, 107, 108, 109, 110, 111, 112, 113, 114, 115, 116, 117, 118, 119, 120, 121, 122, 123, 124, 125, 126, 127, 128, 129, 130, 131, 132, 133, 134, 135, 136, 137, 138, 139, 140, 141, 66, 67, 68, 142, 143, 144, 145, 146, 147, 148, 149, 150, 151, 152, 153, 154, 155, 156, 157, 158, 159, 160, 161, 162, 163, 164, 165, 166, 167, 168, 169, 170, 171, 172, 173, 174] (by decide +kernel) (by decide +kernel)
set_option maxRecDepth 20000 in
theorem gX9_readsOne_X9_doesOne : GoodIn wsX9_readsOne (wsV RX9 274 RX9 yX9_doesOne wsX9_doesOne) := goodIn_app (goodIn_of _ (by decide +kernel)) ggX9_readsOne_X9_doesOne
theorem dX9_readsOne_0 : decode cX9_readsOne 0 = .ok (.aload_n 0, 1) := by decide +kernel
theorem dX9_readsOne_1 : decode cX9_readsOne 1 = .ok (.invokevirtual 247, 3) := by decide +kernel
theorem dX9_readsOne_4 : decode cX9_readsOne 4 = .ok (.istore_n 1, 1) := by decide +kernel
theorem dX9_readsOne_5 : decode cX9_readsOne 5 = .ok (.iload_n 1, 1) := by decide +kernel
theorem dX9_readsOne_6 : decode cX9_readsOne 6 = .ok (.bipush 99, 2) := by decide +kernel
theorem dX9_readsOne_8 : decode cX9_readsOne 8 = .ok (.if_icmp .eq 41, 3) := by decide +kernel
theorem dX9_readsOne_11 : decode cX9_readsOne 11 = .ok (.iload_n 1, 1) := by decide +kernel
theorem dX9_readsOne_12 : decode cX9_readsOne 12 = .ok (.bipush 109, 2) := by decide +kernel
theorem dX9_readsOne_14 : decode cX9_readsOne 14 = .ok (.if_icmp .eq 35, 3) := by decide +kernel
theorem dX9_readsOne_17 : decode cX9_readsOne 17 = .ok (.iload_n 1, 1) := by decide +kernel
theorem dX9_readsOne_18 : decode cX9_readsOne 18 = .ok (.bipush 119, 2) := by decide +kernel
theorem dX9_readsOne_20 : decode cX9_readsOne 20 = .ok (.if_icmp .eq 29, 3) := by decide +kernel
theorem dX9_readsOne_23 : decode cX9_readsOne 23 = .ok (.iload_n 1, 1) := by decide +kernel
theorem dX9_readsOne_24 : decode cX9_readsOne 24 = .ok (.bipush 102, 2) := by decide +kernel
theorem dX9_readsOne_26 : decode cX9_readsOne 26 = .ok (.if_icmp .eq 23, 3) := by decide +kernel
theorem dX9_readsOne_29 : decode cX9_readsOne 29 = .ok (.iload_n 1, 1) := by decide +kernel
theorem dX9_readsOne_30 : decode cX9_readsOne 30 = .ok (.bipush 118, 2) := by decide +kernel
theorem dX9_readsOne_32 : decode cX9_readsOne 32 = .ok (.if_icmp .eq 17, 3) := by decide +kernel
theorem dX9_readsOne_35 : decode cX9_readsOne 35 = .ok (.iload_n 1, 1) := by decide +kernel
theorem dX9_readsOne_36 : decode cX9_readsOne 36 = .ok (.bipush 115, 2) := by decide +kernel
theorem dX9_readsOne_38 : decode cX9_readsOne 38 = .ok (.if_icmp .eq 11, 3) := by decide +kernel
theorem dX9_readsOne_41 : decode cX9_readsOne 41 = .ok (.iload_n 1, 1) := by decide +kernel
theorem dX9_readsOne_42 : decode cX9_readsOne 42 = .ok (.bipush 104, 2) := by decide +kernel
theorem dX9_readsOne_44 : decode cX9_readsOne 44 = .ok (.if_icmp .eq 5, 3) := by decide +kernel
theorem dX9_readsOne_47 : decode cX9_readsOne 47 = .ok (.iconst 0, 1) := by decide +kernel
theorem dX9_readsOne_48 : decode cX9_readsOne 48 = .ok (.ireturn, 1) := by decide +kernel
theorem dX9_readsOne_49 : decode cX9_readsOne 49 = .ok (.aload_n 0, 1) := by decide +kernel
theorem dX9_readsOne_50 : decode cX9_readsOne 50 = .ok (.dup, 1) := by decide +kernel
theorem dX9_readsOne_51 : decode cX9_readsOne 51 = .ok (.getfield 240, 3) := by decide +kernel
theorem dX9_readsOne_54 : decode cX9_readsOne 54 = .ok (.iconst 1, 1) := by decide +kernel
theorem dX9_readsOne_55 : decode cX9_readsOne 55 = .ok (.iadd, 1) := by decide +kernel
theorem dX9_readsOne_56 : decode cX9_readsOne 56 = .ok (.putfield 240, 3) := by decide +kernel
theorem dX9_readsOne_59 : decode cX9_readsOne 59 = .ok (.iconst 1, 1) := by decide +kernel
theorem dX9_readsOne_60 : decode cX9_readsOne 60 = .ok (.istore_n 2, 1) := by decide +kernel
theorem dX9_readsOne_61 : decode cX9_readsOne 61 = .ok (.iload_n 1, 1) := by decide +kernel
theorem dX9_readsOne_62 : decode cX9_readsOne 62 = .ok (.bipush 99, 2) := by decide +kernel
theorem dX9_readsOne_64 : decode cX9_readsOne 64 = .ok (.if_icmp .ne 43, 3) := by decide +kernel
theorem dX9_readsOne_67 : decode cX9_readsOne 67 = .ok (.aload_n 0, 1) := by decide +kernel
theorem dX9_readsOne_68 : decode cX9_readsOne 68 = .ok (.iconst 0, 1) := by decide +kernel
theorem dX9_readsOne_69 : decode cX9_readsOne 69 = .ok (.iconst 5, 1) := by decide +kernel
theorem dX9_readsOne_70 : decode cX9_readsOne 70 = .ok (.invokevirtual 265, 3) := by decide +kernel
theorem dX9_readsOne_73 : decode cX9_readsOne 73 = .ok (.istore_n 2, 1) := by decide +kernel
theorem dX9_readsOne_74 : decode cX9_readsOne 74 = .ok (.aload_n 0, 1) := by decide +kernel
theorem dX9_readsOne_75 : decode cX9_readsOne 75 = .ok (.aload_n 0, 1) := by decide +kernel
theorem dX9_readsOne_76 : decode cX9_readsOne 76 = .ok (.getfield 253, 3) := by decide +kernel
theorem dX9_readsOne_79 : decode cX9_readsOne 79 = .ok (.putfield 268, 3) := by decide +kernel
theorem dX9_readsOne_82 : decode cX9_readsOne 82 = .ok (.iload_n 2, 1) := by decide +kernel
theorem dX9_readsOne_83 : decode cX9_readsOne 83 = .ok (.ifCond .eq 19, 3) := by decide +kernel
theorem dX9_readsOne_86 : decode cX9_readsOne 86 = .ok (.aload_n 0, 1) := by decide +kernel
theorem dX9_readsOne_87 : decode cX9_readsOne 87 = .ok (.aload_n 0, 1) := by decide +kernel
theorem dX9_readsOne_88 : decode cX9_readsOne 88 = .ok (.getfield 268, 3) := by decide +kernel
theorem dX9_readsOne_91 : decode cX9_readsOne 91 = .ok (.iconst 5, 1) := by decide +kernel
theorem dX9_readsOne_92 : decode cX9_readsOne 92 = .ok (.invokevirtual 265, 3) := by decide +kernel
theorem dX9_readsOne_95 : decode cX9_readsOne 95 = .ok (.ifCond .eq 7, 3) := by decide +kernel
theorem dX9_readsOne_98 : decode cX9_readsOne 98 = .ok (.iconst 1, 1) := by decide +kernel
theorem dX9_readsOne_99 : decode cX9_readsOne 99 = .ok (.goto 4, 3) := by decide +kernel
theorem dX9_readsOne_102 : decode cX9_readsOne 102 = .ok (.iconst 0, 1) := by decide +kernel
theorem dX9_readsOne_103 : decode cX9_readsOne 103 = .ok (.istore_n 2, 1) := by decide +kernel
theorem dX9_readsOne_104 : decode cX9_readsOne 104 = .ok (.goto 99, 3) := by decide +kernel
theorem dX9_readsOne_107 : decode cX9_readsOne 107 = .ok (.iload_n 1, 1) := by decide +kernel
theorem dX9_readsOne_108 : decode cX9_readsOne 108 = .ok (.bipush 109, 2) := by decide +kernel
theorem dX9_readsOne_110 : decode cX9_readsOne 110 = .ok (.if_icmp .eq 9, 3) := by decide +kernel
theorem dX9_readsOne_113 : decode cX9_readsOne 113 = .ok (.iload_n 1, 1) := by decide +kernel
theorem dX9_readsOne_114 : decode cX9_readsOne 114 = .ok (.bipush 119, 2) := by decide +kernel
theorem dX9_readsOne_116 : decode cX9_readsOne 116 = .ok (.if_icmp .ne 28, 3) := by decide +kernel
theorem dX9_readsOne_119 : decode cX9_readsOne 119 = .ok (.aload_n 0, 1) := by decide +kernel
theorem dX9_readsOne_120 : decode cX9_readsOne 120 = .ok (.iload_n 1, 1) := by decide +kernel
theorem dX9_readsOne_121 : decode cX9_readsOne 121 = .ok (.bipush 109, 2) := by decide +kernel
theorem dX9_readsOne_123 : decode cX9_readsOne 123 = .ok (.if_icmp .ne 10, 3) := by decide +kernel
theorem dX9_readsOne_126 : decode cX9_readsOne 126 = .ok (.aload_n 0, 1) := by decide +kernel
theorem dX9_readsOne_127 : decode cX9_readsOne 127 = .ok (.invokevirtual 100, 3) := by decide +kernel
theorem dX9_readsOne_130 : decode cX9_readsOne 130 = .ok (.goto 7, 3) := by decide +kernel
theorem dX9_readsOne_133 : decode cX9_readsOne 133 = .ok (.aload_n 0, 1) := by decide +kernel
theorem dX9_readsOne_134 : decode cX9_readsOne 134 = .ok (.invokevirtual 60, 3) := by decide +kernel
theorem dX9_readsOne_137 : decode cX9_readsOne 137 = .ok (.invokevirtual 271, 3) := by decide +kernel
theorem dX9_readsOne_140 : decode cX9_readsOne 140 = .ok (.istore_n 2, 1) := by decide +kernel
theorem dX9_readsOne_141 : decode cX9_readsOne 141 = .ok (.goto 62, 3) := by decide +kernel
theorem dX9_readsOne_144 : decode cX9_readsOne 144 = .ok (.iload_n 1, 1) := by decide +kernel
theorem dX9_readsOne_145 : decode cX9_readsOne 145 = .ok (.bipush 102, 2) := by decide +kernel
theorem dX9_readsOne_147 : decode cX9_readsOne 147 = .ok (.if_icmp .eq 9, 3) := by decide +kernel
theorem dX9_readsOne_150 : decode cX9_readsOne 150 = .ok (.iload_n 1, 1) := by decide +kernel
theorem dX9_readsOne_151 : decode cX9_readsOne 151 = .ok (.bipush 115, 2) := by decide +kernel
theorem dX9_readsOne_153 : decode cX9_readsOne 153 = .ok (.if_icmp .ne 50, 3) := by decide +kernel
theorem dX9_readsOne_156 : decode cX9_readsOne 156 = .ok (.aload_n 0, 1) := by decide +kernel
theorem dX9_readsOne_157 : decode cX9_readsOne 157 = .ok (.iconst 0, 1) := by decide +kernel
theorem dX9_readsOne_158 : decode cX9_readsOne 158 = .ok (.aload_n 0, 1) := by decide +kernel
theorem dX9_readsOne_159 : decode cX9_readsOne 159 = .ok (.invokevirtual 60, 3) := by decide +kernel
theorem dX9_readsOne_162 : decode cX9_readsOne 162 = .ok (.iconst 1, 1) := by decide +kernel
theorem dX9_readsOne_163 : decode cX9_readsOne 163 = .ok (.isub, 1) := by decide +kernel
theorem dX9_readsOne_164 : decode cX9_readsOne 164 = .ok (.invokevirtual 265, 3) := by decide +kernel
theorem dX9_readsOne_167 : decode cX9_readsOne 167 = .ok (.istore_n 2, 1) := by decide +kernel
theorem dX9_readsOne_168 : decode cX9_readsOne 168 = .ok (.aload_n 0, 1) := by decide +kernel
theorem dX9_readsOne_169 : decode cX9_readsOne 169 = .ok (.aload_n 0, 1) := by decide +kernel
theorem dX9_readsOne_170 : decode cX9_readsOne 170 = .ok (.getfield 253, 3) := by decide +kernel
theorem dX9_readsOne_173 : decode cX9_readsOne 173 = .ok (.putfield 268, 3) := by decide +kernel
theorem dX9_readsOne_176 : decode cX9_readsOne 176 = .ok (.iload_n 2, 1) := by decide +kernel
theorem dX9_readsOne_177 : decode cX9_readsOne 177 = .ok (.ifCond .eq 24, 3) := by decide +kernel
theorem dX9_readsOne_180 : decode cX9_readsOne 180 = .ok (.iload_n 1, 1) := by decide +kernel
theorem dX9_readsOne_181 : decode cX9_readsOne 181 = .ok (.bipush 102, 2) := by decide +kernel
theorem dX9_readsOne_183 : decode cX9_readsOne 183 = .ok (.if_icmp .eq 14, 3) := by decide +kernel
theorem dX9_readsOne_186 : decode cX9_readsOne 186 = .ok (.aload_n 0, 1) := by decide +kernel
theorem dX9_readsOne_187 : decode cX9_readsOne 187 = .ok (.bipush (-99), 2) := by decide +kernel
theorem dX9_readsOne_189 : decode cX9_readsOne 189 = .ok (.bipush 99, 2) := by decide +kernel
theorem dX9_readsOne_191 : decode cX9_readsOne 191 = .ok (.invokevirtual 265, 3) := by decide +kernel
theorem dX9_readsOne_194 : decode cX9_readsOne 194 = .ok (.ifCond .eq 7, 3) := by decide +kernel
theorem dX9_readsOne_197 : decode cX9_readsOne 197 = .ok (.iconst 1, 1) := by decide +kernel
theorem dX9_readsOne_198 : decode cX9_readsOne 198 = .ok (.goto 4, 3) := by decide +kernel
theorem dX9_readsOne_201 : decode cX9_readsOne 201 = .ok (.iconst 0, 1) := by decide +kernel
theorem dX9_readsOne_202 : decode cX9_readsOne 202 = .ok (.istore_n 2, 1) := by decide +kernel
theorem dX9_readsOne_203 : decode cX9_readsOne 203 = .ok (.iload_n 2, 1) := by decide +kernel
theorem dX9_readsOne_204 : decode cX9_readsOne 204 = .ok (.ifCond .eq 12, 3) := by decide +kernel
theorem dX9_readsOne_207 : decode cX9_readsOne 207 = .ok (.aload_n 0, 1) := by decide +kernel
theorem dX9_readsOne_208 : decode cX9_readsOne 208 = .ok (.invokevirtual 247, 3) := by decide +kernel
theorem dX9_readsOne_211 : decode cX9_readsOne 211 = .ok (.bipush 59, 2) := by decide +kernel
theorem dX9_readsOne_213 : decode cX9_readsOne 213 = .ok (.if_icmp .eq 5, 3) := by decide +kernel
theorem dX9_readsOne_216 : decode cX9_readsOne 216 = .ok (.iconst 0, 1) := by decide +kernel
theorem dX9_readsOne_217 : decode cX9_readsOne 217 = .ok (.ireturn, 1) := by decide +kernel
theorem dX9_readsOne_218 : decode cX9_readsOne 218 = .ok (.aload_n 0, 1) := by decide +kernel
theorem dX9_readsOne_219 : decode cX9_readsOne 219 = .ok (.dup, 1) := by decide +kernel
theorem dX9_readsOne_220 : decode cX9_readsOne 220 = .ok (.getfield 240, 3) := by decide +kernel
theorem dX9_readsOne_223 : decode cX9_readsOne 223 = .ok (.iconst 1, 1) := by decide +kernel
theorem dX9_readsOne_224 : decode cX9_readsOne 224 = .ok (.iadd, 1) := by decide +kernel
theorem dX9_readsOne_225 : decode cX9_readsOne 225 = .ok (.putfield 240, 3) := by decide +kernel
theorem dX9_readsOne_228 : decode cX9_readsOne 228 = .ok (.aload_n 0, 1) := by decide +kernel
theorem dX9_readsOne_229 : decode cX9_readsOne 229 = .ok (.iload_n 1, 1) := by decide +kernel
theorem dX9_readsOne_230 : decode cX9_readsOne 230 = .ok (.invokevirtual 274, 3) := by decide +kernel
theorem dX9_readsOne_233 : decode cX9_readsOne 233 = .ok (.iconst 1, 1) := by decide +kernel
theorem dX9_readsOne_234 : decode cX9_readsOne 234 = .ok (.ireturn, 1) := by decide +kernel
set_option maxRecDepth 20000 in
theorem ggX9_doesOne_X9_becomesCode : GoodIn wsX9_doesOne wsX9_becomesCode := goodIn_r _ [8, 3, 108, 109, 110, 111, 112, 113, 114, 115, 116, 117, 118, 119, 120, 121, 122, 123, 124, 125, 126, 127, 128, 129, 130, 131, 132, 133, 134] (by decide +kernel) (by decide +kernel)
set_option maxRecDepth 20000 in
theorem gX9_doesOne_X9_becomesCode : GoodIn wsX9_doesOne (wsV RX9 96 RX9 yX9_becomesCode wsX9_becomesCode) := goodIn_app (goodIn_of _ (by decide +kernel)) ggX9_doesOne_X9_becomesCode
set_option maxRecDepth 20000 in
theorem ggX9_doesOne_X9_encodes : GoodIn wsX9_doesOne wsX9_encodes := goodIn_r _ [12, 3, 13, 14, 15, 7, 16, 17, 18, 19, 20, 21, 22, 23, 24, 25, 26, 27, 28, 29, 30, 31, 32, 33, 34, 35, 36, 37, 38, 39, 40, 41, 42, 43, 44, 45, 46, 47, 48, 49, 50, 51, 52, 108, 109, 110, 111, 112, 113, 114, 115, 116, 117, 118, 119, 120, 121, 122, 123, 124, 125, 126, 127, 128, 129, 130, 131, 132, 133, 134] (by decide +kernel) (by decide +kernel)
set_option maxRecDepth 20000 in
theorem gX9_doesOne_X9_encodes : GoodIn wsX9_doesOne (wsV RX9 119 RX9 yX9_encodes wsX9_encodes) := goodIn_app (goodIn_of _ (by decide +kernel)) ggX9_doesOne_X9_encodes
set_option maxRecDepth 20000 in
theorem ggX9_doesOne_X9_flips : GoodIn wsX9_doesOne wsX9_flips := goodIn_r _ [56, 3, 49, 50, 51, 7, 52, 42, 43, 44, 108, 109, 110, 111, 112, 113, 114, 115, 116, 117, 118, 119, 120, 121, 122, 123, 124, 125, 126, 127, 128, 129, 130, 131, 132, 133, 134] (by decide +kernel) (by decide +kernel)
set_option maxRecDepth 20000 in
theorem gX9_doesOne_X9_flips : GoodIn wsX9_doesOne (wsV RX9 126 RX9 yX9_flips wsX9_flips) := goodIn_app (goodIn_of _ (by decide +kernel)) ggX9_doesOne_X9_flips
set_option maxRecDepth 20000 in
theorem ggX9_doesOne_X9_mendsNow : GoodIn wsX9_doesOne wsX9_mendsNow := goodIn_r _ [60, 61, 3, 62, 63, 64, 7, 65, 66, 67, 68, 69, 26, 49, 50, 51, 52, 13, 14, 15, 16, 17, 18, 19, 20, 21, 22, 23, 24, 25, 27, 28, 29, 30, 31, 32, 33, 34, 35, 36, 37, 70, 71, 72, 73, 45, 46, 47, 48, 38, 39, 40, 41, 42, 43, 44, 108, 109, 110, 111, 112, 113, 114, 115, 116, 117, 118, 119, 120, 121, 122, 123, 124, 125, 126, 127, 128, 129, 130, 131, 132, 133, 134] (by decide +kernel) (by decide +kernel)
set_option maxRecDepth 20000 in
theorem gX9_doesOne_X9_mendsNow : GoodIn wsX9_doesOne (wsV RX9 165 RX9 yX9_mendsNow wsX9_mendsNow) := goodIn_app (goodIn_of _ (by decide +kernel)) ggX9_doesOne_X9_mendsNow
set_option maxRecDepth 20000 in
theorem ggX9_doesOne_X9_softens : GoodIn wsX9_doesOne wsX9_softens := goodIn_r _ [77, 3, 78, 79, 80, 7, 81, 108, 109, 110, 111, 112, 113, 114, 115, 116, 117, 118, 119, 120, 121, 122, 123, 124, 125, 126, 127, 128, 129, 130, 131, 132, 133, 134] (by decide +kernel) (by decide +kernel)
set_option maxRecDepth 20000 in
theorem gX9_doesOne_X9_softens : GoodIn wsX9_doesOne (wsV RX9 205 RX9 yX9_softens wsX9_softens) := goodIn_app (goodIn_of _ (by decide +kernel)) ggX9_doesOne_X9_softens
set_option maxRecDepth 20000 in
theorem ggX9_doesOne_X9_halvesOf : GoodIn wsX9_doesOne wsX9_halvesOf := goodIn_r _ [85, 86, 87, 88, 89, 90, 18, 19, 20, 7, 21, 3, 31, 32, 33, 34, 91, 92, 93, 94, 27, 28, 29, 30, 78, 79, 80, 81, 95, 96, 97, 98, 99, 100, 101, 102, 103, 104, 105, 106, 107, 42, 43, 44, 108, 109, 110, 111, 112, 113, 114, 115, 116, 117, 118, 119, 120, 121, 122, 123, 124, 125, 126, 127, 128, 129, 130, 131, 132, 133, 134] (by decide +kernel) (by decide +kernel)
set_option maxRecDepth 20000 in
theorem gX9_doesOne_X9_halvesOf : GoodIn wsX9_doesOne (wsV RX9 218 RX9 yX9_halvesOf wsX9_halvesOf) := goodIn_app (goodIn_of _ (by decide +kernel)) ggX9_doesOne_X9_halvesOf
theorem dX9_doesOne_0 : decode cX9_doesOne 0 = .ok (.iload_n 1, 1) := by decide +kernel
theorem dX9_doesOne_1 : decode cX9_doesOne 1 = .ok (.lookupswitch 137 #[(99, 59), (102, 99), (109, 74), (115, 120), (118, 111), (119, 86)], 59) := by decide +kernel
theorem dX9_doesOne_60 : decode cX9_doesOne 60 = .ok (.aload_n 0, 1) := by decide +kernel
theorem dX9_doesOne_61 : decode cX9_doesOne 61 = .ok (.aload_n 0, 1) := by decide +kernel
theorem dX9_doesOne_62 : decode cX9_doesOne 62 = .ok (.getfield 268, 3) := by decide +kernel
theorem dX9_doesOne_65 : decode cX9_doesOne 65 = .ok (.aload_n 0, 1) := by decide +kernel
theorem dX9_doesOne_66 : decode cX9_doesOne 66 = .ok (.getfield 253, 3) := by decide +kernel
theorem dX9_doesOne_69 : decode cX9_doesOne 69 = .ok (.invokevirtual 96, 3) := by decide +kernel
theorem dX9_doesOne_72 : decode cX9_doesOne 72 = .ok (.goto 76, 3) := by decide +kernel
theorem dX9_doesOne_75 : decode cX9_doesOne 75 = .ok (.aload_n 0, 1) := by decide +kernel
theorem dX9_doesOne_76 : decode cX9_doesOne 76 = .ok (.aload_n 0, 1) := by decide +kernel
theorem dX9_doesOne_77 : decode cX9_doesOne 77 = .ok (.getfield 253, 3) := by decide +kernel
theorem dX9_doesOne_80 : decode cX9_doesOne 80 = .ok (.invokevirtual 119, 3) := by decide +kernel
theorem dX9_doesOne_83 : decode cX9_doesOne 83 = .ok (.istore_n 2, 1) := by decide +kernel
theorem dX9_doesOne_84 : decode cX9_doesOne 84 = .ok (.goto 64, 3) := by decide +kernel
theorem dX9_doesOne_87 : decode cX9_doesOne 87 = .ok (.aload_n 0, 1) := by decide +kernel
theorem dX9_doesOne_88 : decode cX9_doesOne 88 = .ok (.getfield 7, 3) := by decide +kernel
theorem dX9_doesOne_91 : decode cX9_doesOne 91 = .ok (.iconst 2, 1) := by decide +kernel
theorem dX9_doesOne_92 : decode cX9_doesOne 92 = .ok (.aload_n 0, 1) := by decide +kernel
theorem dX9_doesOne_93 : decode cX9_doesOne 93 = .ok (.getfield 253, 3) := by decide +kernel
theorem dX9_doesOne_96 : decode cX9_doesOne 96 = .ok (.iastore, 1) := by decide +kernel
theorem dX9_doesOne_97 : decode cX9_doesOne 97 = .ok (.goto 51, 3) := by decide +kernel
theorem dX9_doesOne_100 : decode cX9_doesOne 100 = .ok (.aload_n 0, 1) := by decide +kernel
theorem dX9_doesOne_101 : decode cX9_doesOne 101 = .ok (.aload_n 0, 1) := by decide +kernel
theorem dX9_doesOne_102 : decode cX9_doesOne 102 = .ok (.getfield 268, 3) := by decide +kernel
theorem dX9_doesOne_105 : decode cX9_doesOne 105 = .ok (.invokevirtual 126, 3) := by decide +kernel
theorem dX9_doesOne_108 : decode cX9_doesOne 108 = .ok (.istore_n 3, 1) := by decide +kernel
theorem dX9_doesOne_109 : decode cX9_doesOne 109 = .ok (.goto 39, 3) := by decide +kernel
theorem dX9_doesOne_112 : decode cX9_doesOne 112 = .ok (.aload_n 0, 1) := by decide +kernel
theorem dX9_doesOne_113 : decode cX9_doesOne 113 = .ok (.invokevirtual 165, 3) := by decide +kernel
theorem dX9_doesOne_116 : decode cX9_doesOne 116 = .ok (.istore 4, 2) := by decide +kernel
theorem dX9_doesOne_118 : decode cX9_doesOne 118 = .ok (.goto 30, 3) := by decide +kernel
theorem dX9_doesOne_121 : decode cX9_doesOne 121 = .ok (.aload_n 0, 1) := by decide +kernel
theorem dX9_doesOne_122 : decode cX9_doesOne 122 = .ok (.aload_n 0, 1) := by decide +kernel
theorem dX9_doesOne_123 : decode cX9_doesOne 123 = .ok (.getfield 268, 3) := by decide +kernel
theorem dX9_doesOne_126 : decode cX9_doesOne 126 = .ok (.aload_n 0, 1) := by decide +kernel
theorem dX9_doesOne_127 : decode cX9_doesOne 127 = .ok (.getfield 253, 3) := by decide +kernel
theorem dX9_doesOne_130 : decode cX9_doesOne 130 = .ok (.invokevirtual 205, 3) := by decide +kernel
theorem dX9_doesOne_133 : decode cX9_doesOne 133 = .ok (.istore 5, 2) := by decide +kernel
theorem dX9_doesOne_135 : decode cX9_doesOne 135 = .ok (.goto 13, 3) := by decide +kernel
theorem dX9_doesOne_138 : decode cX9_doesOne 138 = .ok (.aload_n 0, 1) := by decide +kernel
theorem dX9_doesOne_139 : decode cX9_doesOne 139 = .ok (.getfield 7, 3) := by decide +kernel
theorem dX9_doesOne_142 : decode cX9_doesOne 142 = .ok (.iconst 2, 1) := by decide +kernel
theorem dX9_doesOne_143 : decode cX9_doesOne 143 = .ok (.aload_n 0, 1) := by decide +kernel
theorem dX9_doesOne_144 : decode cX9_doesOne 144 = .ok (.invokevirtual 218, 3) := by decide +kernel
theorem dX9_doesOne_147 : decode cX9_doesOne 147 = .ok (.iastore, 1) := by decide +kernel
theorem dX9_doesOne_148 : decode cX9_doesOne 148 = .ok (.return_, 1) := by decide +kernel
set_option maxRecDepth 20000 in
theorem ggX9_does_X9_readsOne : GoodIn wsX9_does wsX9_readsOne := goodIn_r _ [8, 3, 9, 10, 11, 12, 13, 7, 14, 15, 16, 17, 18, 19, 20, 21, 22, 23, 24, 25, 26, 27, 28, 29, 30, 31, 32, 33, 34, 35, 36, 37, 38, 39, 2, 40, 41, 42, 43, 44, 45, 46, 47, 48, 49, 50, 51, 52, 53, 54, 55, 56, 57, 58, 59, 60, 61, 62, 63, 64, 65, 66, 67, 68, 69, 70, 71, 72, 73, 74, 75, 76, 77, 78, 79, 80, 81, 82, 83, 84, 85, 86, 87, 88, 89, 90, 91, 92, 93, 94, 95, 96, 97, 98, 99, 100, 101, 102, 103, 104, 105, 106, 107, 108, 109, 110, 111, 112, 113, 114, 115, 116, 117, 118, 119, 120, 121, 122, 123, 124, 125, 126, 127, 128, 129, 130, 131, 132, 133, 134, 135, 136, 137, 138, 139, 140, 141, 142, 143, 144, 145, 146, 147, 148, 149, 150, 151, 152, 164, 165, 166, 167, 168, 169, 170, 171, 172, 173, 174, 175, 176, 177, 178, 179, 180, 181, 182, 183, 184, 185, 186, 187, 188, 189, 190] (by decide +kernel) (by decide +kernel)
set_option maxRecDepth 20000 in
theorem gX9_does_X9_readsOne : GoodIn wsX9_does (wsV RX9 277 RX9 yX9_readsOne wsX9_readsOne) := goodIn_app (goodIn_of _ (by decide +kernel)) ggX9_does_X9_readsOne
set_option maxRecDepth 20000 in
theorem ggX9_does_X9_here : GoodIn wsX9_does wsX9_here := goodIn_r _ [14, 3, 15, 16, 164, 165, 166, 167, 168, 169, 170, 171, 172, 173, 174, 175, 176, 177, 178, 179, 180, 181, 182, 183, 184, 185, 186, 187, 188, 189, 190] (by decide +kernel) (by decide +kernel)
set_option maxRecDepth 20000 in
theorem gX9_does_X9_here : GoodIn wsX9_does (wsV RX9 247 RX9 yX9_here wsX9_here) := goodIn_app (goodIn_of _ (by decide +kernel)) ggX9_does_X9_here
set_option maxRecDepth 20000 in
theorem ggX9_does_X9_keepsAside : GoodIn wsX9_does wsX9_keepsAside := goodIn_r _ [156, 157, 2, 1, 158, 159, 160, 7, 161, 162, 163, 164, 165, 166, 167, 168, 169, 170, 171, 172, 173, 174, 175, 176, 177, 178, 179, 180, 181, 182, 183, 184, 185, 186, 187, 188, 189, 190] (by decide +kernel) (by decide +kernel)
set_option maxRecDepth 20000 in
theorem gX9_does_X9_keepsAside : GoodIn wsX9_does (wsV RX9 280 RX9 yX9_keepsAside wsX9_keepsAside) := goodIn_app (goodIn_of _ (by decide +kernel)) ggX9_does_X9_keepsAside
theorem dX9_does_0 : decode cX9_does 0 = .ok (.iconst 0, 1) := by decide +kernel
theorem dX9_does_1 : decode cX9_does 1 = .ok (.istore_n 1, 1) := by decide +kernel
theorem dX9_does_2 : decode cX9_does 2 = .ok (.iconst 1, 1) := by decide +kernel
theorem dX9_does_3 : decode cX9_does 3 = .ok (.istore_n 2, 1) := by decide +kernel
theorem dX9_does_4 : decode cX9_does 4 = .ok (.iconst 0, 1) := by decide +kernel
theorem dX9_does_5 : decode cX9_does 5 = .ok (.istore_n 3, 1) := by decide +kernel
theorem dX9_does_6 : decode cX9_does 6 = .ok (.iload_n 3, 1) := by decide +kernel
theorem dX9_does_7 : decode cX9_does 7 = .ok (.bipush 35, 2) := by decide +kernel
theorem dX9_does_9 : decode cX9_does 9 = .ok (.if_icmp .ge 21, 3) := by decide +kernel
theorem dX9_does_12 : decode cX9_does 12 = .ok (.aload_n 0, 1) := by decide +kernel
theorem dX9_does_13 : decode cX9_does 13 = .ok (.getfield 43, 3) := by decide +kernel
theorem dX9_does_16 : decode cX9_does 16 = .ok (.iload_n 3, 1) := by decide +kernel
theorem dX9_does_17 : decode cX9_does 17 = .ok (.aload_n 0, 1) := by decide +kernel
theorem dX9_does_18 : decode cX9_does 18 = .ok (.getfield 7, 3) := by decide +kernel
theorem dX9_does_21 : decode cX9_does 21 = .ok (.iload_n 3, 1) := by decide +kernel
theorem dX9_does_22 : decode cX9_does 22 = .ok (.iaload, 1) := by decide +kernel
theorem dX9_does_23 : decode cX9_does 23 = .ok (.iastore, 1) := by decide +kernel
theorem dX9_does_24 : decode cX9_does 24 = .ok (.iinc 3 1, 3) := by decide +kernel
theorem dX9_does_27 : decode cX9_does 27 = .ok (.goto (-21), 3) := by decide +kernel
theorem dX9_does_30 : decode cX9_does 30 = .ok (.aload_n 0, 1) := by decide +kernel
theorem dX9_does_31 : decode cX9_does 31 = .ok (.iconst 0, 1) := by decide +kernel
theorem dX9_does_32 : decode cX9_does 32 = .ok (.putfield 240, 3) := by decide +kernel
theorem dX9_does_35 : decode cX9_does 35 = .ok (.iload_n 2, 1) := by decide +kernel
theorem dX9_does_36 : decode cX9_does 36 = .ok (.ifCond .eq 64, 3) := by decide +kernel
theorem dX9_does_39 : decode cX9_does 39 = .ok (.aload_n 0, 1) := by decide +kernel
theorem dX9_does_40 : decode cX9_does 40 = .ok (.invokevirtual 277, 3) := by decide +kernel
theorem dX9_does_43 : decode cX9_does 43 = .ok (.ifCond .ne 37, 3) := by decide +kernel
theorem dX9_does_46 : decode cX9_does 46 = .ok (.iconst 0, 1) := by decide +kernel
theorem dX9_does_47 : decode cX9_does 47 = .ok (.istore_n 3, 1) := by decide +kernel
theorem dX9_does_48 : decode cX9_does 48 = .ok (.iload_n 3, 1) := by decide +kernel
theorem dX9_does_49 : decode cX9_does 49 = .ok (.bipush 35, 2) := by decide +kernel
theorem dX9_does_51 : decode cX9_does 51 = .ok (.if_icmp .ge 21, 3) := by decide +kernel
theorem dX9_does_54 : decode cX9_does 54 = .ok (.aload_n 0, 1) := by decide +kernel
theorem dX9_does_55 : decode cX9_does 55 = .ok (.getfield 7, 3) := by decide +kernel
theorem dX9_does_58 : decode cX9_does 58 = .ok (.iload_n 3, 1) := by decide +kernel
theorem dX9_does_59 : decode cX9_does 59 = .ok (.aload_n 0, 1) := by decide +kernel
theorem dX9_does_60 : decode cX9_does 60 = .ok (.getfield 43, 3) := by decide +kernel
theorem dX9_does_63 : decode cX9_does 63 = .ok (.iload_n 3, 1) := by decide +kernel
theorem dX9_does_64 : decode cX9_does 64 = .ok (.iaload, 1) := by decide +kernel
theorem dX9_does_65 : decode cX9_does 65 = .ok (.iastore, 1) := by decide +kernel
theorem dX9_does_66 : decode cX9_does 66 = .ok (.iinc 3 1, 3) := by decide +kernel
theorem dX9_does_69 : decode cX9_does 69 = .ok (.goto (-21), 3) := by decide +kernel
theorem dX9_does_72 : decode cX9_does 72 = .ok (.bipush (-10), 2) := by decide +kernel
theorem dX9_does_74 : decode cX9_does 74 = .ok (.aload_n 0, 1) := by decide +kernel
theorem dX9_does_75 : decode cX9_does 75 = .ok (.getfield 240, 3) := by decide +kernel
theorem dX9_does_78 : decode cX9_does 78 = .ok (.isub, 1) := by decide +kernel
theorem dX9_does_79 : decode cX9_does 79 = .ok (.ireturn, 1) := by decide +kernel
theorem dX9_does_80 : decode cX9_does 80 = .ok (.iinc 1 1, 3) := by decide +kernel
theorem dX9_does_83 : decode cX9_does 83 = .ok (.aload_n 0, 1) := by decide +kernel
theorem dX9_does_84 : decode cX9_does 84 = .ok (.invokevirtual 247, 3) := by decide +kernel
theorem dX9_does_87 : decode cX9_does 87 = .ok (.iconst (-1), 1) := by decide +kernel
theorem dX9_does_88 : decode cX9_does 88 = .ok (.if_icmp .eq 7, 3) := by decide +kernel
theorem dX9_does_91 : decode cX9_does 91 = .ok (.iconst 1, 1) := by decide +kernel
theorem dX9_does_92 : decode cX9_does 92 = .ok (.goto 4, 3) := by decide +kernel
theorem dX9_does_95 : decode cX9_does 95 = .ok (.iconst 0, 1) := by decide +kernel
theorem dX9_does_96 : decode cX9_does 96 = .ok (.istore_n 2, 1) := by decide +kernel
theorem dX9_does_97 : decode cX9_does 97 = .ok (.goto (-62), 3) := by decide +kernel
theorem dX9_does_100 : decode cX9_does 100 = .ok (.aload_n 0, 1) := by decide +kernel
theorem dX9_does_101 : decode cX9_does 101 = .ok (.invokevirtual 280, 3) := by decide +kernel
theorem dX9_does_104 : decode cX9_does 104 = .ok (.iload_n 1, 1) := by decide +kernel
theorem dX9_does_105 : decode cX9_does 105 = .ok (.ireturn, 1) := by decide +kernel
set_option maxRecDepth 20000 in
theorem ggX9_keepsAside_X9_keep : GoodIn wsX9_keepsAside wsX9_keep := goodIn_r _ [8, 9, 10, 2, 11, 12, 13, 14, 15, 16, 17, 18, 19, 20, 21, 22, 23, 24, 25, 26, 27, 28, 29, 30, 31, 32, 33, 34, 35, 36, 37] (by decide +kernel) (by decide +kernel)
set_option maxRecDepth 20000 in
theorem gX9_keepsAside_X9_keep : GoodIn wsX9_keepsAside (wsV RX9 93 RX9 yX9_keep wsX9_keep) := goodIn_app (goodIn_of _ (by decide +kernel)) ggX9_keepsAside_X9_keep
theorem dX9_keepsAside_0 : decode cX9_keepsAside 0 = .ok (.iconst 0, 1) := by decide +kernel
theorem dX9_keepsAside_1 : decode cX9_keepsAside 1 = .ok (.istore_n 1, 1) := by decide +kernel
theorem dX9_keepsAside_2 : decode cX9_keepsAside 2 = .ok (.iload_n 1, 1) := by decide +kernel
theorem dX9_keepsAside_3 : decode cX9_keepsAside 3 = .ok (.bipush 35, 2) := by decide +kernel
theorem dX9_keepsAside_5 : decode cX9_keepsAside 5 = .ok (.if_icmp .ge 33, 3) := by decide +kernel
theorem dX9_keepsAside_8 : decode cX9_keepsAside 8 = .ok (.aload_n 0, 1) := by decide +kernel
theorem dX9_keepsAside_9 : decode cX9_keepsAside 9 = .ok (.getfield 46, 3) := by decide +kernel
theorem dX9_keepsAside_12 : decode cX9_keepsAside 12 = .ok (.iload_n 1, 1) := by decide +kernel
theorem dX9_keepsAside_13 : decode cX9_keepsAside 13 = .ok (.aload_n 0, 1) := by decide +kernel
theorem dX9_keepsAside_14 : decode cX9_keepsAside 14 = .ok (.getfield 7, 3) := by decide +kernel
theorem dX9_keepsAside_17 : decode cX9_keepsAside 17 = .ok (.iload_n 1, 1) := by decide +kernel
theorem dX9_keepsAside_18 : decode cX9_keepsAside 18 = .ok (.iaload, 1) := by decide +kernel
theorem dX9_keepsAside_19 : decode cX9_keepsAside 19 = .ok (.iastore, 1) := by decide +kernel
theorem dX9_keepsAside_20 : decode cX9_keepsAside 20 = .ok (.aload_n 0, 1) := by decide +kernel
theorem dX9_keepsAside_21 : decode cX9_keepsAside 21 = .ok (.getfield 7, 3) := by decide +kernel
theorem dX9_keepsAside_24 : decode cX9_keepsAside 24 = .ok (.iload_n 1, 1) := by decide +kernel
theorem dX9_keepsAside_25 : decode cX9_keepsAside 25 = .ok (.aload_n 0, 1) := by decide +kernel
theorem dX9_keepsAside_26 : decode cX9_keepsAside 26 = .ok (.getfield 43, 3) := by decide +kernel
theorem dX9_keepsAside_29 : decode cX9_keepsAside 29 = .ok (.iload_n 1, 1) := by decide +kernel
theorem dX9_keepsAside_30 : decode cX9_keepsAside 30 = .ok (.iaload, 1) := by decide +kernel
theorem dX9_keepsAside_31 : decode cX9_keepsAside 31 = .ok (.iastore, 1) := by decide +kernel
theorem dX9_keepsAside_32 : decode cX9_keepsAside 32 = .ok (.iinc 1 1, 3) := by decide +kernel
theorem dX9_keepsAside_35 : decode cX9_keepsAside 35 = .ok (.goto (-33), 3) := by decide +kernel
theorem dX9_keepsAside_38 : decode cX9_keepsAside 38 = .ok (.aload_n 0, 1) := by decide +kernel
theorem dX9_keepsAside_39 : decode cX9_keepsAside 39 = .ok (.invokevirtual 93, 3) := by decide +kernel
theorem dX9_keepsAside_42 : decode cX9_keepsAside 42 = .ok (.iconst 0, 1) := by decide +kernel
theorem dX9_keepsAside_43 : decode cX9_keepsAside 43 = .ok (.istore_n 1, 1) := by decide +kernel
theorem dX9_keepsAside_44 : decode cX9_keepsAside 44 = .ok (.iload_n 1, 1) := by decide +kernel
theorem dX9_keepsAside_45 : decode cX9_keepsAside 45 = .ok (.bipush 35, 2) := by decide +kernel
theorem dX9_keepsAside_47 : decode cX9_keepsAside 47 = .ok (.if_icmp .ge 21, 3) := by decide +kernel
theorem dX9_keepsAside_50 : decode cX9_keepsAside 50 = .ok (.aload_n 0, 1) := by decide +kernel
theorem dX9_keepsAside_51 : decode cX9_keepsAside 51 = .ok (.getfield 7, 3) := by decide +kernel
theorem dX9_keepsAside_54 : decode cX9_keepsAside 54 = .ok (.iload_n 1, 1) := by decide +kernel
theorem dX9_keepsAside_55 : decode cX9_keepsAside 55 = .ok (.aload_n 0, 1) := by decide +kernel
theorem dX9_keepsAside_56 : decode cX9_keepsAside 56 = .ok (.getfield 46, 3) := by decide +kernel
theorem dX9_keepsAside_59 : decode cX9_keepsAside 59 = .ok (.iload_n 1, 1) := by decide +kernel
theorem dX9_keepsAside_60 : decode cX9_keepsAside 60 = .ok (.iaload, 1) := by decide +kernel
theorem dX9_keepsAside_61 : decode cX9_keepsAside 61 = .ok (.iastore, 1) := by decide +kernel
theorem dX9_keepsAside_62 : decode cX9_keepsAside 62 = .ok (.iinc 1 1, 3) := by decide +kernel
theorem dX9_keepsAside_65 : decode cX9_keepsAside 65 = .ok (.goto (-21), 3) := by decide +kernel
theorem dX9_keepsAside_68 : decode cX9_keepsAside 68 = .ok (.return_, 1) := by decide +kernel
set_option maxRecDepth 20000 in
theorem ggX9_back_X9_no : GoodIn wsX9_back wsX9_no := goodIn_r _ [8, 9, 10, 11, 12, 13, 14, 15, 16, 17, 18, 19, 20, 21, 22, 23, 24, 25, 26, 27, 28, 29, 30, 31, 32, 33, 34, 35, 36] (by decide +kernel) (by decide +kernel)
set_option maxRecDepth 20000 in
theorem gX9_back_X9_no : GoodIn wsX9_back (wsV RX9 192 RX9 yX9_no wsX9_no) := goodIn_app (goodIn_of _ (by decide +kernel)) ggX9_back_X9_no
theorem dX9_back_0 : decode cX9_back 0 = .ok (.aload_n 0, 1) := by decide +kernel
theorem dX9_back_1 : decode cX9_back 1 = .ok (.getfield 53, 3) := by decide +kernel
theorem dX9_back_4 : decode cX9_back 4 = .ok (.ifCond .ne 10, 3) := by decide +kernel
theorem dX9_back_7 : decode cX9_back 7 = .ok (.aload_n 0, 1) := by decide +kernel
theorem dX9_back_8 : decode cX9_back 8 = .ok (.bipush (-3), 2) := by decide +kernel
theorem dX9_back_10 : decode cX9_back 10 = .ok (.invokevirtual 192, 3) := by decide +kernel
theorem dX9_back_13 : decode cX9_back 13 = .ok (.ireturn, 1) := by decide +kernel
theorem dX9_back_14 : decode cX9_back 14 = .ok (.aload_n 0, 1) := by decide +kernel
theorem dX9_back_15 : decode cX9_back 15 = .ok (.dup, 1) := by decide +kernel
theorem dX9_back_16 : decode cX9_back 16 = .ok (.getfield 53, 3) := by decide +kernel
theorem dX9_back_19 : decode cX9_back 19 = .ok (.iconst 1, 1) := by decide +kernel
theorem dX9_back_20 : decode cX9_back 20 = .ok (.isub, 1) := by decide +kernel
theorem dX9_back_21 : decode cX9_back 21 = .ok (.putfield 53, 3) := by decide +kernel
theorem dX9_back_24 : decode cX9_back 24 = .ok (.iconst 0, 1) := by decide +kernel
theorem dX9_back_25 : decode cX9_back 25 = .ok (.istore_n 1, 1) := by decide +kernel
theorem dX9_back_26 : decode cX9_back 26 = .ok (.iload_n 1, 1) := by decide +kernel
theorem dX9_back_27 : decode cX9_back 27 = .ok (.bipush 35, 2) := by decide +kernel
theorem dX9_back_29 : decode cX9_back 29 = .ok (.if_icmp .ge 29, 3) := by decide +kernel
theorem dX9_back_32 : decode cX9_back 32 = .ok (.aload_n 0, 1) := by decide +kernel
theorem dX9_back_33 : decode cX9_back 33 = .ok (.getfield 7, 3) := by decide +kernel
theorem dX9_back_36 : decode cX9_back 36 = .ok (.iload_n 1, 1) := by decide +kernel
theorem dX9_back_37 : decode cX9_back 37 = .ok (.aload_n 0, 1) := by decide +kernel
theorem dX9_back_38 : decode cX9_back 38 = .ok (.getfield 13, 3) := by decide +kernel
theorem dX9_back_41 : decode cX9_back 41 = .ok (.bipush 35, 2) := by decide +kernel
theorem dX9_back_43 : decode cX9_back 43 = .ok (.aload_n 0, 1) := by decide +kernel
theorem dX9_back_44 : decode cX9_back 44 = .ok (.getfield 53, 3) := by decide +kernel
theorem dX9_back_47 : decode cX9_back 47 = .ok (.imul, 1) := by decide +kernel
theorem dX9_back_48 : decode cX9_back 48 = .ok (.iload_n 1, 1) := by decide +kernel
theorem dX9_back_49 : decode cX9_back 49 = .ok (.iadd, 1) := by decide +kernel
theorem dX9_back_50 : decode cX9_back 50 = .ok (.iaload, 1) := by decide +kernel
theorem dX9_back_51 : decode cX9_back 51 = .ok (.iastore, 1) := by decide +kernel
theorem dX9_back_52 : decode cX9_back 52 = .ok (.iinc 1 1, 3) := by decide +kernel
theorem dX9_back_55 : decode cX9_back 55 = .ok (.goto (-29), 3) := by decide +kernel
theorem dX9_back_58 : decode cX9_back 58 = .ok (.aload_n 0, 1) := by decide +kernel
theorem dX9_back_59 : decode cX9_back 59 = .ok (.getfield 53, 3) := by decide +kernel
theorem dX9_back_62 : decode cX9_back 62 = .ok (.ireturn, 1) := by decide +kernel
theorem dX9_toldOf_0 : decode cX9_toldOf 0 = .ok (.iload_n 1, 1) := by decide +kernel
theorem dX9_toldOf_1 : decode cX9_toldOf 1 = .ok (.iconst 3, 1) := by decide +kernel
theorem dX9_toldOf_2 : decode cX9_toldOf 2 = .ok (.if_icmp .ge 12, 3) := by decide +kernel
theorem dX9_toldOf_5 : decode cX9_toldOf 5 = .ok (.aload_n 0, 1) := by decide +kernel
theorem dX9_toldOf_6 : decode cX9_toldOf 6 = .ok (.getfield 16, 3) := by decide +kernel
theorem dX9_toldOf_9 : decode cX9_toldOf 9 = .ok (.iload_n 1, 1) := by decide +kernel
theorem dX9_toldOf_10 : decode cX9_toldOf 10 = .ok (.iaload, 1) := by decide +kernel
theorem dX9_toldOf_11 : decode cX9_toldOf 11 = .ok (.goto 19, 3) := by decide +kernel
theorem dX9_toldOf_14 : decode cX9_toldOf 14 = .ok (.iload_n 1, 1) := by decide +kernel
theorem dX9_toldOf_15 : decode cX9_toldOf 15 = .ok (.iconst 3, 1) := by decide +kernel
theorem dX9_toldOf_16 : decode cX9_toldOf 16 = .ok (.if_icmp .ne 10, 3) := by decide +kernel
theorem dX9_toldOf_19 : decode cX9_toldOf 19 = .ok (.aload_n 0, 1) := by decide +kernel
theorem dX9_toldOf_20 : decode cX9_toldOf 20 = .ok (.getfield 234, 3) := by decide +kernel
theorem dX9_toldOf_23 : decode cX9_toldOf 23 = .ok (.goto 7, 3) := by decide +kernel
theorem dX9_toldOf_26 : decode cX9_toldOf 26 = .ok (.aload_n 0, 1) := by decide +kernel
theorem dX9_toldOf_27 : decode cX9_toldOf 27 = .ok (.getfield 53, 3) := by decide +kernel
theorem dX9_toldOf_30 : decode cX9_toldOf 30 = .ok (.ireturn, 1) := by decide +kernel
set_option maxRecDepth 20000 in
theorem ggX9_told_X9_in : GoodIn wsX9_told wsX9_in := goodIn_r _ [5] (by decide +kernel) (by decide +kernel)
set_option maxRecDepth 20000 in
theorem gX9_told_X9_in : GoodIn wsX9_told (va_wsS RX9 83 yX9_in wsX9_in) := goodIn_app (goodIn_of _ (by decide +kernel)) ggX9_told_X9_in
set_option maxRecDepth 20000 in
theorem ggX9_told_X9_toldOf : GoodIn wsX9_told wsX9_toldOf := goodIn_r _ [9, 10, 11, 12, 17, 18, 19, 20, 21, 22, 23, 24, 25, 26, 27, 28, 29, 30, 31, 32, 33, 34, 35, 36, 37, 38, 39, 40, 41, 42, 43] (by decide +kernel) (by decide +kernel)
set_option maxRecDepth 20000 in
theorem gX9_told_X9_toldOf : GoodIn wsX9_told (wsV RX9 285 RX9 yX9_toldOf wsX9_toldOf) := goodIn_app (goodIn_of _ (by decide +kernel)) ggX9_told_X9_toldOf
set_option maxRecDepth 20000 in
theorem ggX9_told_X9_bad : GoodIn wsX9_told wsX9_bad := goodIn_r _ [16, 10, 17, 18, 19, 20, 21, 22, 23, 24, 25, 26, 27, 28, 29, 30, 31, 32, 33, 34, 35, 36, 37, 38, 39, 40, 41, 42, 43] (by decide +kernel) (by decide +kernel)
set_option maxRecDepth 20000 in
theorem gX9_told_X9_bad : GoodIn wsX9_told (wsV RX9 90 RX9 yX9_bad wsX9_bad) := goodIn_app (goodIn_of _ (by decide +kernel)) ggX9_told_X9_bad
theorem dX9_told_0 : decode cX9_told 0 = .ok (.iload_n 1, 1) := by decide +kernel
theorem dX9_told_1 : decode cX9_told 1 = .ok (.i2l, 1) := by decide +kernel
theorem dX9_told_2 : decode cX9_told 2 = .ok (.lconst 0, 1) := by decide +kernel
theorem dX9_told_3 : decode cX9_told 3 = .ok (.ldc2_w 283, 3) := by decide +kernel
theorem dX9_told_6 : decode cX9_told 6 = .ok (.invokestatic 83, 3) := by decide +kernel
theorem dX9_told_9 : decode cX9_told 9 = .ok (.ifCond .eq 11, 3) := by decide +kernel
theorem dX9_told_12 : decode cX9_told 12 = .ok (.aload_n 0, 1) := by decide +kernel
theorem dX9_told_13 : decode cX9_told 13 = .ok (.iload_n 1, 1) := by decide +kernel
theorem dX9_told_14 : decode cX9_told 14 = .ok (.invokevirtual 285, 3) := by decide +kernel
theorem dX9_told_17 : decode cX9_told 17 = .ok (.goto 9, 3) := by decide +kernel
theorem dX9_told_20 : decode cX9_told 20 = .ok (.aload_n 0, 1) := by decide +kernel
theorem dX9_told_21 : decode cX9_told 21 = .ok (.bipush (-2), 2) := by decide +kernel
theorem dX9_told_23 : decode cX9_told 23 = .ok (.invokevirtual 90, 3) := by decide +kernel
theorem dX9_told_26 : decode cX9_told 26 = .ok (.ireturn, 1) := by decide +kernel
set_option maxRecDepth 20000 in
theorem ggX9_digest_X9_toldOf : GoodIn wsX9_digest wsX9_toldOf := goodIn_r _ [8, 9, 10, 11, 99, 100, 101, 102, 103, 104, 105, 106, 107, 108, 109, 110, 111, 112, 113, 114, 115, 116, 117, 118, 119, 120, 121, 122, 123, 124, 125] (by decide +kernel) (by decide +kernel)
set_option maxRecDepth 20000 in
theorem gX9_digest_X9_toldOf : GoodIn wsX9_digest (wsV RX9 285 RX9 yX9_toldOf wsX9_toldOf) := goodIn_app (goodIn_of _ (by decide +kernel)) ggX9_digest_X9_toldOf
set_option maxRecDepth 20000 in
theorem ggX9_digest_X9_places : GoodIn wsX9_digest wsX9_places := goodIn_r _ [15, 16, 17, 18, 7, 19, 3, 99, 100, 101, 102, 103, 104, 105, 106, 107, 108, 109, 110, 111, 112, 113, 114, 115, 116, 117, 118, 119, 120, 121, 122, 123, 124, 125] (by decide +kernel) (by decide +kernel)
set_option maxRecDepth 20000 in
theorem gX9_digest_X9_places : GoodIn wsX9_digest (wsV RX9 60 RX9 yX9_places wsX9_places) := goodIn_app (goodIn_of _ (by decide +kernel)) ggX9_digest_X9_places
set_option maxRecDepth 20000 in
theorem ggX9_digest_X9_votes : GoodIn wsX9_digest wsX9_votes := goodIn_r _ [23, 24, 25, 26, 27, 7, 28, 29, 30, 31, 32, 33, 34, 35, 36, 37, 3, 38, 39, 40, 41, 42, 43, 44, 45, 46, 47, 48, 49, 50, 12, 13, 14, 15, 16, 17, 18, 19, 51, 52, 53, 54, 55, 56, 57, 58, 59, 60, 61, 62, 63, 64, 65, 66, 67, 68, 99, 100, 101, 102, 103, 104, 105, 106, 107, 108, 109, 110, 111, 112, 113, 114, 115, 116, 117, 118, 119, 120, 121, 122, 123, 124, 125] (by decide +kernel) (by decide +kernel)
set_option maxRecDepth 20000 in
theorem gX9_digest_X9_votes : GoodIn wsX9_digest (wsV RX9 292 RX9 yX9_votes wsX9_votes) := goodIn_app (goodIn_of _ (by decide +kernel)) ggX9_digest_X9_votes
set_option maxRecDepth 20000 in
theorem ggX9_digest_X9_halvesOf : GoodIn wsX9_digest wsX9_halvesOf := goodIn_r _ [72, 73, 74, 75, 76, 77, 43, 44, 45, 7, 46, 3, 16, 17, 18, 19, 78, 79, 80, 81, 12, 13, 14, 15, 82, 83, 84, 85, 86, 87, 88, 89, 90, 91, 92, 93, 94, 95, 96, 97, 98, 66, 67, 68, 99, 100, 101, 102, 103, 104, 105, 106, 107, 108, 109, 110, 111, 112, 113, 114, 115, 116, 117, 118, 119, 120, 121, 122, 123, 124, 125] (by decide +kernel) (by decide +kernel)
set_option maxRecDepth 20000 in
theorem gX9_digest_X9_halvesOf : GoodIn wsX9_digest (wsV RX9 218 RX9 yX9_halvesOf wsX9_halvesOf) := goodIn_app (goodIn_of _ (by decide +kernel)) ggX9_digest_X9_halvesOf
theorem dX9_digest_0 : decode cX9_digest 0 = .ok (.ldc2_w 288, 3) := by decide +kernel
theorem dX9_digest_3 : decode cX9_digest 3 = .ok (.lstore_n 1, 1) := by decide +kernel
theorem dX9_digest_4 : decode cX9_digest 4 = .ok (.iconst 0, 1) := by decide +kernel
theorem dX9_digest_5 : decode cX9_digest 5 = .ok (.istore_n 3, 1) := by decide +kernel
theorem dX9_digest_6 : decode cX9_digest 6 = .ok (.iload_n 3, 1) := by decide +kernel
theorem dX9_digest_7 : decode cX9_digest 7 = .ok (.iconst 5, 1) := by decide +kernel
theorem dX9_digest_8 : decode cX9_digest 8 = .ok (.if_icmp .ge 22, 3) := by decide +kernel
theorem dX9_digest_11 : decode cX9_digest 11 = .ok (.ldc2_w 290, 3) := by decide +kernel
theorem dX9_digest_14 : decode cX9_digest 14 = .ok (.lload_n 1, 1) := by decide +kernel
theorem dX9_digest_15 : decode cX9_digest 15 = .ok (.lmul, 1) := by decide +kernel
theorem dX9_digest_16 : decode cX9_digest 16 = .ok (.aload_n 0, 1) := by decide +kernel
theorem dX9_digest_17 : decode cX9_digest 17 = .ok (.iload_n 3, 1) := by decide +kernel
theorem dX9_digest_18 : decode cX9_digest 18 = .ok (.invokevirtual 285, 3) := by decide +kernel
theorem dX9_digest_21 : decode cX9_digest 21 = .ok (.i2l, 1) := by decide +kernel
theorem dX9_digest_22 : decode cX9_digest 22 = .ok (.ladd, 1) := by decide +kernel
theorem dX9_digest_23 : decode cX9_digest 23 = .ok (.lstore_n 1, 1) := by decide +kernel
theorem dX9_digest_24 : decode cX9_digest 24 = .ok (.iinc 3 1, 3) := by decide +kernel
theorem dX9_digest_27 : decode cX9_digest 27 = .ok (.goto (-21), 3) := by decide +kernel
theorem dX9_digest_30 : decode cX9_digest 30 = .ok (.iconst 0, 1) := by decide +kernel
theorem dX9_digest_31 : decode cX9_digest 31 = .ok (.istore_n 3, 1) := by decide +kernel
theorem dX9_digest_32 : decode cX9_digest 32 = .ok (.iload_n 3, 1) := by decide +kernel
theorem dX9_digest_33 : decode cX9_digest 33 = .ok (.iconst 3, 1) := by decide +kernel
theorem dX9_digest_34 : decode cX9_digest 34 = .ok (.aload_n 0, 1) := by decide +kernel
theorem dX9_digest_35 : decode cX9_digest 35 = .ok (.invokevirtual 60, 3) := by decide +kernel
theorem dX9_digest_38 : decode cX9_digest 38 = .ok (.iadd, 1) := by decide +kernel
theorem dX9_digest_39 : decode cX9_digest 39 = .ok (.if_icmp .ge 23, 3) := by decide +kernel
theorem dX9_digest_42 : decode cX9_digest 42 = .ok (.ldc2_w 290, 3) := by decide +kernel
theorem dX9_digest_45 : decode cX9_digest 45 = .ok (.lload_n 1, 1) := by decide +kernel
theorem dX9_digest_46 : decode cX9_digest 46 = .ok (.lmul, 1) := by decide +kernel
theorem dX9_digest_47 : decode cX9_digest 47 = .ok (.aload_n 0, 1) := by decide +kernel
theorem dX9_digest_48 : decode cX9_digest 48 = .ok (.getfield 7, 3) := by decide +kernel
theorem dX9_digest_51 : decode cX9_digest 51 = .ok (.iload_n 3, 1) := by decide +kernel
theorem dX9_digest_52 : decode cX9_digest 52 = .ok (.iaload, 1) := by decide +kernel
theorem dX9_digest_53 : decode cX9_digest 53 = .ok (.i2l, 1) := by decide +kernel
theorem dX9_digest_54 : decode cX9_digest 54 = .ok (.ladd, 1) := by decide +kernel
theorem dX9_digest_55 : decode cX9_digest 55 = .ok (.lstore_n 1, 1) := by decide +kernel
theorem dX9_digest_56 : decode cX9_digest 56 = .ok (.iinc 3 1, 3) := by decide +kernel
theorem dX9_digest_59 : decode cX9_digest 59 = .ok (.goto (-27), 3) := by decide +kernel
theorem dX9_digest_62 : decode cX9_digest 62 = .ok (.aload_n 0, 1) := by decide +kernel
theorem dX9_digest_63 : decode cX9_digest 63 = .ok (.invokevirtual 292, 3) := by decide +kernel
theorem dX9_digest_66 : decode cX9_digest 66 = .ok (.istore_n 3, 1) := by decide +kernel
theorem dX9_digest_67 : decode cX9_digest 67 = .ok (.ldc2_w 290, 3) := by decide +kernel
theorem dX9_digest_70 : decode cX9_digest 70 = .ok (.ldc2_w 290, 3) := by decide +kernel
theorem dX9_digest_73 : decode cX9_digest 73 = .ok (.lload_n 1, 1) := by decide +kernel
theorem dX9_digest_74 : decode cX9_digest 74 = .ok (.lmul, 1) := by decide +kernel
theorem dX9_digest_75 : decode cX9_digest 75 = .ok (.iload_n 3, 1) := by decide +kernel
theorem dX9_digest_76 : decode cX9_digest 76 = .ok (.i2l, 1) := by decide +kernel
theorem dX9_digest_77 : decode cX9_digest 77 = .ok (.ladd, 1) := by decide +kernel
theorem dX9_digest_78 : decode cX9_digest 78 = .ok (.lmul, 1) := by decide +kernel
theorem dX9_digest_79 : decode cX9_digest 79 = .ok (.aload_n 0, 1) := by decide +kernel
theorem dX9_digest_80 : decode cX9_digest 80 = .ok (.invokevirtual 218, 3) := by decide +kernel
theorem dX9_digest_83 : decode cX9_digest 83 = .ok (.i2l, 1) := by decide +kernel
theorem dX9_digest_84 : decode cX9_digest 84 = .ok (.ladd, 1) := by decide +kernel
theorem dX9_digest_85 : decode cX9_digest 85 = .ok (.lreturn, 1) := by decide +kernel
