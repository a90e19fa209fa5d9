theorem dX9_init_0 : decode cX9_init 0 = .ok (.aload_n 0, 1) := by decide +kernel
theorem dX9_init_1 : decode cX9_init 1 = .ok (.invokespecial 1, 3) := by decide +kernel
theorem dX9_init_4 : decode cX9_init 4 = .ok (.aload_n 0, 1) := by decide +kernel
theorem dX9_init_5 : decode cX9_init 5 = .ok (.bipush 35, 2) := by decide +kernel
theorem dX9_init_7 : decode cX9_init 7 = .ok (.newarray .int, 2) := by decide +kernel
theorem dX9_init_9 : decode cX9_init 9 = .ok (.putfield 7, 3) := by decide +kernel
theorem dX9_init_12 : decode cX9_init 12 = .ok (.aload_n 0, 1) := by decide +kernel
theorem dX9_init_13 : decode cX9_init 13 = .ok (.sipush 280, 3) := by decide +kernel
theorem dX9_init_16 : decode cX9_init 16 = .ok (.newarray .int, 2) := by decide +kernel
theorem dX9_init_18 : decode cX9_init 18 = .ok (.putfield 13, 3) := by decide +kernel
theorem dX9_init_21 : decode cX9_init 21 = .ok (.aload_n 0, 1) := by decide +kernel
theorem dX9_init_22 : decode cX9_init 22 = .ok (.iconst 3, 1) := by decide +kernel
theorem dX9_init_23 : decode cX9_init 23 = .ok (.newarray .int, 2) := by decide +kernel
theorem dX9_init_25 : decode cX9_init 25 = .ok (.putfield 16, 3) := by decide +kernel
theorem dX9_init_28 : decode cX9_init 28 = .ok (.aload_n 0, 1) := by decide +kernel
theorem dX9_init_29 : decode cX9_init 29 = .ok (.bipush 32, 2) := by decide +kernel
theorem dX9_init_31 : decode cX9_init 31 = .ok (.newarray .int, 2) := by decide +kernel
theorem dX9_init_33 : decode cX9_init 33 = .ok (.putfield 19, 3) := by decide +kernel
theorem dX9_init_36 : decode cX9_init 36 = .ok (.aload_n 0, 1) := by decide +kernel
theorem dX9_init_37 : decode cX9_init 37 = .ok (.bipush 32, 2) := by decide +kernel
theorem dX9_init_39 : decode cX9_init 39 = .ok (.newarray .int, 2) := by decide +kernel
theorem dX9_init_41 : decode cX9_init 41 = .ok (.putfield 22, 3) := by decide +kernel
theorem dX9_init_44 : decode cX9_init 44 = .ok (.aload_n 0, 1) := by decide +kernel
theorem dX9_init_45 : decode cX9_init 45 = .ok (.sipush 192, 3) := by decide +kernel
theorem dX9_init_48 : decode cX9_init 48 = .ok (.newarray .int, 2) := by decide +kernel
theorem dX9_init_50 : decode cX9_init 50 = .ok (.putfield 25, 3) := by decide +kernel
theorem dX9_init_53 : decode cX9_init 53 = .ok (.aload_n 0, 1) := by decide +kernel
theorem dX9_init_54 : decode cX9_init 54 = .ok (.bipush 6, 2) := by decide +kernel
theorem dX9_init_56 : decode cX9_init 56 = .ok (.newarray .int, 2) := by decide +kernel
theorem dX9_init_58 : decode cX9_init 58 = .ok (.putfield 28, 3) := by decide +kernel
theorem dX9_init_61 : decode cX9_init 61 = .ok (.aload_n 0, 1) := by decide +kernel
theorem dX9_init_62 : decode cX9_init 62 = .ok (.bipush 6, 2) := by decide +kernel
theorem dX9_init_64 : decode cX9_init 64 = .ok (.newarray .int, 2) := by decide +kernel
theorem dX9_init_66 : decode cX9_init 66 = .ok (.putfield 31, 3) := by decide +kernel
theorem dX9_init_69 : decode cX9_init 69 = .ok (.aload_n 0, 1) := by decide +kernel
theorem dX9_init_70 : decode cX9_init 70 = .ok (.bipush 6, 2) := by decide +kernel
theorem dX9_init_72 : decode cX9_init 72 = .ok (.newarray .int, 2) := by decide +kernel
theorem dX9_init_74 : decode cX9_init 74 = .ok (.putfield 34, 3) := by decide +kernel
theorem dX9_init_77 : decode cX9_init 77 = .ok (.aload_n 0, 1) := by decide +kernel
theorem dX9_init_78 : decode cX9_init 78 = .ok (.bipush 6, 2) := by decide +kernel
theorem dX9_init_80 : decode cX9_init 80 = .ok (.newarray .int, 2) := by decide +kernel
theorem dX9_init_82 : decode cX9_init 82 = .ok (.putfield 37, 3) := by decide +kernel
theorem dX9_init_85 : decode cX9_init 85 = .ok (.aload_n 0, 1) := by decide +kernel
theorem dX9_init_86 : decode cX9_init 86 = .ok (.bipush 120, 2) := by decide +kernel
theorem dX9_init_88 : decode cX9_init 88 = .ok (.newarray .int, 2) := by decide +kernel
theorem dX9_init_90 : decode cX9_init 90 = .ok (.putfield 40, 3) := by decide +kernel
theorem dX9_init_93 : decode cX9_init 93 = .ok (.aload_n 0, 1) := by decide +kernel
theorem dX9_init_94 : decode cX9_init 94 = .ok (.bipush 35, 2) := by decide +kernel
theorem dX9_init_96 : decode cX9_init 96 = .ok (.newarray .int, 2) := by decide +kernel
theorem dX9_init_98 : decode cX9_init 98 = .ok (.putfield 43, 3) := by decide +kernel
theorem dX9_init_101 : decode cX9_init 101 = .ok (.aload_n 0, 1) := by decide +kernel
theorem dX9_init_102 : decode cX9_init 102 = .ok (.bipush 35, 2) := by decide +kernel
theorem dX9_init_104 : decode cX9_init 104 = .ok (.newarray .int, 2) := by decide +kernel
theorem dX9_init_106 : decode cX9_init 106 = .ok (.putfield 46, 3) := by decide +kernel
theorem dX9_init_109 : decode cX9_init 109 = .ok (.aload_n 0, 1) := by decide +kernel
theorem dX9_init_110 : decode cX9_init 110 = .ok (.getfield 7, 3) := by decide +kernel
theorem dX9_init_113 : decode cX9_init 113 = .ok (.iconst 0, 1) := by decide +kernel
theorem dX9_init_114 : decode cX9_init 114 = .ok (.iconst 1, 1) := by decide +kernel
theorem dX9_init_115 : decode cX9_init 115 = .ok (.iastore, 1) := by decide +kernel
theorem dX9_init_116 : decode cX9_init 116 = .ok (.aload_n 0, 1) := by decide +kernel
theorem dX9_init_117 : decode cX9_init 117 = .ok (.getfield 7, 3) := by decide +kernel
theorem dX9_init_120 : decode cX9_init 120 = .ok (.iconst 1, 1) := by decide +kernel
theorem dX9_init_121 : decode cX9_init 121 = .ok (.iconst 3, 1) := by decide +kernel
theorem dX9_init_122 : decode cX9_init 122 = .ok (.iastore, 1) := by decide +kernel
theorem dX9_init_123 : decode cX9_init 123 = .ok (.return_, 1) := by decide +kernel
theorem dX9_in_0 : decode cX9_in 0 = .ok (.lload_n 0, 1) := by decide +kernel
theorem dX9_in_1 : decode cX9_in 1 = .ok (.lload_n 2, 1) := by decide +kernel
theorem dX9_in_2 : decode cX9_in 2 = .ok (.lcmp, 1) := by decide +kernel
theorem dX9_in_3 : decode cX9_in 3 = .ok (.ifCond .lt 14, 3) := by decide +kernel
theorem dX9_in_6 : decode cX9_in 6 = .ok (.lload_n 0, 1) := by decide +kernel
theorem dX9_in_7 : decode cX9_in 7 = .ok (.lload 4, 2) := by decide +kernel
theorem dX9_in_9 : decode cX9_in 9 = .ok (.lcmp, 1) := by decide +kernel
theorem dX9_in_10 : decode cX9_in 10 = .ok (.ifCond .gt 7, 3) := by decide +kernel
theorem dX9_in_13 : decode cX9_in 13 = .ok (.iconst 1, 1) := by decide +kernel
theorem dX9_in_14 : decode cX9_in 14 = .ok (.goto 4, 3) := by decide +kernel
theorem dX9_in_17 : decode cX9_in 17 = .ok (.iconst 0, 1) := by decide +kernel
theorem dX9_in_18 : decode cX9_in 18 = .ok (.ireturn, 1) := by decide +kernel
theorem dX9_bad_0 : decode cX9_bad 0 = .ok (.aload_n 0, 1) := by decide +kernel
theorem dX9_bad_1 : decode cX9_bad 1 = .ok (.getfield 16, 3) := by decide +kernel
theorem dX9_bad_4 : decode cX9_bad 4 = .ok (.iconst 0, 1) := by decide +kernel
theorem dX9_bad_5 : decode cX9_bad 5 = .ok (.dup2, 1) := by decide +kernel
theorem dX9_bad_6 : decode cX9_bad 6 = .ok (.iaload, 1) := by decide +kernel
theorem dX9_bad_7 : decode cX9_bad 7 = .ok (.iconst 1, 1) := by decide +kernel
theorem dX9_bad_8 : decode cX9_bad 8 = .ok (.iadd, 1) := by decide +kernel
theorem dX9_bad_9 : decode cX9_bad 9 = .ok (.iastore, 1) := by decide +kernel
theorem dX9_bad_10 : decode cX9_bad 10 = .ok (.iload_n 1, 1) := by decide +kernel
theorem dX9_bad_11 : decode cX9_bad 11 = .ok (.ireturn, 1) := by decide +kernel
theorem dX9_no_0 : decode cX9_no 0 = .ok (.aload_n 0, 1) := by decide +kernel
theorem dX9_no_1 : decode cX9_no 1 = .ok (.getfield 16, 3) := by decide +kernel
theorem dX9_no_4 : decode cX9_no 4 = .ok (.iconst 1, 1) := by decide +kernel
theorem dX9_no_5 : decode cX9_no 5 = .ok (.dup2, 1) := by decide +kernel
theorem dX9_no_6 : decode cX9_no 6 = .ok (.iaload, 1) := by decide +kernel
theorem dX9_no_7 : decode cX9_no 7 = .ok (.iconst 1, 1) := by decide +kernel
theorem dX9_no_8 : decode cX9_no 8 = .ok (.iadd, 1) := by decide +kernel
theorem dX9_no_9 : decode cX9_no 9 = .ok (.iastore, 1) := by decide +kernel
theorem dX9_no_10 : decode cX9_no 10 = .ok (.iload_n 1, 1) := by decide +kernel
theorem dX9_no_11 : decode cX9_no 11 = .ok (.ireturn, 1) := by decide +kernel
theorem dX9_full_0 : decode cX9_full 0 = .ok (.aload_n 0, 1) := by decide +kernel
theorem dX9_full_1 : decode cX9_full 1 = .ok (.getfield 16, 3) := by decide +kernel
theorem dX9_full_4 : decode cX9_full 4 = .ok (.iconst 2, 1) := by decide +kernel
theorem dX9_full_5 : decode cX9_full 5 = .ok (.dup2, 1) := by decide +kernel
theorem dX9_full_6 : decode cX9_full 6 = .ok (.iaload, 1) := by decide +kernel
theorem dX9_full_7 : decode cX9_full 7 = .ok (.iconst 1, 1) := by decide +kernel
theorem dX9_full_8 : decode cX9_full 8 = .ok (.iadd, 1) := by decide +kernel
theorem dX9_full_9 : decode cX9_full 9 = .ok (.iastore, 1) := by decide +kernel
theorem dX9_full_10 : decode cX9_full 10 = .ok (.bipush (-4), 2) := by decide +kernel
theorem dX9_full_12 : decode cX9_full 12 = .ok (.ireturn, 1) := by decide +kernel
theorem dX9_has_0 : decode cX9_has 0 = .ok (.iload_n 0, 1) := by decide +kernel
theorem dX9_has_1 : decode cX9_has 1 = .ok (.iload_n 1, 1) := by decide +kernel
theorem dX9_has_2 : decode cX9_has 2 = .ok (.ishr, 1) := by decide +kernel
theorem dX9_has_3 : decode cX9_has 3 = .ok (.iconst 1, 1) := by decide +kernel
theorem dX9_has_4 : decode cX9_has 4 = .ok (.iand, 1) := by decide +kernel
theorem dX9_has_5 : decode cX9_has 5 = .ok (.iconst 1, 1) := by decide +kernel
theorem dX9_has_6 : decode cX9_has 6 = .ok (.if_icmp .ne 7, 3) := by decide +kernel
theorem dX9_has_9 : decode cX9_has 9 = .ok (.iconst 1, 1) := by decide +kernel
theorem dX9_has_10 : decode cX9_has 10 = .ok (.goto 4, 3) := by decide +kernel
theorem dX9_has_13 : decode cX9_has 13 = .ok (.iconst 0, 1) := by decide +kernel
theorem dX9_has_14 : decode cX9_has 14 = .ok (.ireturn, 1) := by decide +kernel
theorem dX9_bits_0 : decode cX9_bits 0 = .ok (.iconst 0, 1) := by decide +kernel
theorem dX9_bits_1 : decode cX9_bits 1 = .ok (.istore_n 1, 1) := by decide +kernel
theorem dX9_bits_2 : decode cX9_bits 2 = .ok (.iload_n 0, 1) := by decide +kernel
theorem dX9_bits_3 : decode cX9_bits 3 = .ok (.istore_n 2, 1) := by decide +kernel
theorem dX9_bits_4 : decode cX9_bits 4 = .ok (.iload_n 2, 1) := by decide +kernel
theorem dX9_bits_5 : decode cX9_bits 5 = .ok (.ifCond .eq 15, 3) := by decide +kernel
theorem dX9_bits_8 : decode cX9_bits 8 = .ok (.iinc 1 1, 3) := by decide +kernel
theorem dX9_bits_11 : decode cX9_bits 11 = .ok (.iload_n 2, 1) := by decide +kernel
theorem dX9_bits_12 : decode cX9_bits 12 = .ok (.iload_n 2, 1) := by decide +kernel
theorem dX9_bits_13 : decode cX9_bits 13 = .ok (.iconst 1, 1) := by decide +kernel
theorem dX9_bits_14 : decode cX9_bits 14 = .ok (.isub, 1) := by decide +kernel
theorem dX9_bits_15 : decode cX9_bits 15 = .ok (.iand, 1) := by decide +kernel
theorem dX9_bits_16 : decode cX9_bits 16 = .ok (.istore_n 2, 1) := by decide +kernel
theorem dX9_bits_17 : decode cX9_bits 17 = .ok (.goto (-13), 3) := by decide +kernel
theorem dX9_bits_20 : decode cX9_bits 20 = .ok (.iload_n 1, 1) := by decide +kernel
theorem dX9_bits_21 : decode cX9_bits 21 = .ok (.ireturn, 1) := by decide +kernel
theorem dX9_order_0 : decode cX9_order 0 = .ok (.aload_n 0, 1) := by decide +kernel
theorem dX9_order_1 : decode cX9_order 1 = .ok (.getfield 7, 3) := by decide +kernel
theorem dX9_order_4 : decode cX9_order 4 = .ok (.iconst 0, 1) := by decide +kernel
theorem dX9_order_5 : decode cX9_order 5 = .ok (.iaload, 1) := by decide +kernel
theorem dX9_order_6 : decode cX9_order 6 = .ok (.ireturn, 1) := by decide +kernel
theorem dX9_length_0 : decode cX9_length 0 = .ok (.aload_n 0, 1) := by decide +kernel
theorem dX9_length_1 : decode cX9_length 1 = .ok (.getfield 7, 3) := by decide +kernel
theorem dX9_length_4 : decode cX9_length 4 = .ok (.iconst 1, 1) := by decide +kernel
theorem dX9_length_5 : decode cX9_length 5 = .ok (.iaload, 1) := by decide +kernel
theorem dX9_length_6 : decode cX9_length 6 = .ok (.ireturn, 1) := by decide +kernel
set_option maxRecDepth 20000 in
theorem ggX9_places_X9_length : GoodIn wsX9_places wsX9_length := goodIn_r _ [5, 6, 7, 8, 9, 10, 11, 12, 13, 14, 15, 16, 17, 18, 19, 20, 21, 22, 23, 24, 25, 26, 27, 28, 29, 30, 31, 32, 33] (by decide +kernel) (by decide +kernel)
set_option maxRecDepth 20000 in
theorem gX9_places_X9_length : GoodIn wsX9_places (wsV RX9 49 RX9 yX9_length wsX9_length) := goodIn_app (goodIn_of _ (by decide +kernel)) ggX9_places_X9_length
theorem dX9_places_0 : decode cX9_places 0 = .ok (.iconst 1, 1) := by decide +kernel
theorem dX9_places_1 : decode cX9_places 1 = .ok (.aload_n 0, 1) := by decide +kernel
theorem dX9_places_2 : decode cX9_places 2 = .ok (.invokevirtual 49, 3) := by decide +kernel
theorem dX9_places_5 : decode cX9_places 5 = .ok (.ishl, 1) := by decide +kernel
theorem dX9_places_6 : decode cX9_places 6 = .ok (.ireturn, 1) := by decide +kernel
theorem dX9_theWord_0 : decode cX9_theWord 0 = .ok (.aload_n 0, 1) := by decide +kernel
theorem dX9_theWord_1 : decode cX9_theWord 1 = .ok (.getfield 7, 3) := by decide +kernel
theorem dX9_theWord_4 : decode cX9_theWord 4 = .ok (.iconst 2, 1) := by decide +kernel
theorem dX9_theWord_5 : decode cX9_theWord 5 = .ok (.iaload, 1) := by decide +kernel
theorem dX9_theWord_6 : decode cX9_theWord 6 = .ok (.ireturn, 1) := by decide +kernel
theorem dX9_allOf_0 : decode cX9_allOf 0 = .ok (.iload_n 0, 1) := by decide +kernel
theorem dX9_allOf_1 : decode cX9_allOf 1 = .ok (.bipush 32, 2) := by decide +kernel
theorem dX9_allOf_3 : decode cX9_allOf 3 = .ok (.if_icmp .lt 7, 3) := by decide +kernel
theorem dX9_allOf_6 : decode cX9_allOf 6 = .ok (.iconst (-1), 1) := by decide +kernel
theorem dX9_allOf_7 : decode cX9_allOf 7 = .ok (.goto 8, 3) := by decide +kernel
theorem dX9_allOf_10 : decode cX9_allOf 10 = .ok (.iconst 1, 1) := by decide +kernel
theorem dX9_allOf_11 : decode cX9_allOf 11 = .ok (.iload_n 0, 1) := by decide +kernel
theorem dX9_allOf_12 : decode cX9_allOf 12 = .ok (.ishl, 1) := by decide +kernel
theorem dX9_allOf_13 : decode cX9_allOf 13 = .ok (.iconst 1, 1) := by decide +kernel
theorem dX9_allOf_14 : decode cX9_allOf 14 = .ok (.isub, 1) := by decide +kernel
theorem dX9_allOf_15 : decode cX9_allOf 15 = .ok (.ireturn, 1) := by decide +kernel
theorem dX9_keep_0 : decode cX9_keep 0 = .ok (.aload_n 0, 1) := by decide +kernel
theorem dX9_keep_1 : decode cX9_keep 1 = .ok (.getfield 53, 3) := by decide +kernel
theorem dX9_keep_4 : decode cX9_keep 4 = .ok (.bipush 8, 2) := by decide +kernel
theorem dX9_keep_6 : decode cX9_keep 6 = .ok (.if_icmp .ne 43, 3) := by decide +kernel
theorem dX9_keep_9 : decode cX9_keep 9 = .ok (.iconst 0, 1) := by decide +kernel
theorem dX9_keep_10 : decode cX9_keep 10 = .ok (.istore_n 1, 1) := by decide +kernel
theorem dX9_keep_11 : decode cX9_keep 11 = .ok (.iload_n 1, 1) := by decide +kernel
theorem dX9_keep_12 : decode cX9_keep 12 = .ok (.sipush 245, 3) := by decide +kernel
theorem dX9_keep_15 : decode cX9_keep 15 = .ok (.if_icmp .ge 24, 3) := by decide +kernel
theorem dX9_keep_18 : decode cX9_keep 18 = .ok (.aload_n 0, 1) := by decide +kernel
theorem dX9_keep_19 : decode cX9_keep 19 = .ok (.getfield 13, 3) := by decide +kernel
theorem dX9_keep_22 : decode cX9_keep 22 = .ok (.iload_n 1, 1) := by decide +kernel
theorem dX9_keep_23 : decode cX9_keep 23 = .ok (.aload_n 0, 1) := by decide +kernel
theorem dX9_keep_24 : decode cX9_keep 24 = .ok (.getfield 13, 3) := by decide +kernel
theorem dX9_keep_27 : decode cX9_keep 27 = .ok (.iload_n 1, 1) := by decide +kernel
theorem dX9_keep_28 : decode cX9_keep 28 = .ok (.bipush 35, 2) := by decide +kernel
theorem dX9_keep_30 : decode cX9_keep 30 = .ok (.iadd, 1) := by decide +kernel
theorem dX9_keep_31 : decode cX9_keep 31 = .ok (.iaload, 1) := by decide +kernel
theorem dX9_keep_32 : decode cX9_keep 32 = .ok (.iastore, 1) := by decide +kernel
theorem dX9_keep_33 : decode cX9_keep 33 = .ok (.iinc 1 1, 3) := by decide +kernel
theorem dX9_keep_36 : decode cX9_keep 36 = .ok (.goto (-25), 3) := by decide +kernel
theorem dX9_keep_39 : decode cX9_keep 39 = .ok (.aload_n 0, 1) := by decide +kernel
theorem dX9_keep_40 : decode cX9_keep 40 = .ok (.dup, 1) := by decide +kernel
theorem dX9_keep_41 : decode cX9_keep 41 = .ok (.getfield 53, 3) := by decide +kernel
theorem dX9_keep_44 : decode cX9_keep 44 = .ok (.iconst 1, 1) := by decide +kernel
theorem dX9_keep_45 : decode cX9_keep 45 = .ok (.isub, 1) := by decide +kernel
theorem dX9_keep_46 : decode cX9_keep 46 = .ok (.putfield 53, 3) := by decide +kernel
theorem dX9_keep_49 : decode cX9_keep 49 = .ok (.iconst 0, 1) := by decide +kernel
theorem dX9_keep_50 : decode cX9_keep 50 = .ok (.istore_n 1, 1) := by decide +kernel
theorem dX9_keep_51 : decode cX9_keep 51 = .ok (.iload_n 1, 1) := by decide +kernel
theorem dX9_keep_52 : decode cX9_keep 52 = .ok (.bipush 35, 2) := by decide +kernel
theorem dX9_keep_54 : decode cX9_keep 54 = .ok (.if_icmp .ge 29, 3) := by decide +kernel
theorem dX9_keep_57 : decode cX9_keep 57 = .ok (.aload_n 0, 1) := by decide +kernel
theorem dX9_keep_58 : decode cX9_keep 58 = .ok (.getfield 13, 3) := by decide +kernel
theorem dX9_keep_61 : decode cX9_keep 61 = .ok (.bipush 35, 2) := by decide +kernel
theorem dX9_keep_63 : decode cX9_keep 63 = .ok (.aload_n 0, 1) := by decide +kernel
theorem dX9_keep_64 : decode cX9_keep 64 = .ok (.getfield 53, 3) := by decide +kernel
theorem dX9_keep_67 : decode cX9_keep 67 = .ok (.imul, 1) := by decide +kernel
theorem dX9_keep_68 : decode cX9_keep 68 = .ok (.iload_n 1, 1) := by decide +kernel
theorem dX9_keep_69 : decode cX9_keep 69 = .ok (.iadd, 1) := by decide +kernel
theorem dX9_keep_70 : decode cX9_keep 70 = .ok (.aload_n 0, 1) := by decide +kernel
theorem dX9_keep_71 : decode cX9_keep 71 = .ok (.getfield 7, 3) := by decide +kernel
theorem dX9_keep_74 : decode cX9_keep 74 = .ok (.iload_n 1, 1) := by decide +kernel
theorem dX9_keep_75 : decode cX9_keep 75 = .ok (.iaload, 1) := by decide +kernel
theorem dX9_keep_76 : decode cX9_keep 76 = .ok (.iastore, 1) := by decide +kernel
theorem dX9_keep_77 : decode cX9_keep 77 = .ok (.iinc 1 1, 3) := by decide +kernel
theorem dX9_keep_80 : decode cX9_keep 80 = .ok (.goto (-29), 3) := by decide +kernel
theorem dX9_keep_83 : decode cX9_keep 83 = .ok (.aload_n 0, 1) := by decide +kernel
theorem dX9_keep_84 : decode cX9_keep 84 = .ok (.dup, 1) := by decide +kernel
theorem dX9_keep_85 : decode cX9_keep 85 = .ok (.getfield 53, 3) := by decide +kernel
theorem dX9_keep_88 : decode cX9_keep 88 = .ok (.iconst 1, 1) := by decide +kernel
theorem dX9_keep_89 : decode cX9_keep 89 = .ok (.iadd, 1) := by decide +kernel
theorem dX9_keep_90 : decode cX9_keep 90 = .ok (.putfield 53, 3) := by decide +kernel
theorem dX9_keep_93 : decode cX9_keep 93 = .ok (.return_, 1) := by decide +kernel
set_option maxRecDepth 20000 in
theorem ggX9_lays_X9_places : GoodIn wsX9_lays wsX9_places := goodIn_r _ [7, 8, 9, 10, 6, 11, 12, 16, 17, 18, 19, 20, 21, 22, 23, 24, 25, 26, 27, 28, 29, 30, 31, 32, 33, 34, 35, 36, 37, 38, 39, 40, 41, 42] (by decide +kernel) (by decide +kernel)
set_option maxRecDepth 20000 in
theorem gX9_lays_X9_places : GoodIn wsX9_lays (wsV RX9 60 RX9 yX9_places wsX9_places) := goodIn_app (goodIn_of _ (by decide +kernel)) ggX9_lays_X9_places
set_option maxRecDepth 20000 in
theorem ggX9_lays_X9_bits : GoodIn wsX9_lays wsX9_bits := goodIn_r _ [15] (by decide +kernel) (by decide +kernel)
set_option maxRecDepth 20000 in
theorem gX9_lays_X9_bits : GoodIn wsX9_lays (va_wsS RX9 63 yX9_bits wsX9_bits) := goodIn_app (goodIn_of _ (by decide +kernel)) ggX9_lays_X9_bits
theorem dX9_lays_0 : decode cX9_lays 0 = .ok (.aload_n 0, 1) := by decide +kernel
theorem dX9_lays_1 : decode cX9_lays 1 = .ok (.iconst 0, 1) := by decide +kernel
theorem dX9_lays_2 : decode cX9_lays 2 = .ok (.putfield 57, 3) := by decide +kernel
theorem dX9_lays_5 : decode cX9_lays 5 = .ok (.iconst 0, 1) := by decide +kernel
theorem dX9_lays_6 : decode cX9_lays 6 = .ok (.istore_n 2, 1) := by decide +kernel
theorem dX9_lays_7 : decode cX9_lays 7 = .ok (.iload_n 2, 1) := by decide +kernel
theorem dX9_lays_8 : decode cX9_lays 8 = .ok (.iload_n 1, 1) := by decide +kernel
theorem dX9_lays_9 : decode cX9_lays 9 = .ok (.if_icmp .gt 53, 3) := by decide +kernel
theorem dX9_lays_12 : decode cX9_lays 12 = .ok (.iconst 0, 1) := by decide +kernel
theorem dX9_lays_13 : decode cX9_lays 13 = .ok (.istore_n 3, 1) := by decide +kernel
theorem dX9_lays_14 : decode cX9_lays 14 = .ok (.iload_n 3, 1) := by decide +kernel
theorem dX9_lays_15 : decode cX9_lays 15 = .ok (.aload_n 0, 1) := by decide +kernel
theorem dX9_lays_16 : decode cX9_lays 16 = .ok (.invokevirtual 60, 3) := by decide +kernel
theorem dX9_lays_19 : decode cX9_lays 19 = .ok (.if_icmp .ge 37, 3) := by decide +kernel
theorem dX9_lays_22 : decode cX9_lays 22 = .ok (.iload_n 3, 1) := by decide +kernel
theorem dX9_lays_23 : decode cX9_lays 23 = .ok (.invokestatic 63, 3) := by decide +kernel
theorem dX9_lays_26 : decode cX9_lays 26 = .ok (.iload_n 2, 1) := by decide +kernel
theorem dX9_lays_27 : decode cX9_lays 27 = .ok (.if_icmp .ne 23, 3) := by decide +kernel
theorem dX9_lays_30 : decode cX9_lays 30 = .ok (.aload_n 0, 1) := by decide +kernel
theorem dX9_lays_31 : decode cX9_lays 31 = .ok (.getfield 19, 3) := by decide +kernel
theorem dX9_lays_34 : decode cX9_lays 34 = .ok (.aload_n 0, 1) := by decide +kernel
theorem dX9_lays_35 : decode cX9_lays 35 = .ok (.getfield 57, 3) := by decide +kernel
theorem dX9_lays_38 : decode cX9_lays 38 = .ok (.iload_n 3, 1) := by decide +kernel
theorem dX9_lays_39 : decode cX9_lays 39 = .ok (.iastore, 1) := by decide +kernel
theorem dX9_lays_40 : decode cX9_lays 40 = .ok (.aload_n 0, 1) := by decide +kernel
theorem dX9_lays_41 : decode cX9_lays 41 = .ok (.dup, 1) := by decide +kernel
theorem dX9_lays_42 : decode cX9_lays 42 = .ok (.getfield 57, 3) := by decide +kernel
theorem dX9_lays_45 : decode cX9_lays 45 = .ok (.iconst 1, 1) := by decide +kernel
theorem dX9_lays_46 : decode cX9_lays 46 = .ok (.iadd, 1) := by decide +kernel
theorem dX9_lays_47 : decode cX9_lays 47 = .ok (.putfield 57, 3) := by decide +kernel
theorem dX9_lays_50 : decode cX9_lays 50 = .ok (.iinc 3 1, 3) := by decide +kernel
theorem dX9_lays_53 : decode cX9_lays 53 = .ok (.goto (-39), 3) := by decide +kernel
theorem dX9_lays_56 : decode cX9_lays 56 = .ok (.iinc 2 1, 3) := by decide +kernel
theorem dX9_lays_59 : decode cX9_lays 59 = .ok (.goto (-52), 3) := by decide +kernel
theorem dX9_lays_62 : decode cX9_lays 62 = .ok (.return_, 1) := by decide +kernel
set_option maxRecDepth 20000 in
theorem ggX9_many_X9_order : GoodIn wsX9_many wsX9_order := goodIn_r _ [6, 7, 24, 25, 26, 27, 28, 29, 30, 31, 32, 33, 34, 35, 36, 37, 38, 39, 40, 41, 42, 43, 44, 45, 46, 47, 48, 49, 50] (by decide +kernel) (by decide +kernel)
set_option maxRecDepth 20000 in
theorem gX9_many_X9_order : GoodIn wsX9_many (wsV RX9 67 RX9 yX9_order wsX9_order) := goodIn_app (goodIn_of _ (by decide +kernel)) ggX9_many_X9_order
set_option maxRecDepth 20000 in
theorem ggX9_many_X9_lays : GoodIn wsX9_many wsX9_lays := goodIn_r _ [11, 1, 12, 13, 14, 15, 5, 16, 17, 18, 19, 20, 7, 21, 22, 23, 24, 25, 26, 27, 28, 29, 30, 31, 32, 33, 34, 35, 36, 37, 38, 39, 40, 41, 42, 43, 44, 45, 46, 47, 48, 49, 50] (by decide +kernel) (by decide +kernel)
set_option maxRecDepth 20000 in
theorem gX9_many_X9_lays : GoodIn wsX9_many (wsV RX9 70 RX9 yX9_lays wsX9_lays) := goodIn_app (goodIn_of _ (by decide +kernel)) ggX9_many_X9_lays
theorem dX9_many_0 : decode cX9_many 0 = .ok (.aload_n 0, 1) := by decide +kernel
theorem dX9_many_1 : decode cX9_many 1 = .ok (.aload_n 0, 1) := by decide +kernel
theorem dX9_many_2 : decode cX9_many 2 = .ok (.invokevirtual 67, 3) := by decide +kernel
theorem dX9_many_5 : decode cX9_many 5 = .ok (.invokevirtual 70, 3) := by decide +kernel
theorem dX9_many_8 : decode cX9_many 8 = .ok (.aload_n 0, 1) := by decide +kernel
theorem dX9_many_9 : decode cX9_many 9 = .ok (.getfield 57, 3) := by decide +kernel
theorem dX9_many_12 : decode cX9_many 12 = .ok (.ireturn, 1) := by decide +kernel
set_option maxRecDepth 20000 in
theorem ggX9_wordOf_X9_places : GoodIn wsX9_wordOf wsX9_places := goodIn_r _ [5, 6, 7, 8, 4, 9, 10, 11, 12, 13, 14, 15, 16, 17, 18, 19, 20, 21, 22, 23, 24, 25, 26, 27, 28, 29, 30, 31, 32, 33, 34, 35, 36, 37] (by decide +kernel) (by decide +kernel)
set_option maxRecDepth 20000 in
theorem gX9_wordOf_X9_places : GoodIn wsX9_wordOf (wsV RX9 60 RX9 yX9_places wsX9_places) := goodIn_app (goodIn_of _ (by decide +kernel)) ggX9_wordOf_X9_places
theorem dX9_wordOf_0 : decode cX9_wordOf 0 = .ok (.iconst 0, 1) := by decide +kernel
theorem dX9_wordOf_1 : decode cX9_wordOf 1 = .ok (.istore_n 2, 1) := by decide +kernel
theorem dX9_wordOf_2 : decode cX9_wordOf 2 = .ok (.iconst 0, 1) := by decide +kernel
theorem dX9_wordOf_3 : decode cX9_wordOf 3 = .ok (.istore_n 3, 1) := by decide +kernel
theorem dX9_wordOf_4 : decode cX9_wordOf 4 = .ok (.iload_n 3, 1) := by decide +kernel
theorem dX9_wordOf_5 : decode cX9_wordOf 5 = .ok (.aload_n 0, 1) := by decide +kernel
theorem dX9_wordOf_6 : decode cX9_wordOf 6 = .ok (.invokevirtual 60, 3) := by decide +kernel
theorem dX9_wordOf_9 : decode cX9_wordOf 9 = .ok (.if_icmp .ge 26, 3) := by decide +kernel
theorem dX9_wordOf_12 : decode cX9_wordOf 12 = .ok (.iload_n 2, 1) := by decide +kernel
theorem dX9_wordOf_13 : decode cX9_wordOf 13 = .ok (.iload_n 3, 1) := by decide +kernel
theorem dX9_wordOf_14 : decode cX9_wordOf 14 = .ok (.iload_n 1, 1) := by decide +kernel
theorem dX9_wordOf_15 : decode cX9_wordOf 15 = .ok (.iand, 1) := by decide +kernel
theorem dX9_wordOf_16 : decode cX9_wordOf 16 = .ok (.iload_n 1, 1) := by decide +kernel
theorem dX9_wordOf_17 : decode cX9_wordOf 17 = .ok (.if_icmp .ne 9, 3) := by decide +kernel
theorem dX9_wordOf_20 : decode cX9_wordOf 20 = .ok (.iconst 1, 1) := by decide +kernel
theorem dX9_wordOf_21 : decode cX9_wordOf 21 = .ok (.iload_n 3, 1) := by decide +kernel
theorem dX9_wordOf_22 : decode cX9_wordOf 22 = .ok (.ishl, 1) := by decide +kernel
theorem dX9_wordOf_23 : decode cX9_wordOf 23 = .ok (.goto 4, 3) := by decide +kernel
theorem dX9_wordOf_26 : decode cX9_wordOf 26 = .ok (.iconst 0, 1) := by decide +kernel
theorem dX9_wordOf_27 : decode cX9_wordOf 27 = .ok (.ior, 1) := by decide +kernel
theorem dX9_wordOf_28 : decode cX9_wordOf 28 = .ok (.istore_n 2, 1) := by decide +kernel
theorem dX9_wordOf_29 : decode cX9_wordOf 29 = .ok (.iinc 3 1, 3) := by decide +kernel
theorem dX9_wordOf_32 : decode cX9_wordOf 32 = .ok (.goto (-28), 3) := by decide +kernel
theorem dX9_wordOf_35 : decode cX9_wordOf 35 = .ok (.iload_n 2, 1) := by decide +kernel
theorem dX9_wordOf_36 : decode cX9_wordOf 36 = .ok (.ireturn, 1) := by decide +kernel
set_option maxRecDepth 20000 in
theorem ggX9_sumOf_X9_has : GoodIn wsX9_sumOf wsX9_has := goodIn_r _ [5] (by decide +kernel) (by decide +kernel)
set_option maxRecDepth 20000 in
theorem gX9_sumOf_X9_has : GoodIn wsX9_sumOf (va_wsS RX9 74 yX9_has wsX9_has) := goodIn_app (goodIn_of _ (by decide +kernel)) ggX9_sumOf_X9_has
set_option maxRecDepth 20000 in
theorem ggX9_sumOf_X9_wordOf : GoodIn wsX9_sumOf wsX9_wordOf := goodIn_r _ [9, 10, 11, 12, 4, 13, 14, 15, 16, 17, 18, 19, 20, 21, 22, 23, 24, 25, 26, 27, 28, 29, 30, 31, 32, 33, 34, 35, 36, 37, 38, 39, 40, 41, 42, 43, 44, 45] (by decide +kernel) (by decide +kernel)
set_option maxRecDepth 20000 in
theorem gX9_sumOf_X9_wordOf : GoodIn wsX9_sumOf (wsV RX9 78 RX9 yX9_wordOf wsX9_wordOf) := goodIn_app (goodIn_of _ (by decide +kernel)) ggX9_sumOf_X9_wordOf
theorem dX9_sumOf_0 : decode cX9_sumOf 0 = .ok (.iconst 0, 1) := by decide +kernel
theorem dX9_sumOf_1 : decode cX9_sumOf 1 = .ok (.istore_n 3, 1) := by decide +kernel
theorem dX9_sumOf_2 : decode cX9_sumOf 2 = .ok (.iconst 0, 1) := by decide +kernel
theorem dX9_sumOf_3 : decode cX9_sumOf 3 = .ok (.istore 4, 2) := by decide +kernel
theorem dX9_sumOf_5 : decode cX9_sumOf 5 = .ok (.iload 4, 2) := by decide +kernel
theorem dX9_sumOf_7 : decode cX9_sumOf 7 = .ok (.iload_n 2, 1) := by decide +kernel
theorem dX9_sumOf_8 : decode cX9_sumOf 8 = .ok (.if_icmp .ge 36, 3) := by decide +kernel
theorem dX9_sumOf_11 : decode cX9_sumOf 11 = .ok (.iload_n 3, 1) := by decide +kernel
theorem dX9_sumOf_12 : decode cX9_sumOf 12 = .ok (.iload_n 1, 1) := by decide +kernel
theorem dX9_sumOf_13 : decode cX9_sumOf 13 = .ok (.iload 4, 2) := by decide +kernel
theorem dX9_sumOf_15 : decode cX9_sumOf 15 = .ok (.invokestatic 74, 3) := by decide +kernel
theorem dX9_sumOf_18 : decode cX9_sumOf 18 = .ok (.ifCond .eq 17, 3) := by decide +kernel
theorem dX9_sumOf_21 : decode cX9_sumOf 21 = .ok (.aload_n 0, 1) := by decide +kernel
theorem dX9_sumOf_22 : decode cX9_sumOf 22 = .ok (.aload_n 0, 1) := by decide +kernel
theorem dX9_sumOf_23 : decode cX9_sumOf 23 = .ok (.getfield 19, 3) := by decide +kernel
theorem dX9_sumOf_26 : decode cX9_sumOf 26 = .ok (.iload 4, 2) := by decide +kernel
theorem dX9_sumOf_28 : decode cX9_sumOf 28 = .ok (.iaload, 1) := by decide +kernel
theorem dX9_sumOf_29 : decode cX9_sumOf 29 = .ok (.invokevirtual 78, 3) := by decide +kernel
theorem dX9_sumOf_32 : decode cX9_sumOf 32 = .ok (.goto 4, 3) := by decide +kernel
theorem dX9_sumOf_35 : decode cX9_sumOf 35 = .ok (.iconst 0, 1) := by decide +kernel
theorem dX9_sumOf_36 : decode cX9_sumOf 36 = .ok (.ixor, 1) := by decide +kernel
theorem dX9_sumOf_37 : decode cX9_sumOf 37 = .ok (.istore_n 3, 1) := by decide +kernel
theorem dX9_sumOf_38 : decode cX9_sumOf 38 = .ok (.iinc 4 1, 3) := by decide +kernel
theorem dX9_sumOf_41 : decode cX9_sumOf 41 = .ok (.goto (-36), 3) := by decide +kernel
theorem dX9_sumOf_44 : decode cX9_sumOf 44 = .ok (.iload_n 3, 1) := by decide +kernel
theorem dX9_sumOf_45 : decode cX9_sumOf 45 = .ok (.ireturn, 1) := by decide +kernel
set_option maxRecDepth 20000 in
theorem ggX9_isCode_X9_in : GoodIn wsX9_isCode wsX9_in := goodIn_r _ [5] (by decide +kernel) (by decide +kernel)
set_option maxRecDepth 20000 in
theorem gX9_isCode_X9_in : GoodIn wsX9_isCode (va_wsS RX9 83 yX9_in wsX9_in) := goodIn_app (goodIn_of _ (by decide +kernel)) ggX9_isCode_X9_in
theorem dX9_isCode_0 : decode cX9_isCode 0 = .ok (.iload_n 2, 1) := by decide +kernel
theorem dX9_isCode_1 : decode cX9_isCode 1 = .ok (.i2l, 1) := by decide +kernel
theorem dX9_isCode_2 : decode cX9_isCode 2 = .ok (.lconst 0, 1) := by decide +kernel
theorem dX9_isCode_3 : decode cX9_isCode 3 = .ok (.ldc2_w 81, 3) := by decide +kernel
theorem dX9_isCode_6 : decode cX9_isCode 6 = .ok (.invokestatic 83, 3) := by decide +kernel
theorem dX9_isCode_9 : decode cX9_isCode 9 = .ok (.ifCond .eq 18, 3) := by decide +kernel
theorem dX9_isCode_12 : decode cX9_isCode 12 = .ok (.iload_n 1, 1) := by decide +kernel
theorem dX9_isCode_13 : decode cX9_isCode 13 = .ok (.i2l, 1) := by decide +kernel
theorem dX9_isCode_14 : decode cX9_isCode 14 = .ok (.lconst 0, 1) := by decide +kernel
theorem dX9_isCode_15 : decode cX9_isCode 15 = .ok (.iload_n 2, 1) := by decide +kernel
theorem dX9_isCode_16 : decode cX9_isCode 16 = .ok (.i2l, 1) := by decide +kernel
theorem dX9_isCode_17 : decode cX9_isCode 17 = .ok (.invokestatic 83, 3) := by decide +kernel
theorem dX9_isCode_20 : decode cX9_isCode 20 = .ok (.ifCond .eq 7, 3) := by decide +kernel
theorem dX9_isCode_23 : decode cX9_isCode 23 = .ok (.iconst 1, 1) := by decide +kernel
theorem dX9_isCode_24 : decode cX9_isCode 24 = .ok (.goto 4, 3) := by decide +kernel
theorem dX9_isCode_27 : decode cX9_isCode 27 = .ok (.iconst 0, 1) := by decide +kernel
theorem dX9_isCode_28 : decode cX9_isCode 28 = .ok (.ireturn, 1) := by decide +kernel
theorem dX9_becomesCode_0 : decode cX9_becomesCode 0 = .ok (.iconst 0, 1) := by decide +kernel
theorem dX9_becomesCode_1 : decode cX9_becomesCode 1 = .ok (.istore_n 3, 1) := by decide +kernel
theorem dX9_becomesCode_2 : decode cX9_becomesCode 2 = .ok (.iload_n 3, 1) := by decide +kernel
theorem dX9_becomesCode_3 : decode cX9_becomesCode 3 = .ok (.bipush 35, 2) := by decide +kernel
theorem dX9_becomesCode_5 : decode cX9_becomesCode 5 = .ok (.if_icmp .ge 16, 3) := by decide +kernel
theorem dX9_becomesCode_8 : decode cX9_becomesCode 8 = .ok (.aload_n 0, 1) := by decide +kernel
theorem dX9_becomesCode_9 : decode cX9_becomesCode 9 = .ok (.getfield 7, 3) := by decide +kernel
theorem dX9_becomesCode_12 : decode cX9_becomesCode 12 = .ok (.iload_n 3, 1) := by decide +kernel
theorem dX9_becomesCode_13 : decode cX9_becomesCode 13 = .ok (.iconst 0, 1) := by decide +kernel
theorem dX9_becomesCode_14 : decode cX9_becomesCode 14 = .ok (.iastore, 1) := by decide +kernel
theorem dX9_becomesCode_15 : decode cX9_becomesCode 15 = .ok (.iinc 3 1, 3) := by decide +kernel
theorem dX9_becomesCode_18 : decode cX9_becomesCode 18 = .ok (.goto (-16), 3) := by decide +kernel
theorem dX9_becomesCode_21 : decode cX9_becomesCode 21 = .ok (.aload_n 0, 1) := by decide +kernel
theorem dX9_becomesCode_22 : decode cX9_becomesCode 22 = .ok (.getfield 7, 3) := by decide +kernel
theorem dX9_becomesCode_25 : decode cX9_becomesCode 25 = .ok (.iconst 0, 1) := by decide +kernel
theorem dX9_becomesCode_26 : decode cX9_becomesCode 26 = .ok (.iload_n 1, 1) := by decide +kernel
theorem dX9_becomesCode_27 : decode cX9_becomesCode 27 = .ok (.iastore, 1) := by decide +kernel
theorem dX9_becomesCode_28 : decode cX9_becomesCode 28 = .ok (.aload_n 0, 1) := by decide +kernel
theorem dX9_becomesCode_29 : decode cX9_becomesCode 29 = .ok (.getfield 7, 3) := by decide +kernel
theorem dX9_becomesCode_32 : decode cX9_becomesCode 32 = .ok (.iconst 1, 1) := by decide +kernel
theorem dX9_becomesCode_33 : decode cX9_becomesCode 33 = .ok (.iload_n 2, 1) := by decide +kernel
theorem dX9_becomesCode_34 : decode cX9_becomesCode 34 = .ok (.iastore, 1) := by decide +kernel
theorem dX9_becomesCode_35 : decode cX9_becomesCode 35 = .ok (.return_, 1) := by decide +kernel
set_option maxRecDepth 20000 in
theorem ggX9_code_X9_isCode : GoodIn wsX9_code wsX9_isCode := goodIn_r _ [5, 6, 7, 8, 4, 9] (by decide +kernel) (by decide +kernel)
set_option maxRecDepth 20000 in
theorem gX9_code_X9_isCode : GoodIn wsX9_code (wsV RX9 87 RX9 yX9_isCode wsX9_isCode) := goodIn_app (goodIn_of _ (by decide +kernel)) ggX9_code_X9_isCode
set_option maxRecDepth 20000 in
theorem ggX9_code_X9_bad : GoodIn wsX9_code wsX9_bad := goodIn_r _ [13, 14, 51, 52, 53, 54, 55, 56, 57, 58, 59, 60, 61, 62, 63, 64, 65, 66, 67, 68, 69, 70, 71, 72, 73, 74, 75, 76, 77] (by decide +kernel) (by decide +kernel)
set_option maxRecDepth 20000 in
theorem gX9_code_X9_bad : GoodIn wsX9_code (wsV RX9 90 RX9 yX9_bad wsX9_bad) := goodIn_app (goodIn_of _ (by decide +kernel)) ggX9_code_X9_bad
set_option maxRecDepth 20000 in
theorem ggX9_code_X9_keep : GoodIn wsX9_code wsX9_keep := goodIn_r _ [18, 19, 20, 21, 51, 52, 53, 54, 55, 56, 57, 58, 59, 60, 61, 62, 63, 64, 65, 66, 67, 68, 69, 70, 71, 72, 73, 74, 75, 76, 77] (by decide +kernel) (by decide +kernel)
set_option maxRecDepth 20000 in
theorem gX9_code_X9_keep : GoodIn wsX9_code (wsV RX9 93 RX9 yX9_keep wsX9_keep) := goodIn_app (goodIn_of _ (by decide +kernel)) ggX9_code_X9_keep
set_option maxRecDepth 20000 in
theorem ggX9_code_X9_becomesCode : GoodIn wsX9_code wsX9_becomesCode := goodIn_r _ [25, 21, 51, 52, 53, 54, 55, 56, 57, 58, 59, 60, 61, 62, 63, 64, 65, 66, 67, 68, 69, 70, 71, 72, 73, 74, 75, 76, 77] (by decide +kernel) (by decide +kernel)
set_option maxRecDepth 20000 in
theorem gX9_code_X9_becomesCode : GoodIn wsX9_code (wsV RX9 96 RX9 yX9_becomesCode wsX9_becomesCode) := goodIn_app (goodIn_of _ (by decide +kernel)) ggX9_code_X9_becomesCode
set_option maxRecDepth 20000 in
theorem ggX9_code_X9_many : GoodIn wsX9_code wsX9_many := goodIn_r _ [29, 30, 31, 32, 33, 4, 34, 21, 35, 36, 37, 38, 39, 40, 41, 42, 43, 44, 45, 46, 47, 48, 49, 50, 51, 52, 53, 54, 55, 56, 57, 58, 59, 60, 61, 62, 63, 64, 65, 66, 67, 68, 69, 70, 71, 72, 73, 74, 75, 76, 77] (by decide +kernel) (by decide +kernel)
set_option maxRecDepth 20000 in
theorem gX9_code_X9_many : GoodIn wsX9_code (wsV RX9 100 RX9 yX9_many wsX9_many) := goodIn_app (goodIn_of _ (by decide +kernel)) ggX9_code_X9_many
theorem dX9_code_0 : decode cX9_code 0 = .ok (.aload_n 0, 1) := by decide +kernel
theorem dX9_code_1 : decode cX9_code 1 = .ok (.iload_n 1, 1) := by decide +kernel
theorem dX9_code_2 : decode cX9_code 2 = .ok (.iload_n 2, 1) := by decide +kernel
theorem dX9_code_3 : decode cX9_code 3 = .ok (.invokevirtual 87, 3) := by decide +kernel
theorem dX9_code_6 : decode cX9_code 6 = .ok (.ifCond .ne 10, 3) := by decide +kernel
theorem dX9_code_9 : decode cX9_code 9 = .ok (.aload_n 0, 1) := by decide +kernel
theorem dX9_code_10 : decode cX9_code 10 = .ok (.bipush (-2), 2) := by decide +kernel
theorem dX9_code_12 : decode cX9_code 12 = .ok (.invokevirtual 90, 3) := by decide +kernel
theorem dX9_code_15 : decode cX9_code 15 = .ok (.ireturn, 1) := by decide +kernel
theorem dX9_code_16 : decode cX9_code 16 = .ok (.aload_n 0, 1) := by decide +kernel
theorem dX9_code_17 : decode cX9_code 17 = .ok (.invokevirtual 93, 3) := by decide +kernel
theorem dX9_code_20 : decode cX9_code 20 = .ok (.aload_n 0, 1) := by decide +kernel
theorem dX9_code_21 : decode cX9_code 21 = .ok (.iload_n 1, 1) := by decide +kernel
theorem dX9_code_22 : decode cX9_code 22 = .ok (.iload_n 2, 1) := by decide +kernel
theorem dX9_code_23 : decode cX9_code 23 = .ok (.invokevirtual 96, 3) := by decide +kernel
theorem dX9_code_26 : decode cX9_code 26 = .ok (.aload_n 0, 1) := by decide +kernel
theorem dX9_code_27 : decode cX9_code 27 = .ok (.invokevirtual 100, 3) := by decide +kernel
theorem dX9_code_30 : decode cX9_code 30 = .ok (.ireturn, 1) := by decide +kernel
set_option maxRecDepth 20000 in
theorem ggX9_distance_X9_length : GoodIn wsX9_distance wsX9_length := goodIn_r _ [5, 6, 11, 12, 13, 14, 15, 16, 17, 18, 19, 20, 21, 22, 23, 24, 25, 26, 27, 28, 29, 30, 31, 32, 33, 34, 35, 36, 37] (by decide +kernel) (by decide +kernel)
set_option maxRecDepth 20000 in
theorem gX9_distance_X9_length : GoodIn wsX9_distance (wsV RX9 49 RX9 yX9_length wsX9_length) := goodIn_app (goodIn_of _ (by decide +kernel)) ggX9_distance_X9_length
set_option maxRecDepth 20000 in
theorem ggX9_distance_X9_order : GoodIn wsX9_distance wsX9_order := goodIn_r _ [10, 6, 11, 12, 13, 14, 15, 16, 17, 18, 19, 20, 21, 22, 23, 24, 25, 26, 27, 28, 29, 30, 31, 32, 33, 34, 35, 36, 37] (by decide +kernel) (by decide +kernel)
set_option maxRecDepth 20000 in
theorem gX9_distance_X9_order : GoodIn wsX9_distance (wsV RX9 67 RX9 yX9_order wsX9_order) := goodIn_app (goodIn_of _ (by decide +kernel)) ggX9_distance_X9_order
theorem dX9_distance_0 : decode cX9_distance 0 = .ok (.iconst 1, 1) := by decide +kernel
theorem dX9_distance_1 : decode cX9_distance 1 = .ok (.aload_n 0, 1) := by decide +kernel
theorem dX9_distance_2 : decode cX9_distance 2 = .ok (.invokevirtual 49, 3) := by decide +kernel
theorem dX9_distance_5 : decode cX9_distance 5 = .ok (.aload_n 0, 1) := by decide +kernel
theorem dX9_distance_6 : decode cX9_distance 6 = .ok (.invokevirtual 67, 3) := by decide +kernel
theorem dX9_distance_9 : decode cX9_distance 9 = .ok (.isub, 1) := by decide +kernel
theorem dX9_distance_10 : decode cX9_distance 10 = .ok (.ishl, 1) := by decide +kernel
theorem dX9_distance_11 : decode cX9_distance 11 = .ok (.ireturn, 1) := by decide +kernel
set_option maxRecDepth 20000 in
theorem ggX9_of_X9_in : GoodIn wsX9_of wsX9_in := goodIn_r _ [5] (by decide +kernel) (by decide +kernel)
set_option maxRecDepth 20000 in
theorem gX9_of_X9_in : GoodIn wsX9_of (va_wsS RX9 83 yX9_in wsX9_in) := goodIn_app (goodIn_of _ (by decide +kernel)) ggX9_of_X9_in
set_option maxRecDepth 20000 in
theorem ggX9_of_X9_bad : GoodIn wsX9_of wsX9_bad := goodIn_r _ [9, 10, 41, 42, 43, 44, 45, 46, 47, 48, 49, 50, 51, 52, 53, 54, 55, 56, 57, 58, 59, 60, 61, 62, 63, 64, 65, 66, 67] (by decide +kernel) (by decide +kernel)
set_option maxRecDepth 20000 in
theorem gX9_of_X9_bad : GoodIn wsX9_of (wsV RX9 90 RX9 yX9_bad wsX9_bad) := goodIn_app (goodIn_of _ (by decide +kernel)) ggX9_of_X9_bad
set_option maxRecDepth 20000 in
theorem ggX9_of_X9_order : GoodIn wsX9_of wsX9_order := goodIn_r _ [14, 15, 41, 42, 43, 44, 45, 46, 47, 48, 49, 50, 51, 52, 53, 54, 55, 56, 57, 58, 59, 60, 61, 62, 63, 64, 65, 66, 67] (by decide +kernel) (by decide +kernel)
set_option maxRecDepth 20000 in
theorem gX9_of_X9_order : GoodIn wsX9_of (wsV RX9 67 RX9 yX9_order wsX9_order) := goodIn_app (goodIn_of _ (by decide +kernel)) ggX9_of_X9_order
set_option maxRecDepth 20000 in
theorem ggX9_of_X9_length : GoodIn wsX9_of wsX9_length := goodIn_r _ [19, 15, 41, 42, 43, 44, 45, 46, 47, 48, 49, 50, 51, 52, 53, 54, 55, 56, 57, 58, 59, 60, 61, 62, 63, 64, 65, 66, 67] (by decide +kernel) (by decide +kernel)
set_option maxRecDepth 20000 in
theorem gX9_of_X9_length : GoodIn wsX9_of (wsV RX9 49 RX9 yX9_length wsX9_length) := goodIn_app (goodIn_of _ (by decide +kernel)) ggX9_of_X9_length
set_option maxRecDepth 20000 in
theorem ggX9_of_X9_many : GoodIn wsX9_of wsX9_many := goodIn_r _ [23, 24, 11, 12, 13, 4, 14, 15, 25, 26, 27, 28, 29, 30, 31, 32, 33, 16, 17, 18, 19, 34, 35, 36, 41, 42, 43, 44, 45, 46, 47, 48, 49, 50, 51, 52, 53, 54, 55, 56, 57, 58, 59, 60, 61, 62, 63, 64, 65, 66, 67] (by decide +kernel) (by decide +kernel)
set_option maxRecDepth 20000 in
theorem gX9_of_X9_many : GoodIn wsX9_of (wsV RX9 100 RX9 yX9_many wsX9_many) := goodIn_app (goodIn_of _ (by decide +kernel)) ggX9_of_X9_many
set_option maxRecDepth 20000 in
theorem ggX9_of_X9_distance : GoodIn wsX9_of wsX9_distance := goodIn_r _ [40, 16, 17, 18, 4, 19, 15, 11, 12, 13, 14, 41, 42, 43, 44, 45, 46, 47, 48, 49, 50, 51, 52, 53, 54, 55, 56, 57, 58, 59, 60, 61, 62, 63, 64, 65, 66, 67] (by decide +kernel) (by decide +kernel)
set_option maxRecDepth 20000 in
theorem gX9_of_X9_distance : GoodIn wsX9_of (wsV RX9 103 RX9 yX9_distance wsX9_distance) := goodIn_app (goodIn_of _ (by decide +kernel)) ggX9_of_X9_distance
set_option maxRecDepth 20000 in
theorem ggX9_of_X9_places : GoodIn wsX9_of wsX9_places := goodIn_r _ [33, 16, 17, 18, 4, 19, 15, 41, 42, 43, 44, 45, 46, 47, 48, 49, 50, 51, 52, 53, 54, 55, 56, 57, 58, 59, 60, 61, 62, 63, 64, 65, 66, 67] (by decide +kernel) (by decide +kernel)
set_option maxRecDepth 20000 in
theorem gX9_of_X9_places : GoodIn wsX9_of (wsV RX9 60 RX9 yX9_places wsX9_places) := goodIn_app (goodIn_of _ (by decide +kernel)) ggX9_of_X9_places
theorem dX9_of_0 : decode cX9_of 0 = .ok (.iload_n 1, 1) := by decide +kernel
theorem dX9_of_1 : decode cX9_of 1 = .ok (.i2l, 1) := by decide +kernel
theorem dX9_of_2 : decode cX9_of 2 = .ok (.lconst 0, 1) := by decide +kernel
theorem dX9_of_3 : decode cX9_of 3 = .ok (.ldc2_w 81, 3) := by decide +kernel
theorem dX9_of_6 : decode cX9_of 6 = .ok (.invokestatic 83, 3) := by decide +kernel
theorem dX9_of_9 : decode cX9_of 9 = .ok (.ifCond .ne 10, 3) := by decide +kernel
theorem dX9_of_12 : decode cX9_of 12 = .ok (.aload_n 0, 1) := by decide +kernel
theorem dX9_of_13 : decode cX9_of 13 = .ok (.bipush (-2), 2) := by decide +kernel
theorem dX9_of_15 : decode cX9_of 15 = .ok (.invokevirtual 90, 3) := by decide +kernel
theorem dX9_of_18 : decode cX9_of 18 = .ok (.ireturn, 1) := by decide +kernel
theorem dX9_of_19 : decode cX9_of 19 = .ok (.iload_n 1, 1) := by decide +kernel
theorem dX9_of_20 : decode cX9_of 20 = .ok (.ifCond .ne 10, 3) := by decide +kernel
theorem dX9_of_23 : decode cX9_of 23 = .ok (.aload_n 0, 1) := by decide +kernel
theorem dX9_of_24 : decode cX9_of 24 = .ok (.invokevirtual 67, 3) := by decide +kernel
theorem dX9_of_27 : decode cX9_of 27 = .ok (.goto 59, 3) := by decide +kernel
theorem dX9_of_30 : decode cX9_of 30 = .ok (.iload_n 1, 1) := by decide +kernel
theorem dX9_of_31 : decode cX9_of 31 = .ok (.iconst 1, 1) := by decide +kernel
theorem dX9_of_32 : decode cX9_of 32 = .ok (.if_icmp .ne 10, 3) := by decide +kernel
theorem dX9_of_35 : decode cX9_of 35 = .ok (.aload_n 0, 1) := by decide +kernel
theorem dX9_of_36 : decode cX9_of 36 = .ok (.invokevirtual 49, 3) := by decide +kernel
theorem dX9_of_39 : decode cX9_of 39 = .ok (.goto 47, 3) := by decide +kernel
theorem dX9_of_42 : decode cX9_of 42 = .ok (.iload_n 1, 1) := by decide +kernel
theorem dX9_of_43 : decode cX9_of 43 = .ok (.iconst 2, 1) := by decide +kernel
theorem dX9_of_44 : decode cX9_of 44 = .ok (.if_icmp .ne 10, 3) := by decide +kernel
theorem dX9_of_47 : decode cX9_of 47 = .ok (.aload_n 0, 1) := by decide +kernel
theorem dX9_of_48 : decode cX9_of 48 = .ok (.invokevirtual 100, 3) := by decide +kernel
theorem dX9_of_51 : decode cX9_of 51 = .ok (.goto 35, 3) := by decide +kernel
theorem dX9_of_54 : decode cX9_of 54 = .ok (.iload_n 1, 1) := by decide +kernel
theorem dX9_of_55 : decode cX9_of 55 = .ok (.iconst 3, 1) := by decide +kernel
theorem dX9_of_56 : decode cX9_of 56 = .ok (.if_icmp .ne 10, 3) := by decide +kernel
theorem dX9_of_59 : decode cX9_of 59 = .ok (.aload_n 0, 1) := by decide +kernel
theorem dX9_of_60 : decode cX9_of 60 = .ok (.invokevirtual 103, 3) := by decide +kernel
theorem dX9_of_63 : decode cX9_of 63 = .ok (.goto 23, 3) := by decide +kernel
theorem dX9_of_66 : decode cX9_of 66 = .ok (.iload_n 1, 1) := by decide +kernel
theorem dX9_of_67 : decode cX9_of 67 = .ok (.iconst 4, 1) := by decide +kernel
theorem dX9_of_68 : decode cX9_of 68 = .ok (.if_icmp .ne 10, 3) := by decide +kernel
theorem dX9_of_71 : decode cX9_of 71 = .ok (.aload_n 0, 1) := by decide +kernel
theorem dX9_of_72 : decode cX9_of 72 = .ok (.invokevirtual 60, 3) := by decide +kernel
theorem dX9_of_75 : decode cX9_of 75 = .ok (.goto 11, 3) := by decide +kernel
theorem dX9_of_78 : decode cX9_of 78 = .ok (.aload_n 0, 1) := by decide +kernel
theorem dX9_of_79 : decode cX9_of 79 = .ok (.invokevirtual 103, 3) := by decide +kernel
theorem dX9_of_82 : decode cX9_of 82 = .ok (.iconst 1, 1) := by decide +kernel
theorem dX9_of_83 : decode cX9_of 83 = .ok (.isub, 1) := by decide +kernel
theorem dX9_of_84 : decode cX9_of 84 = .ok (.iconst 2, 1) := by decide +kernel
theorem dX9_of_85 : decode cX9_of 85 = .ok (.idiv, 1) := by decide +kernel
theorem dX9_of_86 : decode cX9_of 86 = .ok (.ireturn, 1) := by decide +kernel
set_option maxRecDepth 20000 in
theorem ggX9_term_X9_bad : GoodIn wsX9_term wsX9_bad := goodIn_r _ [6, 7, 33, 34, 35, 36, 37, 38, 39, 40, 41, 42, 43, 44, 45, 46, 47, 48, 49, 50, 51, 52, 53, 54, 55, 56, 57, 58, 59] (by decide +kernel) (by decide +kernel)
set_option maxRecDepth 20000 in
theorem gX9_term_X9_bad : GoodIn wsX9_term (wsV RX9 90 RX9 yX9_bad wsX9_bad) := goodIn_app (goodIn_of _ (by decide +kernel)) ggX9_term_X9_bad
set_option maxRecDepth 20000 in
theorem ggX9_term_X9_many : GoodIn wsX9_term wsX9_many := goodIn_r _ [11, 12, 13, 14, 15, 5, 16, 17, 18, 19, 20, 21, 1, 22, 23, 24, 25, 26, 27, 28, 29, 30, 31, 32, 33, 34, 35, 36, 37, 38, 39, 40, 41, 42, 43, 44, 45, 46, 47, 48, 49, 50, 51, 52, 53, 54, 55, 56, 57, 58, 59] (by decide +kernel) (by decide +kernel)
set_option maxRecDepth 20000 in
theorem gX9_term_X9_many : GoodIn wsX9_term (wsV RX9 100 RX9 yX9_many wsX9_many) := goodIn_app (goodIn_of _ (by decide +kernel)) ggX9_term_X9_many
theorem dX9_term_0 : decode cX9_term 0 = .ok (.iload_n 1, 1) := by decide +kernel
theorem dX9_term_1 : decode cX9_term 1 = .ok (.ifCond .ge 10, 3) := by decide +kernel
theorem dX9_term_4 : decode cX9_term 4 = .ok (.aload_n 0, 1) := by decide +kernel
theorem dX9_term_5 : decode cX9_term 5 = .ok (.bipush (-2), 2) := by decide +kernel
theorem dX9_term_7 : decode cX9_term 7 = .ok (.invokevirtual 90, 3) := by decide +kernel
theorem dX9_term_10 : decode cX9_term 10 = .ok (.ireturn, 1) := by decide +kernel
theorem dX9_term_11 : decode cX9_term 11 = .ok (.iload_n 1, 1) := by decide +kernel
theorem dX9_term_12 : decode cX9_term 12 = .ok (.aload_n 0, 1) := by decide +kernel
theorem dX9_term_13 : decode cX9_term 13 = .ok (.invokevirtual 100, 3) := by decide +kernel
theorem dX9_term_16 : decode cX9_term 16 = .ok (.if_icmp .ge 12, 3) := by decide +kernel
theorem dX9_term_19 : decode cX9_term 19 = .ok (.aload_n 0, 1) := by decide +kernel
theorem dX9_term_20 : decode cX9_term 20 = .ok (.getfield 19, 3) := by decide +kernel
theorem dX9_term_23 : decode cX9_term 23 = .ok (.iload_n 1, 1) := by decide +kernel
theorem dX9_term_24 : decode cX9_term 24 = .ok (.iaload, 1) := by decide +kernel
theorem dX9_term_25 : decode cX9_term 25 = .ok (.goto 4, 3) := by decide +kernel
theorem dX9_term_28 : decode cX9_term 28 = .ok (.iconst (-1), 1) := by decide +kernel
theorem dX9_term_29 : decode cX9_term 29 = .ok (.ireturn, 1) := by decide +kernel
set_option maxRecDepth 20000 in
theorem ggX9_isWithin_X9_allOf : GoodIn wsX9_isWithin wsX9_allOf := goodIn_r _ [4] (by decide +kernel) (by decide +kernel)
set_option maxRecDepth 20000 in
theorem gX9_isWithin_X9_allOf : GoodIn wsX9_isWithin (va_wsS RX9 106 yX9_allOf wsX9_allOf) := goodIn_app (goodIn_of _ (by decide +kernel)) ggX9_isWithin_X9_allOf
theorem dX9_isWithin_0 : decode cX9_isWithin 0 = .ok (.iload_n 1, 1) := by decide +kernel
theorem dX9_isWithin_1 : decode cX9_isWithin 1 = .ok (.iload_n 2, 1) := by decide +kernel
theorem dX9_isWithin_2 : decode cX9_isWithin 2 = .ok (.invokestatic 106, 3) := by decide +kernel
theorem dX9_isWithin_5 : decode cX9_isWithin 5 = .ok (.iconst (-1), 1) := by decide +kernel
theorem dX9_isWithin_6 : decode cX9_isWithin 6 = .ok (.ixor, 1) := by decide +kernel
theorem dX9_isWithin_7 : decode cX9_isWithin 7 = .ok (.iand, 1) := by decide +kernel
theorem dX9_isWithin_8 : decode cX9_isWithin 8 = .ok (.ifCond .ne 7, 3) := by decide +kernel
theorem dX9_isWithin_11 : decode cX9_isWithin 11 = .ok (.iconst 1, 1) := by decide +kernel
theorem dX9_isWithin_12 : decode cX9_isWithin 12 = .ok (.goto 4, 3) := by decide +kernel
theorem dX9_isWithin_15 : decode cX9_isWithin 15 = .ok (.iconst 0, 1) := by decide +kernel
theorem dX9_isWithin_16 : decode cX9_isWithin 16 = .ok (.ireturn, 1) := by decide +kernel
set_option maxRecDepth 20000 in
theorem ggX9_word_X9_places : GoodIn wsX9_word wsX9_places := goodIn_r _ [6, 7, 8, 9, 5, 10, 1, 29, 30, 31, 32, 33, 34, 35, 36, 37, 38, 39, 40, 41, 42, 43, 44, 45, 46, 47, 48, 49, 50, 51, 52, 53, 54, 55] (by decide +kernel) (by decide +kernel)
set_option maxRecDepth 20000 in
theorem gX9_word_X9_places : GoodIn wsX9_word (wsV RX9 60 RX9 yX9_places wsX9_places) := goodIn_app (goodIn_of _ (by decide +kernel)) ggX9_word_X9_places
set_option maxRecDepth 20000 in
theorem ggX9_word_X9_isWithin : GoodIn wsX9_word wsX9_isWithin := goodIn_r _ [14, 15, 16, 5, 17] (by decide +kernel) (by decide +kernel)
set_option maxRecDepth 20000 in
theorem gX9_word_X9_isWithin : GoodIn wsX9_word (wsV RX9 109 RX9 yX9_isWithin wsX9_isWithin) := goodIn_app (goodIn_of _ (by decide +kernel)) ggX9_word_X9_isWithin
set_option maxRecDepth 20000 in
theorem ggX9_word_X9_bad : GoodIn wsX9_word wsX9_bad := goodIn_r _ [21, 22, 29, 30, 31, 32, 33, 34, 35, 36, 37, 38, 39, 40, 41, 42, 43, 44, 45, 46, 47, 48, 49, 50, 51, 52, 53, 54, 55] (by decide +kernel) (by decide +kernel)
set_option maxRecDepth 20000 in
theorem gX9_word_X9_bad : GoodIn wsX9_word (wsV RX9 90 RX9 yX9_bad wsX9_bad) := goodIn_app (goodIn_of _ (by decide +kernel)) ggX9_word_X9_bad
set_option maxRecDepth 20000 in
theorem ggX9_word_X9_keep : GoodIn wsX9_word wsX9_keep := goodIn_r _ [26, 27, 28, 1, 29, 30, 31, 32, 33, 34, 35, 36, 37, 38, 39, 40, 41, 42, 43, 44, 45, 46, 47, 48, 49, 50, 51, 52, 53, 54, 55] (by decide +kernel) (by decide +kernel)
set_option maxRecDepth 20000 in
theorem gX9_word_X9_keep : GoodIn wsX9_word (wsV RX9 93 RX9 yX9_keep wsX9_keep) := goodIn_app (goodIn_of _ (by decide +kernel)) ggX9_word_X9_keep
theorem dX9_word_0 : decode cX9_word 0 = .ok (.aload_n 0, 1) := by decide +kernel
theorem dX9_word_1 : decode cX9_word 1 = .ok (.iload_n 1, 1) := by decide +kernel
theorem dX9_word_2 : decode cX9_word 2 = .ok (.aload_n 0, 1) := by decide +kernel
theorem dX9_word_3 : decode cX9_word 3 = .ok (.invokevirtual 60, 3) := by decide +kernel
theorem dX9_word_6 : decode cX9_word 6 = .ok (.invokevirtual 109, 3) := by decide +kernel
theorem dX9_word_9 : decode cX9_word 9 = .ok (.ifCond .ne 10, 3) := by decide +kernel
theorem dX9_word_12 : decode cX9_word 12 = .ok (.aload_n 0, 1) := by decide +kernel
theorem dX9_word_13 : decode cX9_word 13 = .ok (.bipush (-2), 2) := by decide +kernel
theorem dX9_word_15 : decode cX9_word 15 = .ok (.invokevirtual 90, 3) := by decide +kernel
theorem dX9_word_18 : decode cX9_word 18 = .ok (.ireturn, 1) := by decide +kernel
theorem dX9_word_19 : decode cX9_word 19 = .ok (.aload_n 0, 1) := by decide +kernel
theorem dX9_word_20 : decode cX9_word 20 = .ok (.invokevirtual 93, 3) := by decide +kernel
theorem dX9_word_23 : decode cX9_word 23 = .ok (.aload_n 0, 1) := by decide +kernel
theorem dX9_word_24 : decode cX9_word 24 = .ok (.getfield 7, 3) := by decide +kernel
theorem dX9_word_27 : decode cX9_word 27 = .ok (.iconst 2, 1) := by decide +kernel
theorem dX9_word_28 : decode cX9_word 28 = .ok (.iload_n 1, 1) := by decide +kernel
theorem dX9_word_29 : decode cX9_word 29 = .ok (.iastore, 1) := by decide +kernel
theorem dX9_word_30 : decode cX9_word 30 = .ok (.iconst 1, 1) := by decide +kernel
theorem dX9_word_31 : decode cX9_word 31 = .ok (.ireturn, 1) := by decide +kernel
set_option maxRecDepth 20000 in
theorem ggX9_encodes_X9_many : GoodIn wsX9_encodes wsX9_many := goodIn_r _ [6, 7, 8, 9, 10, 5, 11, 1, 12, 13, 14, 15, 16, 17, 18, 19, 20, 21, 22, 23, 24, 25, 26, 27, 43, 44, 45, 46, 47, 48, 49, 50, 51, 52, 53, 54, 55, 56, 57, 58, 59, 60, 61, 62, 63, 64, 65, 66, 67, 68, 69] (by decide +kernel) (by decide +kernel)
set_option maxRecDepth 20000 in
theorem gX9_encodes_X9_many : GoodIn wsX9_encodes (wsV RX9 100 RX9 yX9_many wsX9_many) := goodIn_app (goodIn_of _ (by decide +kernel)) ggX9_encodes_X9_many
set_option maxRecDepth 20000 in
theorem ggX9_encodes_X9_sumOf : GoodIn wsX9_encodes wsX9_sumOf := goodIn_r _ [31, 16, 32, 33, 5, 34, 35, 36, 37, 38, 17, 18, 19, 20, 21, 22, 23, 24, 1, 43, 44, 45, 46, 47, 48, 49, 50, 51, 52, 53, 54, 55, 56, 57, 58, 59, 60, 61, 62, 63, 64, 65, 66, 67, 68, 69] (by decide +kernel) (by decide +kernel)
set_option maxRecDepth 20000 in
theorem gX9_encodes_X9_sumOf : GoodIn wsX9_encodes (wsV RX9 112 RX9 yX9_sumOf wsX9_sumOf) := goodIn_app (goodIn_of _ (by decide +kernel)) ggX9_encodes_X9_sumOf
set_option maxRecDepth 20000 in
theorem ggX9_encodes_X9_theWord : GoodIn wsX9_encodes wsX9_theWord := goodIn_r _ [42, 1, 43, 44, 45, 46, 47, 48, 49, 50, 51, 52, 53, 54, 55, 56, 57, 58, 59, 60, 61, 62, 63, 64, 65, 66, 67, 68, 69] (by decide +kernel) (by decide +kernel)
set_option maxRecDepth 20000 in
theorem gX9_encodes_X9_theWord : GoodIn wsX9_encodes (wsV RX9 116 RX9 yX9_theWord wsX9_theWord) := goodIn_app (goodIn_of _ (by decide +kernel)) ggX9_encodes_X9_theWord
set_option maxRecDepth 20000 in
theorem ggX9_encodes_X9_bits : GoodIn wsX9_encodes wsX9_bits := goodIn_r _ [27] (by decide +kernel) (by decide +kernel)
set_option maxRecDepth 20000 in
theorem gX9_encodes_X9_bits : GoodIn wsX9_encodes (va_wsS RX9 63 yX9_bits wsX9_bits) := goodIn_app (goodIn_of _ (by decide +kernel)) ggX9_encodes_X9_bits
theorem dX9_encodes_0 : decode cX9_encodes 0 = .ok (.aload_n 0, 1) := by decide +kernel
theorem dX9_encodes_1 : decode cX9_encodes 1 = .ok (.invokevirtual 100, 3) := by decide +kernel
theorem dX9_encodes_4 : decode cX9_encodes 4 = .ok (.istore_n 2, 1) := by decide +kernel
theorem dX9_encodes_5 : decode cX9_encodes 5 = .ok (.aload_n 0, 1) := by decide +kernel
theorem dX9_encodes_6 : decode cX9_encodes 6 = .ok (.getfield 7, 3) := by decide +kernel
theorem dX9_encodes_9 : decode cX9_encodes 9 = .ok (.iconst 2, 1) := by decide +kernel
theorem dX9_encodes_10 : decode cX9_encodes 10 = .ok (.aload_n 0, 1) := by decide +kernel
theorem dX9_encodes_11 : decode cX9_encodes 11 = .ok (.iload_n 1, 1) := by decide +kernel
theorem dX9_encodes_12 : decode cX9_encodes 12 = .ok (.iload_n 2, 1) := by decide +kernel
theorem dX9_encodes_13 : decode cX9_encodes 13 = .ok (.invokevirtual 112, 3) := by decide +kernel
theorem dX9_encodes_16 : decode cX9_encodes 16 = .ok (.iastore, 1) := by decide +kernel
theorem dX9_encodes_17 : decode cX9_encodes 17 = .ok (.aload_n 0, 1) := by decide +kernel
theorem dX9_encodes_18 : decode cX9_encodes 18 = .ok (.invokevirtual 116, 3) := by decide +kernel
theorem dX9_encodes_21 : decode cX9_encodes 21 = .ok (.invokestatic 63, 3) := by decide +kernel
theorem dX9_encodes_24 : decode cX9_encodes 24 = .ok (.ireturn, 1) := by decide +kernel
set_option maxRecDepth 20000 in
theorem ggX9_encode_X9_many : GoodIn wsX9_encode wsX9_many := goodIn_r _ [5, 6, 7, 8, 9, 4, 10, 11, 12, 13, 14, 15, 16, 17, 18, 19, 20, 21, 22, 23, 24, 25, 26, 27, 65, 66, 67, 68, 69, 70, 71, 72, 73, 74, 75, 76, 77, 78, 79, 80, 81, 82, 83, 84, 85, 86, 87, 88, 89, 90, 91] (by decide +kernel) (by decide +kernel)
set_option maxRecDepth 20000 in
theorem gX9_encode_X9_many : GoodIn wsX9_encode (wsV RX9 100 RX9 yX9_many wsX9_many) := goodIn_app (goodIn_of _ (by decide +kernel)) ggX9_encode_X9_many
set_option maxRecDepth 20000 in
theorem ggX9_encode_X9_isWithin : GoodIn wsX9_encode wsX9_isWithin := goodIn_r _ [31, 32, 33, 4, 34] (by decide +kernel) (by decide +kernel)
set_option maxRecDepth 20000 in
theorem gX9_encode_X9_isWithin : GoodIn wsX9_encode (wsV RX9 109 RX9 yX9_isWithin wsX9_isWithin) := goodIn_app (goodIn_of _ (by decide +kernel)) ggX9_encode_X9_isWithin
set_option maxRecDepth 20000 in
theorem ggX9_encode_X9_bad : GoodIn wsX9_encode wsX9_bad := goodIn_r _ [38, 39, 65, 66, 67, 68, 69, 70, 71, 72, 73, 74, 75, 76, 77, 78, 79, 80, 81, 82, 83, 84, 85, 86, 87, 88, 89, 90, 91] (by decide +kernel) (by decide +kernel)
set_option maxRecDepth 20000 in
theorem gX9_encode_X9_bad : GoodIn wsX9_encode (wsV RX9 90 RX9 yX9_bad wsX9_bad) := goodIn_app (goodIn_of _ (by decide +kernel)) ggX9_encode_X9_bad
set_option maxRecDepth 20000 in
theorem ggX9_encode_X9_keep : GoodIn wsX9_encode wsX9_keep := goodIn_r _ [43, 44, 45, 11, 65, 66, 67, 68, 69, 70, 71, 72, 73, 74, 75, 76, 77, 78, 79, 80, 81, 82, 83, 84, 85, 86, 87, 88, 89, 90, 91] (by decide +kernel) (by decide +kernel)
set_option maxRecDepth 20000 in
theorem gX9_encode_X9_keep : GoodIn wsX9_encode (wsV RX9 93 RX9 yX9_keep wsX9_keep) := goodIn_app (goodIn_of _ (by decide +kernel)) ggX9_encode_X9_keep
set_option maxRecDepth 20000 in
theorem ggX9_encode_X9_encodes : GoodIn wsX9_encode wsX9_encodes := goodIn_r _ [49, 11, 1, 2, 3, 4, 5, 6, 7, 8, 9, 10, 12, 13, 14, 15, 16, 17, 18, 19, 20, 21, 22, 23, 24, 25, 26, 27, 50, 51, 52, 53, 54, 55, 56, 57, 58, 59, 60, 61, 62, 63, 64, 65, 66, 67, 68, 69, 70, 71, 72, 73, 74, 75, 76, 77, 78, 79, 80, 81, 82, 83, 84, 85, 86, 87, 88, 89, 90, 91] (by decide +kernel) (by decide +kernel)
set_option maxRecDepth 20000 in
theorem gX9_encode_X9_encodes : GoodIn wsX9_encode (wsV RX9 119 RX9 yX9_encodes wsX9_encodes) := goodIn_app (goodIn_of _ (by decide +kernel)) ggX9_encode_X9_encodes
theorem dX9_encode_0 : decode cX9_encode 0 = .ok (.aload_n 0, 1) := by decide +kernel
theorem dX9_encode_1 : decode cX9_encode 1 = .ok (.iload_n 1, 1) := by decide +kernel
theorem dX9_encode_2 : decode cX9_encode 2 = .ok (.aload_n 0, 1) := by decide +kernel
theorem dX9_encode_3 : decode cX9_encode 3 = .ok (.invokevirtual 100, 3) := by decide +kernel
theorem dX9_encode_6 : decode cX9_encode 6 = .ok (.invokevirtual 109, 3) := by decide +kernel
theorem dX9_encode_9 : decode cX9_encode 9 = .ok (.ifCond .ne 10, 3) := by decide +kernel
theorem dX9_encode_12 : decode cX9_encode 12 = .ok (.aload_n 0, 1) := by decide +kernel
theorem dX9_encode_13 : decode cX9_encode 13 = .ok (.bipush (-2), 2) := by decide +kernel
theorem dX9_encode_15 : decode cX9_encode 15 = .ok (.invokevirtual 90, 3) := by decide +kernel
theorem dX9_encode_18 : decode cX9_encode 18 = .ok (.ireturn, 1) := by decide +kernel
theorem dX9_encode_19 : decode cX9_encode 19 = .ok (.aload_n 0, 1) := by decide +kernel
theorem dX9_encode_20 : decode cX9_encode 20 = .ok (.invokevirtual 93, 3) := by decide +kernel
theorem dX9_encode_23 : decode cX9_encode 23 = .ok (.aload_n 0, 1) := by decide +kernel
theorem dX9_encode_24 : decode cX9_encode 24 = .ok (.iload_n 1, 1) := by decide +kernel
theorem dX9_encode_25 : decode cX9_encode 25 = .ok (.invokevirtual 119, 3) := by decide +kernel
theorem dX9_encode_28 : decode cX9_encode 28 = .ok (.ireturn, 1) := by decide +kernel
set_option maxRecDepth 20000 in
theorem ggX9_isPlace_X9_places : GoodIn wsX9_isPlace wsX9_places := goodIn_r _ [5, 6, 7, 8, 4, 9, 10, 14, 15, 16, 17, 18, 19, 20, 21, 22, 23, 24, 25, 26, 27, 28, 29, 30, 31, 32, 33, 34, 35, 36, 37, 38, 39, 40] (by decide +kernel) (by decide +kernel)
set_option maxRecDepth 20000 in
theorem gX9_isPlace_X9_places : GoodIn wsX9_isPlace (wsV RX9 60 RX9 yX9_places wsX9_places) := goodIn_app (goodIn_of _ (by decide +kernel)) ggX9_isPlace_X9_places
set_option maxRecDepth 20000 in
theorem ggX9_isPlace_X9_in : GoodIn wsX9_isPlace wsX9_in := goodIn_r _ [13] (by decide +kernel) (by decide +kernel)
set_option maxRecDepth 20000 in
theorem gX9_isPlace_X9_in : GoodIn wsX9_isPlace (va_wsS RX9 83 yX9_in wsX9_in) := goodIn_app (goodIn_of _ (by decide +kernel)) ggX9_isPlace_X9_in
theorem dX9_isPlace_0 : decode cX9_isPlace 0 = .ok (.iload_n 1, 1) := by decide +kernel
theorem dX9_isPlace_1 : decode cX9_isPlace 1 = .ok (.i2l, 1) := by decide +kernel
theorem dX9_isPlace_2 : decode cX9_isPlace 2 = .ok (.lconst 0, 1) := by decide +kernel
theorem dX9_isPlace_3 : decode cX9_isPlace 3 = .ok (.aload_n 0, 1) := by decide +kernel
theorem dX9_isPlace_4 : decode cX9_isPlace 4 = .ok (.invokevirtual 60, 3) := by decide +kernel
theorem dX9_isPlace_7 : decode cX9_isPlace 7 = .ok (.iconst 1, 1) := by decide +kernel
theorem dX9_isPlace_8 : decode cX9_isPlace 8 = .ok (.isub, 1) := by decide +kernel
theorem dX9_isPlace_9 : decode cX9_isPlace 9 = .ok (.i2l, 1) := by decide +kernel
theorem dX9_isPlace_10 : decode cX9_isPlace 10 = .ok (.invokestatic 83, 3) := by decide +kernel
theorem dX9_isPlace_13 : decode cX9_isPlace 13 = .ok (.ireturn, 1) := by decide +kernel
set_option maxRecDepth 20000 in
theorem ggX9_flips_X9_theWord : GoodIn wsX9_flips wsX9_theWord := goodIn_r _ [6, 1, 10, 11, 12, 13, 14, 15, 16, 17, 18, 19, 20, 21, 22, 23, 24, 25, 26, 27, 28, 29, 30, 31, 32, 33, 34, 35, 36] (by decide +kernel) (by decide +kernel)
set_option maxRecDepth 20000 in
theorem gX9_flips_X9_theWord : GoodIn wsX9_flips (wsV RX9 116 RX9 yX9_theWord wsX9_theWord) := goodIn_app (goodIn_of _ (by decide +kernel)) ggX9_flips_X9_theWord
set_option maxRecDepth 20000 in
theorem ggX9_flips_X9_has : GoodIn wsX9_flips wsX9_has := goodIn_r _ [9] (by decide +kernel) (by decide +kernel)
set_option maxRecDepth 20000 in
theorem gX9_flips_X9_has : GoodIn wsX9_flips (va_wsS RX9 74 yX9_has wsX9_has) := goodIn_app (goodIn_of _ (by decide +kernel)) ggX9_flips_X9_has
theorem dX9_flips_0 : decode cX9_flips 0 = .ok (.aload_n 0, 1) := by decide +kernel
theorem dX9_flips_1 : decode cX9_flips 1 = .ok (.getfield 7, 3) := by decide +kernel
theorem dX9_flips_4 : decode cX9_flips 4 = .ok (.iconst 2, 1) := by decide +kernel
theorem dX9_flips_5 : decode cX9_flips 5 = .ok (.dup2, 1) := by decide +kernel
theorem dX9_flips_6 : decode cX9_flips 6 = .ok (.iaload, 1) := by decide +kernel
theorem dX9_flips_7 : decode cX9_flips 7 = .ok (.iconst 1, 1) := by decide +kernel
theorem dX9_flips_8 : decode cX9_flips 8 = .ok (.iload_n 1, 1) := by decide +kernel
theorem dX9_flips_9 : decode cX9_flips 9 = .ok (.ishl, 1) := by decide +kernel
theorem dX9_flips_10 : decode cX9_flips 10 = .ok (.ixor, 1) := by decide +kernel
theorem dX9_flips_11 : decode cX9_flips 11 = .ok (.iastore, 1) := by decide +kernel
theorem dX9_flips_12 : decode cX9_flips 12 = .ok (.aload_n 0, 1) := by decide +kernel
theorem dX9_flips_13 : decode cX9_flips 13 = .ok (.invokevirtual 116, 3) := by decide +kernel
theorem dX9_flips_16 : decode cX9_flips 16 = .ok (.iload_n 1, 1) := by decide +kernel
theorem dX9_flips_17 : decode cX9_flips 17 = .ok (.invokestatic 74, 3) := by decide +kernel
theorem dX9_flips_20 : decode cX9_flips 20 = .ok (.ifCond .eq 7, 3) := by decide +kernel
theorem dX9_flips_23 : decode cX9_flips 23 = .ok (.iconst 1, 1) := by decide +kernel
theorem dX9_flips_24 : decode cX9_flips 24 = .ok (.goto 4, 3) := by decide +kernel
theorem dX9_flips_27 : decode cX9_flips 27 = .ok (.iconst 0, 1) := by decide +kernel
theorem dX9_flips_28 : decode cX9_flips 28 = .ok (.ireturn, 1) := by decide +kernel
set_option maxRecDepth 20000 in
theorem ggX9_flip_X9_isPlace : GoodIn wsX9_flip wsX9_isPlace := goodIn_r _ [5, 6, 7, 8, 4, 9, 10, 11, 12, 13, 14, 15, 16, 17, 40, 41, 42, 43, 44, 45, 46, 47, 48, 49, 50, 51, 52, 53, 54, 55, 56, 57, 58, 59, 60, 61, 62, 63, 64, 65, 66] (by decide +kernel) (by decide +kernel)
set_option maxRecDepth 20000 in
theorem gX9_flip_X9_isPlace : GoodIn wsX9_flip (wsV RX9 122 RX9 yX9_isPlace wsX9_isPlace) := goodIn_app (goodIn_of _ (by decide +kernel)) ggX9_flip_X9_isPlace
set_option maxRecDepth 20000 in
theorem ggX9_flip_X9_bad : GoodIn wsX9_flip wsX9_bad := goodIn_r _ [21, 22, 40, 41, 42, 43, 44, 45, 46, 47, 48, 49, 50, 51, 52, 53, 54, 55, 56, 57, 58, 59, 60, 61, 62, 63, 64, 65, 66] (by decide +kernel) (by decide +kernel)
set_option maxRecDepth 20000 in
theorem gX9_flip_X9_bad : GoodIn wsX9_flip (wsV RX9 90 RX9 yX9_bad wsX9_bad) := goodIn_app (goodIn_of _ (by decide +kernel)) ggX9_flip_X9_bad
set_option maxRecDepth 20000 in
theorem ggX9_flip_X9_keep : GoodIn wsX9_flip wsX9_keep := goodIn_r _ [26, 27, 28, 14, 40, 41, 42, 43, 44, 45, 46, 47, 48, 49, 50, 51, 52, 53, 54, 55, 56, 57, 58, 59, 60, 61, 62, 63, 64, 65, 66] (by decide +kernel) (by decide +kernel)
set_option maxRecDepth 20000 in
theorem gX9_flip_X9_keep : GoodIn wsX9_flip (wsV RX9 93 RX9 yX9_keep wsX9_keep) := goodIn_app (goodIn_of _ (by decide +kernel)) ggX9_flip_X9_keep
set_option maxRecDepth 20000 in
theorem ggX9_flip_X9_flips : GoodIn wsX9_flip wsX9_flips := goodIn_r _ [32, 14, 33, 34, 35, 4, 36, 37, 38, 39, 40, 41, 42, 43, 44, 45, 46, 47, 48, 49, 50, 51, 52, 53, 54, 55, 56, 57, 58, 59, 60, 61, 62, 63, 64, 65, 66] (by decide +kernel) (by decide +kernel)
set_option maxRecDepth 20000 in
theorem gX9_flip_X9_flips : GoodIn wsX9_flip (wsV RX9 126 RX9 yX9_flips wsX9_flips) := goodIn_app (goodIn_of _ (by decide +kernel)) ggX9_flip_X9_flips
theorem dX9_flip_0 : decode cX9_flip 0 = .ok (.aload_n 0, 1) := by decide +kernel
theorem dX9_flip_1 : decode cX9_flip 1 = .ok (.iload_n 1, 1) := by decide +kernel
theorem dX9_flip_2 : decode cX9_flip 2 = .ok (.invokevirtual 122, 3) := by decide +kernel
theorem dX9_flip_5 : decode cX9_flip 5 = .ok (.ifCond .ne 10, 3) := by decide +kernel
theorem dX9_flip_8 : decode cX9_flip 8 = .ok (.aload_n 0, 1) := by decide +kernel
theorem dX9_flip_9 : decode cX9_flip 9 = .ok (.bipush (-2), 2) := by decide +kernel
theorem dX9_flip_11 : decode cX9_flip 11 = .ok (.invokevirtual 90, 3) := by decide +kernel
theorem dX9_flip_14 : decode cX9_flip 14 = .ok (.ireturn, 1) := by decide +kernel
theorem dX9_flip_15 : decode cX9_flip 15 = .ok (.aload_n 0, 1) := by decide +kernel
theorem dX9_flip_16 : decode cX9_flip 16 = .ok (.invokevirtual 93, 3) := by decide +kernel
theorem dX9_flip_19 : decode cX9_flip 19 = .ok (.aload_n 0, 1) := by decide +kernel
theorem dX9_flip_20 : decode cX9_flip 20 = .ok (.iload_n 1, 1) := by decide +kernel
theorem dX9_flip_21 : decode cX9_flip 21 = .ok (.invokevirtual 126, 3) := by decide +kernel
theorem dX9_flip_24 : decode cX9_flip 24 = .ok (.ireturn, 1) := by decide +kernel
set_option maxRecDepth 20000 in
theorem ggX9_hurt_X9_in : GoodIn wsX9_hurt wsX9_in := goodIn_r _ [10] (by decide +kernel) (by decide +kernel)
set_option maxRecDepth 20000 in
theorem gX9_hurt_X9_in : GoodIn wsX9_hurt (va_wsS RX9 83 yX9_in wsX9_in) := goodIn_app (goodIn_of _ (by decide +kernel)) ggX9_hurt_X9_in
set_option maxRecDepth 20000 in
theorem ggX9_hurt_X9_places : GoodIn wsX9_hurt wsX9_places := goodIn_r _ [14, 15, 16, 17, 9, 18, 6, 40, 41, 42, 43, 44, 45, 46, 47, 48, 49, 50, 51, 52, 53, 54, 55, 56, 57, 58, 59, 60, 61, 62, 63, 64, 65, 66] (by decide +kernel) (by decide +kernel)
set_option maxRecDepth 20000 in
theorem gX9_hurt_X9_places : GoodIn wsX9_hurt (wsV RX9 60 RX9 yX9_places wsX9_places) := goodIn_app (goodIn_of _ (by decide +kernel)) ggX9_hurt_X9_places
set_option maxRecDepth 20000 in
theorem ggX9_hurt_X9_bad : GoodIn wsX9_hurt wsX9_bad := goodIn_r _ [22, 23, 40, 41, 42, 43, 44, 45, 46, 47, 48, 49, 50, 51, 52, 53, 54, 55, 56, 57, 58, 59, 60, 61, 62, 63, 64, 65, 66] (by decide +kernel) (by decide +kernel)
set_option maxRecDepth 20000 in
theorem gX9_hurt_X9_bad : GoodIn wsX9_hurt (wsV RX9 90 RX9 yX9_bad wsX9_bad) := goodIn_app (goodIn_of _ (by decide +kernel)) ggX9_hurt_X9_bad
set_option maxRecDepth 20000 in
theorem ggX9_hurt_X9_keep : GoodIn wsX9_hurt wsX9_keep := goodIn_r _ [27, 28, 29, 6, 40, 41, 42, 43, 44, 45, 46, 47, 48, 49, 50, 51, 52, 53, 54, 55, 56, 57, 58, 59, 60, 61, 62, 63, 64, 65, 66] (by decide +kernel) (by decide +kernel)
set_option maxRecDepth 20000 in
theorem gX9_hurt_X9_keep : GoodIn wsX9_hurt (wsV RX9 93 RX9 yX9_keep wsX9_keep) := goodIn_app (goodIn_of _ (by decide +kernel)) ggX9_hurt_X9_keep
set_option maxRecDepth 20000 in
theorem ggX9_hurt_X9_has : GoodIn wsX9_hurt wsX9_has := goodIn_r _ [32] (by decide +kernel) (by decide +kernel)
set_option maxRecDepth 20000 in
theorem gX9_hurt_X9_has : GoodIn wsX9_hurt (va_wsS RX9 74 yX9_has wsX9_has) := goodIn_app (goodIn_of _ (by decide +kernel)) ggX9_hurt_X9_has
set_option maxRecDepth 20000 in
theorem ggX9_hurt_X9_theWord : GoodIn wsX9_hurt wsX9_theWord := goodIn_r _ [36, 6, 40, 41, 42, 43, 44, 45, 46, 47, 48, 49, 50, 51, 52, 53, 54, 55, 56, 57, 58, 59, 60, 61, 62, 63, 64, 65, 66] (by decide +kernel) (by decide +kernel)
set_option maxRecDepth 20000 in
theorem gX9_hurt_X9_theWord : GoodIn wsX9_hurt (wsV RX9 116 RX9 yX9_theWord wsX9_theWord) := goodIn_app (goodIn_of _ (by decide +kernel)) ggX9_hurt_X9_theWord
set_option maxRecDepth 20000 in
theorem ggX9_hurt_X9_bits : GoodIn wsX9_hurt wsX9_bits := goodIn_r _ [39] (by decide +kernel) (by decide +kernel)
set_option maxRecDepth 20000 in
theorem gX9_hurt_X9_bits : GoodIn wsX9_hurt (va_wsS RX9 63 yX9_bits wsX9_bits) := goodIn_app (goodIn_of _ (by decide +kernel)) ggX9_hurt_X9_bits
theorem dX9_hurt_0 : decode cX9_hurt 0 = .ok (.iload_n 1, 1) := by decide +kernel
theorem dX9_hurt_1 : decode cX9_hurt 1 = .ok (.i2l, 1) := by decide +kernel
theorem dX9_hurt_2 : decode cX9_hurt 2 = .ok (.lconst 0, 1) := by decide +kernel
theorem dX9_hurt_3 : decode cX9_hurt 3 = .ok (.ldc2_w 129, 3) := by decide +kernel
theorem dX9_hurt_6 : decode cX9_hurt 6 = .ok (.invokestatic 83, 3) := by decide +kernel
theorem dX9_hurt_9 : decode cX9_hurt 9 = .ok (.ifCond .eq 17, 3) := by decide +kernel
theorem dX9_hurt_12 : decode cX9_hurt 12 = .ok (.iload_n 2, 1) := by decide +kernel
theorem dX9_hurt_13 : decode cX9_hurt 13 = .ok (.i2l, 1) := by decide +kernel
theorem dX9_hurt_14 : decode cX9_hurt 14 = .ok (.lconst 0, 1) := by decide +kernel
theorem dX9_hurt_15 : decode cX9_hurt 15 = .ok (.aload_n 0, 1) := by decide +kernel
theorem dX9_hurt_16 : decode cX9_hurt 16 = .ok (.invokevirtual 60, 3) := by decide +kernel
theorem dX9_hurt_19 : decode cX9_hurt 19 = .ok (.i2l, 1) := by decide +kernel
theorem dX9_hurt_20 : decode cX9_hurt 20 = .ok (.invokestatic 83, 3) := by decide +kernel
theorem dX9_hurt_23 : decode cX9_hurt 23 = .ok (.ifCond .ne 10, 3) := by decide +kernel
theorem dX9_hurt_26 : decode cX9_hurt 26 = .ok (.aload_n 0, 1) := by decide +kernel
theorem dX9_hurt_27 : decode cX9_hurt 27 = .ok (.bipush (-2), 2) := by decide +kernel
theorem dX9_hurt_29 : decode cX9_hurt 29 = .ok (.invokevirtual 90, 3) := by decide +kernel
theorem dX9_hurt_32 : decode cX9_hurt 32 = .ok (.ireturn, 1) := by decide +kernel
theorem dX9_hurt_33 : decode cX9_hurt 33 = .ok (.iload_n 1, 1) := by decide +kernel
theorem dX9_hurt_34 : decode cX9_hurt 34 = .ok (.i2l, 1) := by decide +kernel
theorem dX9_hurt_35 : decode cX9_hurt 35 = .ok (.lstore_n 3, 1) := by decide +kernel
theorem dX9_hurt_36 : decode cX9_hurt 36 = .ok (.iconst 0, 1) := by decide +kernel
theorem dX9_hurt_37 : decode cX9_hurt 37 = .ok (.istore 5, 2) := by decide +kernel
theorem dX9_hurt_39 : decode cX9_hurt 39 = .ok (.aload_n 0, 1) := by decide +kernel
theorem dX9_hurt_40 : decode cX9_hurt 40 = .ok (.invokevirtual 93, 3) := by decide +kernel
theorem dX9_hurt_43 : decode cX9_hurt 43 = .ok (.iconst 0, 1) := by decide +kernel
theorem dX9_hurt_44 : decode cX9_hurt 44 = .ok (.istore 6, 2) := by decide +kernel
theorem dX9_hurt_46 : decode cX9_hurt 46 = .ok (.iload 6, 2) := by decide +kernel
theorem dX9_hurt_48 : decode cX9_hurt 48 = .ok (.iload_n 2, 1) := by decide +kernel
theorem dX9_hurt_49 : decode cX9_hurt 49 = .ok (.if_icmp .ge 70, 3) := by decide +kernel
theorem dX9_hurt_52 : decode cX9_hurt 52 = .ok (.lload_n 3, 1) := by decide +kernel
theorem dX9_hurt_53 : decode cX9_hurt 53 = .ok (.ldc2_w 131, 3) := by decide +kernel
theorem dX9_hurt_56 : decode cX9_hurt 56 = .ok (.lmul, 1) := by decide +kernel
theorem dX9_hurt_57 : decode cX9_hurt 57 = .ok (.ldc2_w 133, 3) := by decide +kernel
theorem dX9_hurt_60 : decode cX9_hurt 60 = .ok (.ladd, 1) := by decide +kernel
theorem dX9_hurt_61 : decode cX9_hurt 61 = .ok (.ldc2_w 135, 3) := by decide +kernel
theorem dX9_hurt_64 : decode cX9_hurt 64 = .ok (.lrem, 1) := by decide +kernel
theorem dX9_hurt_65 : decode cX9_hurt 65 = .ok (.lstore_n 3, 1) := by decide +kernel
theorem dX9_hurt_66 : decode cX9_hurt 66 = .ok (.lload_n 3, 1) := by decide +kernel
theorem dX9_hurt_67 : decode cX9_hurt 67 = .ok (.ldc2_w 137, 3) := by decide +kernel
theorem dX9_hurt_70 : decode cX9_hurt 70 = .ok (.ldiv, 1) := by decide +kernel
theorem dX9_hurt_71 : decode cX9_hurt 71 = .ok (.aload_n 0, 1) := by decide +kernel
theorem dX9_hurt_72 : decode cX9_hurt 72 = .ok (.invokevirtual 60, 3) := by decide +kernel
theorem dX9_hurt_75 : decode cX9_hurt 75 = .ok (.i2l, 1) := by decide +kernel
theorem dX9_hurt_76 : decode cX9_hurt 76 = .ok (.lrem, 1) := by decide +kernel
theorem dX9_hurt_77 : decode cX9_hurt 77 = .ok (.l2i, 1) := by decide +kernel
theorem dX9_hurt_78 : decode cX9_hurt 78 = .ok (.istore 7, 2) := by decide +kernel
theorem dX9_hurt_80 : decode cX9_hurt 80 = .ok (.iload 5, 2) := by decide +kernel
theorem dX9_hurt_82 : decode cX9_hurt 82 = .ok (.iload 7, 2) := by decide +kernel
theorem dX9_hurt_84 : decode cX9_hurt 84 = .ok (.invokestatic 74, 3) := by decide +kernel
theorem dX9_hurt_87 : decode cX9_hurt 87 = .ok (.ifCond .eq 17, 3) := by decide +kernel
theorem dX9_hurt_90 : decode cX9_hurt 90 = .ok (.iload 7, 2) := by decide +kernel
theorem dX9_hurt_92 : decode cX9_hurt 92 = .ok (.iconst 1, 1) := by decide +kernel
theorem dX9_hurt_93 : decode cX9_hurt 93 = .ok (.iadd, 1) := by decide +kernel
theorem dX9_hurt_94 : decode cX9_hurt 94 = .ok (.aload_n 0, 1) := by decide +kernel
theorem dX9_hurt_95 : decode cX9_hurt 95 = .ok (.invokevirtual 60, 3) := by decide +kernel
theorem dX9_hurt_98 : decode cX9_hurt 98 = .ok (.irem, 1) := by decide +kernel
theorem dX9_hurt_99 : decode cX9_hurt 99 = .ok (.istore 7, 2) := by decide +kernel
theorem dX9_hurt_101 : decode cX9_hurt 101 = .ok (.goto (-21), 3) := by decide +kernel
theorem dX9_hurt_104 : decode cX9_hurt 104 = .ok (.iload 5, 2) := by decide +kernel
theorem dX9_hurt_106 : decode cX9_hurt 106 = .ok (.iconst 1, 1) := by decide +kernel
theorem dX9_hurt_107 : decode cX9_hurt 107 = .ok (.iload 7, 2) := by decide +kernel
theorem dX9_hurt_109 : decode cX9_hurt 109 = .ok (.ishl, 1) := by decide +kernel
theorem dX9_hurt_110 : decode cX9_hurt 110 = .ok (.ior, 1) := by decide +kernel
theorem dX9_hurt_111 : decode cX9_hurt 111 = .ok (.istore 5, 2) := by decide +kernel
theorem dX9_hurt_113 : decode cX9_hurt 113 = .ok (.iinc 6 1, 3) := by decide +kernel
theorem dX9_hurt_116 : decode cX9_hurt 116 = .ok (.goto (-70), 3) := by decide +kernel
theorem dX9_hurt_119 : decode cX9_hurt 119 = .ok (.aload_n 0, 1) := by decide +kernel
theorem dX9_hurt_120 : decode cX9_hurt 120 = .ok (.getfield 7, 3) := by decide +kernel
theorem dX9_hurt_123 : decode cX9_hurt 123 = .ok (.iconst 2, 1) := by decide +kernel
theorem dX9_hurt_124 : decode cX9_hurt 124 = .ok (.dup2, 1) := by decide +kernel
theorem dX9_hurt_125 : decode cX9_hurt 125 = .ok (.iaload, 1) := by decide +kernel
theorem dX9_hurt_126 : decode cX9_hurt 126 = .ok (.iload 5, 2) := by decide +kernel
theorem dX9_hurt_128 : decode cX9_hurt 128 = .ok (.ixor, 1) := by decide +kernel
theorem dX9_hurt_129 : decode cX9_hurt 129 = .ok (.iastore, 1) := by decide +kernel
theorem dX9_hurt_130 : decode cX9_hurt 130 = .ok (.aload_n 0, 1) := by decide +kernel
theorem dX9_hurt_131 : decode cX9_hurt 131 = .ok (.invokevirtual 116, 3) := by decide +kernel
theorem dX9_hurt_134 : decode cX9_hurt 134 = .ok (.invokestatic 63, 3) := by decide +kernel
theorem dX9_hurt_137 : decode cX9_hurt 137 = .ok (.ireturn, 1) := by decide +kernel
set_option maxRecDepth 20000 in
theorem ggX9_now_X9_theWord : GoodIn wsX9_now wsX9_theWord := goodIn_r _ [5, 6, 7, 8, 9, 10, 11, 12, 13, 14, 15, 16, 17, 18, 19, 20, 21, 22, 23, 24, 25, 26, 27, 28, 29, 30, 31, 32, 33] (by decide +kernel) (by decide +kernel)
set_option maxRecDepth 20000 in
theorem gX9_now_X9_theWord : GoodIn wsX9_now (wsV RX9 116 RX9 yX9_theWord wsX9_theWord) := goodIn_app (goodIn_of _ (by decide +kernel)) ggX9_now_X9_theWord
theorem dX9_now_0 : decode cX9_now 0 = .ok (.aload_n 0, 1) := by decide +kernel
theorem dX9_now_1 : decode cX9_now 1 = .ok (.invokevirtual 116, 3) := by decide +kernel
theorem dX9_now_4 : decode cX9_now 4 = .ok (.ireturn, 1) := by decide +kernel
set_option maxRecDepth 20000 in
theorem ggX9_at_X9_isPlace : GoodIn wsX9_at wsX9_isPlace := goodIn_r _ [5, 6, 7, 8, 4, 9, 10, 11, 12, 13, 14, 15, 16, 17, 27, 28, 29, 30, 31, 32, 33, 34, 35, 36, 37, 38, 39, 40, 41, 42, 43, 44, 45, 46, 47, 48, 49, 50, 51, 52, 53] (by decide +kernel) (by decide +kernel)
set_option maxRecDepth 20000 in
theorem gX9_at_X9_isPlace : GoodIn wsX9_at (wsV RX9 122 RX9 yX9_isPlace wsX9_isPlace) := goodIn_app (goodIn_of _ (by decide +kernel)) ggX9_at_X9_isPlace
set_option maxRecDepth 20000 in
theorem ggX9_at_X9_theWord : GoodIn wsX9_at wsX9_theWord := goodIn_r _ [21, 14, 27, 28, 29, 30, 31, 32, 33, 34, 35, 36, 37, 38, 39, 40, 41, 42, 43, 44, 45, 46, 47, 48, 49, 50, 51, 52, 53] (by decide +kernel) (by decide +kernel)
set_option maxRecDepth 20000 in
theorem gX9_at_X9_theWord : GoodIn wsX9_at (wsV RX9 116 RX9 yX9_theWord wsX9_theWord) := goodIn_app (goodIn_of _ (by decide +kernel)) ggX9_at_X9_theWord
set_option maxRecDepth 20000 in
theorem ggX9_at_X9_bad : GoodIn wsX9_at wsX9_bad := goodIn_r _ [25, 26, 27, 28, 29, 30, 31, 32, 33, 34, 35, 36, 37, 38, 39, 40, 41, 42, 43, 44, 45, 46, 47, 48, 49, 50, 51, 52, 53] (by decide +kernel) (by decide +kernel)
set_option maxRecDepth 20000 in
theorem gX9_at_X9_bad : GoodIn wsX9_at (wsV RX9 90 RX9 yX9_bad wsX9_bad) := goodIn_app (goodIn_of _ (by decide +kernel)) ggX9_at_X9_bad
theorem dX9_at_0 : decode cX9_at 0 = .ok (.aload_n 0, 1) := by decide +kernel
theorem dX9_at_1 : decode cX9_at 1 = .ok (.iload_n 1, 1) := by decide +kernel
theorem dX9_at_2 : decode cX9_at 2 = .ok (.invokevirtual 122, 3) := by decide +kernel
theorem dX9_at_5 : decode cX9_at 5 = .ok (.ifCond .eq 14, 3) := by decide +kernel
theorem dX9_at_8 : decode cX9_at 8 = .ok (.aload_n 0, 1) := by decide +kernel
theorem dX9_at_9 : decode cX9_at 9 = .ok (.invokevirtual 116, 3) := by decide +kernel
theorem dX9_at_12 : decode cX9_at 12 = .ok (.iload_n 1, 1) := by decide +kernel
theorem dX9_at_13 : decode cX9_at 13 = .ok (.ishr, 1) := by decide +kernel
theorem dX9_at_14 : decode cX9_at 14 = .ok (.iconst 1, 1) := by decide +kernel
theorem dX9_at_15 : decode cX9_at 15 = .ok (.iand, 1) := by decide +kernel
theorem dX9_at_16 : decode cX9_at 16 = .ok (.goto 9, 3) := by decide +kernel
theorem dX9_at_19 : decode cX9_at 19 = .ok (.aload_n 0, 1) := by decide +kernel
theorem dX9_at_20 : decode cX9_at 20 = .ok (.bipush (-2), 2) := by decide +kernel
theorem dX9_at_22 : decode cX9_at 22 = .ok (.invokevirtual 90, 3) := by decide +kernel
theorem dX9_at_25 : decode cX9_at 25 = .ok (.ireturn, 1) := by decide +kernel
set_option maxRecDepth 20000 in
theorem ggX9_weight_X9_theWord : GoodIn wsX9_weight wsX9_theWord := goodIn_r _ [5, 6, 10, 11, 12, 13, 14, 15, 16, 17, 18, 19, 20, 21, 22, 23, 24, 25, 26, 27, 28, 29, 30, 31, 32, 33, 34, 35, 36] (by decide +kernel) (by decide +kernel)
set_option maxRecDepth 20000 in
theorem gX9_weight_X9_theWord : GoodIn wsX9_weight (wsV RX9 116 RX9 yX9_theWord wsX9_theWord) := goodIn_app (goodIn_of _ (by decide +kernel)) ggX9_weight_X9_theWord
set_option maxRecDepth 20000 in
theorem ggX9_weight_X9_bits : GoodIn wsX9_weight wsX9_bits := goodIn_r _ [9] (by decide +kernel) (by decide +kernel)
set_option maxRecDepth 20000 in
theorem gX9_weight_X9_bits : GoodIn wsX9_weight (va_wsS RX9 63 yX9_bits wsX9_bits) := goodIn_app (goodIn_of _ (by decide +kernel)) ggX9_weight_X9_bits
theorem dX9_weight_0 : decode cX9_weight 0 = .ok (.aload_n 0, 1) := by decide +kernel
theorem dX9_weight_1 : decode cX9_weight 1 = .ok (.invokevirtual 116, 3) := by decide +kernel
theorem dX9_weight_4 : decode cX9_weight 4 = .ok (.invokestatic 63, 3) := by decide +kernel
theorem dX9_weight_7 : decode cX9_weight 7 = .ok (.ireturn, 1) := by decide +kernel
set_option maxRecDepth 20000 in
theorem ggX9_coefficientOf_X9_places : GoodIn wsX9_coefficientOf wsX9_places := goodIn_r _ [5, 6, 7, 8, 4, 9, 10, 11, 12, 13, 14, 15, 16, 17, 18, 19, 20, 21, 22, 23, 24, 25, 26, 27, 28, 29, 30, 31, 32, 33, 34, 35, 36, 37] (by decide +kernel) (by decide +kernel)
set_option maxRecDepth 20000 in
theorem gX9_coefficientOf_X9_places : GoodIn wsX9_coefficientOf (wsV RX9 60 RX9 yX9_places wsX9_places) := goodIn_app (goodIn_of _ (by decide +kernel)) ggX9_coefficientOf_X9_places
theorem dX9_coefficientOf_0 : decode cX9_coefficientOf 0 = .ok (.iconst 0, 1) := by decide +kernel
theorem dX9_coefficientOf_1 : decode cX9_coefficientOf 1 = .ok (.istore_n 3, 1) := by decide +kernel
theorem dX9_coefficientOf_2 : decode cX9_coefficientOf 2 = .ok (.iconst 0, 1) := by decide +kernel
