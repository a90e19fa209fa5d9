theorem dX9_asked_90 : decode cX9_asked 90 = .ok (.iconst 0, 1) := by decide +kernel
theorem dX9_asked_91 : decode cX9_asked 91 = .ok (.ireturn, 1) := by decide +kernel
set_option maxRecDepth 20000 in
theorem ggX9_type_X9_in : GoodIn wsX9_type wsX9_in := goodIn_r _ [7] (by decide +kernel) (by decide +kernel)
set_option maxRecDepth 20000 in
theorem gX9_type_X9_in : GoodIn wsX9_type (va_wsS RX9 83 yX9_in wsX9_in) := goodIn_app (goodIn_of _ (by decide +kernel)) ggX9_type_X9_in
set_option maxRecDepth 20000 in
theorem ggX9_type_X9_bad : GoodIn wsX9_type wsX9_bad := goodIn_r _ [11, 12, 17, 18, 19, 20, 21, 22, 23, 24, 25, 26, 27, 28, 29, 30, 31, 32, 33, 34, 35, 36, 37, 38, 39, 40, 41, 42, 43] (by decide +kernel) (by decide +kernel)
set_option maxRecDepth 20000 in
theorem gX9_type_X9_bad : GoodIn wsX9_type (wsV RX9 90 RX9 yX9_bad wsX9_bad) := goodIn_app (goodIn_of _ (by decide +kernel)) ggX9_type_X9_bad
set_option maxRecDepth 20000 in
theorem ggX9_type_X9_full : GoodIn wsX9_type wsX9_full := goodIn_r _ [16, 12, 17, 18, 19, 20, 21, 22, 23, 24, 25, 26, 27, 28, 29, 30, 31, 32, 33, 34, 35, 36, 37, 38, 39, 40, 41, 42, 43] (by decide +kernel) (by decide +kernel)
set_option maxRecDepth 20000 in
theorem gX9_type_X9_full : GoodIn wsX9_type (wsV RX9 237 RX9 yX9_full wsX9_full) := goodIn_app (goodIn_of _ (by decide +kernel)) ggX9_type_X9_full
theorem dX9_type_0 : decode cX9_type 0 = .ok (.iload_n 1, 1) := by decide +kernel
theorem dX9_type_1 : decode cX9_type 1 = .ok (.i2l, 1) := by decide +kernel
theorem dX9_type_2 : decode cX9_type 2 = .ok (.lconst 0, 1) := by decide +kernel
theorem dX9_type_3 : decode cX9_type 3 = .ok (.ldc2_w 232, 3) := by decide +kernel
theorem dX9_type_6 : decode cX9_type 6 = .ok (.invokestatic 83, 3) := by decide +kernel
theorem dX9_type_9 : decode cX9_type 9 = .ok (.ifCond .ne 10, 3) := by decide +kernel
theorem dX9_type_12 : decode cX9_type 12 = .ok (.aload_n 0, 1) := by decide +kernel
theorem dX9_type_13 : decode cX9_type 13 = .ok (.bipush (-2), 2) := by decide +kernel
theorem dX9_type_15 : decode cX9_type 15 = .ok (.invokevirtual 90, 3) := by decide +kernel
theorem dX9_type_18 : decode cX9_type 18 = .ok (.ireturn, 1) := by decide +kernel
theorem dX9_type_19 : decode cX9_type 19 = .ok (.aload_n 0, 1) := by decide +kernel
theorem dX9_type_20 : decode cX9_type 20 = .ok (.getfield 234, 3) := by decide +kernel
theorem dX9_type_23 : decode cX9_type 23 = .ok (.bipush 120, 2) := by decide +kernel
theorem dX9_type_25 : decode cX9_type 25 = .ok (.if_icmp .ne 8, 3) := by decide +kernel
theorem dX9_type_28 : decode cX9_type 28 = .ok (.aload_n 0, 1) := by decide +kernel
theorem dX9_type_29 : decode cX9_type 29 = .ok (.invokevirtual 237, 3) := by decide +kernel
theorem dX9_type_32 : decode cX9_type 32 = .ok (.ireturn, 1) := by decide +kernel
theorem dX9_type_33 : decode cX9_type 33 = .ok (.aload_n 0, 1) := by decide +kernel
theorem dX9_type_34 : decode cX9_type 34 = .ok (.getfield 40, 3) := by decide +kernel
theorem dX9_type_37 : decode cX9_type 37 = .ok (.aload_n 0, 1) := by decide +kernel
theorem dX9_type_38 : decode cX9_type 38 = .ok (.getfield 234, 3) := by decide +kernel
theorem dX9_type_41 : decode cX9_type 41 = .ok (.iload_n 1, 1) := by decide +kernel
theorem dX9_type_42 : decode cX9_type 42 = .ok (.iastore, 1) := by decide +kernel
theorem dX9_type_43 : decode cX9_type 43 = .ok (.aload_n 0, 1) := by decide +kernel
theorem dX9_type_44 : decode cX9_type 44 = .ok (.dup, 1) := by decide +kernel
theorem dX9_type_45 : decode cX9_type 45 = .ok (.getfield 234, 3) := by decide +kernel
theorem dX9_type_48 : decode cX9_type 48 = .ok (.iconst 1, 1) := by decide +kernel
theorem dX9_type_49 : decode cX9_type 49 = .ok (.iadd, 1) := by decide +kernel
theorem dX9_type_50 : decode cX9_type 50 = .ok (.putfield 234, 3) := by decide +kernel
theorem dX9_type_53 : decode cX9_type 53 = .ok (.aload_n 0, 1) := by decide +kernel
theorem dX9_type_54 : decode cX9_type 54 = .ok (.getfield 234, 3) := by decide +kernel
theorem dX9_type_57 : decode cX9_type 57 = .ok (.ireturn, 1) := by decide +kernel
theorem dX9_clear_0 : decode cX9_clear 0 = .ok (.aload_n 0, 1) := by decide +kernel
theorem dX9_clear_1 : decode cX9_clear 1 = .ok (.getfield 234, 3) := by decide +kernel
theorem dX9_clear_4 : decode cX9_clear 4 = .ok (.istore_n 1, 1) := by decide +kernel
theorem dX9_clear_5 : decode cX9_clear 5 = .ok (.aload_n 0, 1) := by decide +kernel
theorem dX9_clear_6 : decode cX9_clear 6 = .ok (.iconst 0, 1) := by decide +kernel
theorem dX9_clear_7 : decode cX9_clear 7 = .ok (.putfield 234, 3) := by decide +kernel
theorem dX9_clear_10 : decode cX9_clear 10 = .ok (.iload_n 1, 1) := by decide +kernel
theorem dX9_clear_11 : decode cX9_clear 11 = .ok (.ireturn, 1) := by decide +kernel
theorem dX9_here_0 : decode cX9_here 0 = .ok (.aload_n 0, 1) := by decide +kernel
theorem dX9_here_1 : decode cX9_here 1 = .ok (.getfield 240, 3) := by decide +kernel
theorem dX9_here_4 : decode cX9_here 4 = .ok (.aload_n 0, 1) := by decide +kernel
theorem dX9_here_5 : decode cX9_here 5 = .ok (.getfield 234, 3) := by decide +kernel
theorem dX9_here_8 : decode cX9_here 8 = .ok (.if_icmp .ge 30, 3) := by decide +kernel
theorem dX9_here_11 : decode cX9_here 11 = .ok (.aload_n 0, 1) := by decide +kernel
theorem dX9_here_12 : decode cX9_here 12 = .ok (.getfield 40, 3) := by decide +kernel
theorem dX9_here_15 : decode cX9_here 15 = .ok (.aload_n 0, 1) := by decide +kernel
theorem dX9_here_16 : decode cX9_here 16 = .ok (.getfield 240, 3) := by decide +kernel
theorem dX9_here_19 : decode cX9_here 19 = .ok (.iaload, 1) := by decide +kernel
theorem dX9_here_20 : decode cX9_here 20 = .ok (.bipush 32, 2) := by decide +kernel
theorem dX9_here_22 : decode cX9_here 22 = .ok (.if_icmp .ne 16, 3) := by decide +kernel
theorem dX9_here_25 : decode cX9_here 25 = .ok (.aload_n 0, 1) := by decide +kernel
theorem dX9_here_26 : decode cX9_here 26 = .ok (.dup, 1) := by decide +kernel
theorem dX9_here_27 : decode cX9_here 27 = .ok (.getfield 240, 3) := by decide +kernel
theorem dX9_here_30 : decode cX9_here 30 = .ok (.iconst 1, 1) := by decide +kernel
theorem dX9_here_31 : decode cX9_here 31 = .ok (.iadd, 1) := by decide +kernel
theorem dX9_here_32 : decode cX9_here 32 = .ok (.putfield 240, 3) := by decide +kernel
theorem dX9_here_35 : decode cX9_here 35 = .ok (.goto (-35), 3) := by decide +kernel
theorem dX9_here_38 : decode cX9_here 38 = .ok (.aload_n 0, 1) := by decide +kernel
theorem dX9_here_39 : decode cX9_here 39 = .ok (.getfield 240, 3) := by decide +kernel
theorem dX9_here_42 : decode cX9_here 42 = .ok (.aload_n 0, 1) := by decide +kernel
theorem dX9_here_43 : decode cX9_here 43 = .ok (.getfield 234, 3) := by decide +kernel
theorem dX9_here_46 : decode cX9_here 46 = .ok (.if_icmp .ge 15, 3) := by decide +kernel
theorem dX9_here_49 : decode cX9_here 49 = .ok (.aload_n 0, 1) := by decide +kernel
theorem dX9_here_50 : decode cX9_here 50 = .ok (.getfield 40, 3) := by decide +kernel
theorem dX9_here_53 : decode cX9_here 53 = .ok (.aload_n 0, 1) := by decide +kernel
theorem dX9_here_54 : decode cX9_here 54 = .ok (.getfield 240, 3) := by decide +kernel
theorem dX9_here_57 : decode cX9_here 57 = .ok (.iaload, 1) := by decide +kernel
theorem dX9_here_58 : decode cX9_here 58 = .ok (.goto 4, 3) := by decide +kernel
theorem dX9_here_61 : decode cX9_here 61 = .ok (.iconst (-1), 1) := by decide +kernel
theorem dX9_here_62 : decode cX9_here 62 = .ok (.ireturn, 1) := by decide +kernel
set_option maxRecDepth 20000 in
theorem ggX9_isFigure_X9_in : GoodIn wsX9_isFigure wsX9_in := goodIn_r _ [8] (by decide +kernel) (by decide +kernel)
set_option maxRecDepth 20000 in
theorem gX9_isFigure_X9_in : GoodIn wsX9_isFigure (va_wsS RX9 83 yX9_in wsX9_in) := goodIn_app (goodIn_of _ (by decide +kernel)) ggX9_isFigure_X9_in
theorem dX9_isFigure_0 : decode cX9_isFigure 0 = .ok (.iload_n 1, 1) := by decide +kernel
theorem dX9_isFigure_1 : decode cX9_isFigure 1 = .ok (.aload_n 0, 1) := by decide +kernel
theorem dX9_isFigure_2 : decode cX9_isFigure 2 = .ok (.getfield 234, 3) := by decide +kernel
theorem dX9_isFigure_5 : decode cX9_isFigure 5 = .ok (.if_icmp .ge 26, 3) := by decide +kernel
theorem dX9_isFigure_8 : decode cX9_isFigure 8 = .ok (.aload_n 0, 1) := by decide +kernel
theorem dX9_isFigure_9 : decode cX9_isFigure 9 = .ok (.getfield 40, 3) := by decide +kernel
theorem dX9_isFigure_12 : decode cX9_isFigure 12 = .ok (.iload_n 1, 1) := by decide +kernel
theorem dX9_isFigure_13 : decode cX9_isFigure 13 = .ok (.iaload, 1) := by decide +kernel
theorem dX9_isFigure_14 : decode cX9_isFigure 14 = .ok (.i2l, 1) := by decide +kernel
theorem dX9_isFigure_15 : decode cX9_isFigure 15 = .ok (.ldc2_w 243, 3) := by decide +kernel
theorem dX9_isFigure_18 : decode cX9_isFigure 18 = .ok (.ldc2_w 245, 3) := by decide +kernel
theorem dX9_isFigure_21 : decode cX9_isFigure 21 = .ok (.invokestatic 83, 3) := by decide +kernel
theorem dX9_isFigure_24 : decode cX9_isFigure 24 = .ok (.ifCond .eq 7, 3) := by decide +kernel
theorem dX9_isFigure_27 : decode cX9_isFigure 27 = .ok (.iconst 1, 1) := by decide +kernel
theorem dX9_isFigure_28 : decode cX9_isFigure 28 = .ok (.goto 4, 3) := by decide +kernel
theorem dX9_isFigure_31 : decode cX9_isFigure 31 = .ok (.iconst 0, 1) := by decide +kernel
theorem dX9_isFigure_32 : decode cX9_isFigure 32 = .ok (.ireturn, 1) := by decide +kernel
set_option maxRecDepth 20000 in
theorem ggX9_takes_X9_here : GoodIn wsX9_takes wsX9_here := goodIn_r _ [9, 1, 10, 2, 20, 21, 22, 23, 24, 25, 26, 27, 28, 29, 30, 31, 32, 33, 34, 35, 36, 37, 38, 39, 40, 41, 42, 43, 44, 45, 46] (by decide +kernel) (by decide +kernel)
set_option maxRecDepth 20000 in
theorem gX9_takes_X9_here : GoodIn wsX9_takes (wsV RX9 247 RX9 yX9_here wsX9_here) := goodIn_app (goodIn_of _ (by decide +kernel)) ggX9_takes_X9_here
set_option maxRecDepth 20000 in
theorem ggX9_takes_X9_isFigure : GoodIn wsX9_takes wsX9_isFigure := goodIn_r _ [14, 10, 2, 15, 16, 17, 18, 8, 19, 20, 21, 22, 23, 24, 25, 26, 27, 28, 29, 30, 31, 32, 33, 34, 35, 36, 37, 38, 39, 40, 41, 42, 43, 44, 45, 46] (by decide +kernel) (by decide +kernel)
set_option maxRecDepth 20000 in
theorem gX9_takes_X9_isFigure : GoodIn wsX9_takes (wsV RX9 250 RX9 yX9_isFigure wsX9_isFigure) := goodIn_app (goodIn_of _ (by decide +kernel)) ggX9_takes_X9_isFigure
set_option maxRecDepth 20000 in
theorem ggX9_takes_X9_in : GoodIn wsX9_takes wsX9_in := goodIn_r _ [19] (by decide +kernel) (by decide +kernel)
set_option maxRecDepth 20000 in
theorem gX9_takes_X9_in : GoodIn wsX9_takes (va_wsS RX9 83 yX9_in wsX9_in) := goodIn_app (goodIn_of _ (by decide +kernel)) ggX9_takes_X9_in
theorem dX9_takes_0 : decode cX9_takes 0 = .ok (.aload_n 0, 1) := by decide +kernel
theorem dX9_takes_1 : decode cX9_takes 1 = .ok (.invokevirtual 247, 3) := by decide +kernel
theorem dX9_takes_4 : decode cX9_takes 4 = .ok (.bipush 45, 2) := by decide +kernel
theorem dX9_takes_6 : decode cX9_takes 6 = .ok (.if_icmp .ne 11, 3) := by decide +kernel
theorem dX9_takes_9 : decode cX9_takes 9 = .ok (.iload_n 1, 1) := by decide +kernel
theorem dX9_takes_10 : decode cX9_takes 10 = .ok (.ifCond .ge 7, 3) := by decide +kernel
theorem dX9_takes_13 : decode cX9_takes 13 = .ok (.iconst 1, 1) := by decide +kernel
theorem dX9_takes_14 : decode cX9_takes 14 = .ok (.goto 4, 3) := by decide +kernel
theorem dX9_takes_17 : decode cX9_takes 17 = .ok (.iconst 0, 1) := by decide +kernel
theorem dX9_takes_18 : decode cX9_takes 18 = .ok (.istore_n 3, 1) := by decide +kernel
theorem dX9_takes_19 : decode cX9_takes 19 = .ok (.aload_n 0, 1) := by decide +kernel
theorem dX9_takes_20 : decode cX9_takes 20 = .ok (.getfield 240, 3) := by decide +kernel
theorem dX9_takes_23 : decode cX9_takes 23 = .ok (.iload_n 3, 1) := by decide +kernel
theorem dX9_takes_24 : decode cX9_takes 24 = .ok (.ifCond .eq 7, 3) := by decide +kernel
theorem dX9_takes_27 : decode cX9_takes 27 = .ok (.iconst 1, 1) := by decide +kernel
theorem dX9_takes_28 : decode cX9_takes 28 = .ok (.goto 4, 3) := by decide +kernel
theorem dX9_takes_31 : decode cX9_takes 31 = .ok (.iconst 0, 1) := by decide +kernel
theorem dX9_takes_32 : decode cX9_takes 32 = .ok (.iadd, 1) := by decide +kernel
theorem dX9_takes_33 : decode cX9_takes 33 = .ok (.istore 4, 2) := by decide +kernel
theorem dX9_takes_35 : decode cX9_takes 35 = .ok (.iload 4, 2) := by decide +kernel
theorem dX9_takes_37 : decode cX9_takes 37 = .ok (.istore 5, 2) := by decide +kernel
theorem dX9_takes_39 : decode cX9_takes 39 = .ok (.iconst 0, 1) := by decide +kernel
theorem dX9_takes_40 : decode cX9_takes 40 = .ok (.istore 6, 2) := by decide +kernel
theorem dX9_takes_42 : decode cX9_takes 42 = .ok (.aload_n 0, 1) := by decide +kernel
theorem dX9_takes_43 : decode cX9_takes 43 = .ok (.iload 4, 2) := by decide +kernel
theorem dX9_takes_45 : decode cX9_takes 45 = .ok (.invokevirtual 250, 3) := by decide +kernel
theorem dX9_takes_48 : decode cX9_takes 48 = .ok (.ifCond .eq 36, 3) := by decide +kernel
theorem dX9_takes_51 : decode cX9_takes 51 = .ok (.iload 4, 2) := by decide +kernel
theorem dX9_takes_53 : decode cX9_takes 53 = .ok (.iload 5, 2) := by decide +kernel
theorem dX9_takes_55 : decode cX9_takes 55 = .ok (.isub, 1) := by decide +kernel
theorem dX9_takes_56 : decode cX9_takes 56 = .ok (.iconst 3, 1) := by decide +kernel
theorem dX9_takes_57 : decode cX9_takes 57 = .ok (.if_icmp .ge 27, 3) := by decide +kernel
theorem dX9_takes_60 : decode cX9_takes 60 = .ok (.bipush 10, 2) := by decide +kernel
theorem dX9_takes_62 : decode cX9_takes 62 = .ok (.iload 6, 2) := by decide +kernel
theorem dX9_takes_64 : decode cX9_takes 64 = .ok (.imul, 1) := by decide +kernel
theorem dX9_takes_65 : decode cX9_takes 65 = .ok (.aload_n 0, 1) := by decide +kernel
theorem dX9_takes_66 : decode cX9_takes 66 = .ok (.getfield 40, 3) := by decide +kernel
theorem dX9_takes_69 : decode cX9_takes 69 = .ok (.iload 4, 2) := by decide +kernel
theorem dX9_takes_71 : decode cX9_takes 71 = .ok (.iaload, 1) := by decide +kernel
theorem dX9_takes_72 : decode cX9_takes 72 = .ok (.iadd, 1) := by decide +kernel
theorem dX9_takes_73 : decode cX9_takes 73 = .ok (.bipush 48, 2) := by decide +kernel
theorem dX9_takes_75 : decode cX9_takes 75 = .ok (.isub, 1) := by decide +kernel
theorem dX9_takes_76 : decode cX9_takes 76 = .ok (.istore 6, 2) := by decide +kernel
theorem dX9_takes_78 : decode cX9_takes 78 = .ok (.iinc 4 1, 3) := by decide +kernel
theorem dX9_takes_81 : decode cX9_takes 81 = .ok (.goto (-39), 3) := by decide +kernel
theorem dX9_takes_84 : decode cX9_takes 84 = .ok (.aload_n 0, 1) := by decide +kernel
theorem dX9_takes_85 : decode cX9_takes 85 = .ok (.iload_n 3, 1) := by decide +kernel
theorem dX9_takes_86 : decode cX9_takes 86 = .ok (.ifCond .eq 9, 3) := by decide +kernel
theorem dX9_takes_89 : decode cX9_takes 89 = .ok (.iload 6, 2) := by decide +kernel
theorem dX9_takes_91 : decode cX9_takes 91 = .ok (.ineg, 1) := by decide +kernel
theorem dX9_takes_92 : decode cX9_takes 92 = .ok (.goto 5, 3) := by decide +kernel
theorem dX9_takes_95 : decode cX9_takes 95 = .ok (.iload 6, 2) := by decide +kernel
theorem dX9_takes_97 : decode cX9_takes 97 = .ok (.putfield 253, 3) := by decide +kernel
theorem dX9_takes_100 : decode cX9_takes 100 = .ok (.iload 4, 2) := by decide +kernel
theorem dX9_takes_102 : decode cX9_takes 102 = .ok (.iload 5, 2) := by decide +kernel
theorem dX9_takes_104 : decode cX9_takes 104 = .ok (.isub, 1) := by decide +kernel
theorem dX9_takes_105 : decode cX9_takes 105 = .ok (.i2l, 1) := by decide +kernel
theorem dX9_takes_106 : decode cX9_takes 106 = .ok (.lconst 1, 1) := by decide +kernel
theorem dX9_takes_107 : decode cX9_takes 107 = .ok (.ldc2_w 171, 3) := by decide +kernel
theorem dX9_takes_110 : decode cX9_takes 110 = .ok (.invokestatic 83, 3) := by decide +kernel
theorem dX9_takes_113 : decode cX9_takes 113 = .ok (.ifCond .eq 22, 3) := by decide +kernel
theorem dX9_takes_116 : decode cX9_takes 116 = .ok (.aload_n 0, 1) := by decide +kernel
theorem dX9_takes_117 : decode cX9_takes 117 = .ok (.getfield 253, 3) := by decide +kernel
theorem dX9_takes_120 : decode cX9_takes 120 = .ok (.i2l, 1) := by decide +kernel
theorem dX9_takes_121 : decode cX9_takes 121 = .ok (.iload_n 1, 1) := by decide +kernel
theorem dX9_takes_122 : decode cX9_takes 122 = .ok (.i2l, 1) := by decide +kernel
theorem dX9_takes_123 : decode cX9_takes 123 = .ok (.iload_n 2, 1) := by decide +kernel
theorem dX9_takes_124 : decode cX9_takes 124 = .ok (.i2l, 1) := by decide +kernel
theorem dX9_takes_125 : decode cX9_takes 125 = .ok (.invokestatic 83, 3) := by decide +kernel
theorem dX9_takes_128 : decode cX9_takes 128 = .ok (.ifCond .eq 7, 3) := by decide +kernel
theorem dX9_takes_131 : decode cX9_takes 131 = .ok (.iconst 1, 1) := by decide +kernel
theorem dX9_takes_132 : decode cX9_takes 132 = .ok (.goto 4, 3) := by decide +kernel
theorem dX9_takes_135 : decode cX9_takes 135 = .ok (.iconst 0, 1) := by decide +kernel
theorem dX9_takes_136 : decode cX9_takes 136 = .ok (.istore 7, 2) := by decide +kernel
theorem dX9_takes_138 : decode cX9_takes 138 = .ok (.aload_n 0, 1) := by decide +kernel
theorem dX9_takes_139 : decode cX9_takes 139 = .ok (.iload 7, 2) := by decide +kernel
theorem dX9_takes_141 : decode cX9_takes 141 = .ok (.ifCond .eq 8, 3) := by decide +kernel
theorem dX9_takes_144 : decode cX9_takes 144 = .ok (.iload 4, 2) := by decide +kernel
theorem dX9_takes_146 : decode cX9_takes 146 = .ok (.goto 7, 3) := by decide +kernel
theorem dX9_takes_149 : decode cX9_takes 149 = .ok (.aload_n 0, 1) := by decide +kernel
theorem dX9_takes_150 : decode cX9_takes 150 = .ok (.getfield 240, 3) := by decide +kernel
theorem dX9_takes_153 : decode cX9_takes 153 = .ok (.putfield 240, 3) := by decide +kernel
theorem dX9_takes_156 : decode cX9_takes 156 = .ok (.iload 7, 2) := by decide +kernel
theorem dX9_takes_158 : decode cX9_takes 158 = .ok (.ireturn, 1) := by decide +kernel
set_option maxRecDepth 20000 in
theorem ggX9_hexAt_X9_in : GoodIn wsX9_hexAt wsX9_in := goodIn_r _ [10] (by decide +kernel) (by decide +kernel)
set_option maxRecDepth 20000 in
theorem gX9_hexAt_X9_in : GoodIn wsX9_hexAt (va_wsS RX9 83 yX9_in wsX9_in) := goodIn_app (goodIn_of _ (by decide +kernel)) ggX9_hexAt_X9_in
theorem dX9_hexAt_0 : decode cX9_hexAt 0 = .ok (.iload_n 1, 1) := by decide +kernel
theorem dX9_hexAt_1 : decode cX9_hexAt 1 = .ok (.aload_n 0, 1) := by decide +kernel
theorem dX9_hexAt_2 : decode cX9_hexAt 2 = .ok (.getfield 234, 3) := by decide +kernel
theorem dX9_hexAt_5 : decode cX9_hexAt 5 = .ok (.if_icmp .ge 12, 3) := by decide +kernel
theorem dX9_hexAt_8 : decode cX9_hexAt 8 = .ok (.aload_n 0, 1) := by decide +kernel
theorem dX9_hexAt_9 : decode cX9_hexAt 9 = .ok (.getfield 40, 3) := by decide +kernel
theorem dX9_hexAt_12 : decode cX9_hexAt 12 = .ok (.iload_n 1, 1) := by decide +kernel
theorem dX9_hexAt_13 : decode cX9_hexAt 13 = .ok (.iaload, 1) := by decide +kernel
theorem dX9_hexAt_14 : decode cX9_hexAt 14 = .ok (.goto 4, 3) := by decide +kernel
theorem dX9_hexAt_17 : decode cX9_hexAt 17 = .ok (.iconst 0, 1) := by decide +kernel
theorem dX9_hexAt_18 : decode cX9_hexAt 18 = .ok (.istore_n 2, 1) := by decide +kernel
theorem dX9_hexAt_19 : decode cX9_hexAt 19 = .ok (.iload_n 2, 1) := by decide +kernel
theorem dX9_hexAt_20 : decode cX9_hexAt 20 = .ok (.i2l, 1) := by decide +kernel
theorem dX9_hexAt_21 : decode cX9_hexAt 21 = .ok (.ldc2_w 243, 3) := by decide +kernel
theorem dX9_hexAt_24 : decode cX9_hexAt 24 = .ok (.ldc2_w 245, 3) := by decide +kernel
theorem dX9_hexAt_27 : decode cX9_hexAt 27 = .ok (.invokestatic 83, 3) := by decide +kernel
theorem dX9_hexAt_30 : decode cX9_hexAt 30 = .ok (.ifCond .eq 10, 3) := by decide +kernel
theorem dX9_hexAt_33 : decode cX9_hexAt 33 = .ok (.iload_n 2, 1) := by decide +kernel
theorem dX9_hexAt_34 : decode cX9_hexAt 34 = .ok (.bipush 48, 2) := by decide +kernel
theorem dX9_hexAt_36 : decode cX9_hexAt 36 = .ok (.isub, 1) := by decide +kernel
theorem dX9_hexAt_37 : decode cX9_hexAt 37 = .ok (.goto 28, 3) := by decide +kernel
theorem dX9_hexAt_40 : decode cX9_hexAt 40 = .ok (.iload_n 2, 1) := by decide +kernel
theorem dX9_hexAt_41 : decode cX9_hexAt 41 = .ok (.i2l, 1) := by decide +kernel
theorem dX9_hexAt_42 : decode cX9_hexAt 42 = .ok (.ldc2_w 256, 3) := by decide +kernel
theorem dX9_hexAt_45 : decode cX9_hexAt 45 = .ok (.ldc2_w 258, 3) := by decide +kernel
theorem dX9_hexAt_48 : decode cX9_hexAt 48 = .ok (.invokestatic 83, 3) := by decide +kernel
theorem dX9_hexAt_51 : decode cX9_hexAt 51 = .ok (.ifCond .eq 13, 3) := by decide +kernel
theorem dX9_hexAt_54 : decode cX9_hexAt 54 = .ok (.iload_n 2, 1) := by decide +kernel
theorem dX9_hexAt_55 : decode cX9_hexAt 55 = .ok (.bipush 97, 2) := by decide +kernel
theorem dX9_hexAt_57 : decode cX9_hexAt 57 = .ok (.isub, 1) := by decide +kernel
theorem dX9_hexAt_58 : decode cX9_hexAt 58 = .ok (.bipush 10, 2) := by decide +kernel
theorem dX9_hexAt_60 : decode cX9_hexAt 60 = .ok (.iadd, 1) := by decide +kernel
theorem dX9_hexAt_61 : decode cX9_hexAt 61 = .ok (.goto 4, 3) := by decide +kernel
theorem dX9_hexAt_64 : decode cX9_hexAt 64 = .ok (.iconst (-1), 1) := by decide +kernel
theorem dX9_hexAt_65 : decode cX9_hexAt 65 = .ok (.ireturn, 1) := by decide +kernel
set_option maxRecDepth 20000 in
theorem ggX9_takesHex_X9_here : GoodIn wsX9_takesHex wsX9_here := goodIn_r _ [8, 1, 9, 10, 29, 30, 31, 32, 33, 34, 35, 36, 37, 38, 39, 40, 41, 42, 43, 44, 45, 46, 47, 48, 49, 50, 51, 52, 53, 54, 55] (by decide +kernel) (by decide +kernel)
set_option maxRecDepth 20000 in
theorem gX9_takesHex_X9_here : GoodIn wsX9_takesHex (wsV RX9 247 RX9 yX9_here wsX9_here) := goodIn_app (goodIn_of _ (by decide +kernel)) ggX9_takesHex_X9_here
set_option maxRecDepth 20000 in
theorem ggX9_takesHex_X9_hexAt : GoodIn wsX9_takesHex wsX9_hexAt := goodIn_r _ [14, 9, 10, 15, 16, 17, 18, 19, 20, 7, 21, 29, 30, 31, 32, 33, 34, 35, 36, 37, 38, 39, 40, 41, 42, 43, 44, 45, 46, 47, 48, 49, 50, 51, 52, 53, 54, 55] (by decide +kernel) (by decide +kernel)
set_option maxRecDepth 20000 in
theorem gX9_takesHex_X9_hexAt : GoodIn wsX9_takesHex (wsV RX9 260 RX9 yX9_hexAt wsX9_hexAt) := goodIn_app (goodIn_of _ (by decide +kernel)) ggX9_takesHex_X9_hexAt
set_option maxRecDepth 20000 in
theorem ggX9_takesHex_X9_in : GoodIn wsX9_takesHex wsX9_in := goodIn_r _ [21] (by decide +kernel) (by decide +kernel)
set_option maxRecDepth 20000 in
theorem gX9_takesHex_X9_in : GoodIn wsX9_takesHex (va_wsS RX9 83 yX9_in wsX9_in) := goodIn_app (goodIn_of _ (by decide +kernel)) ggX9_takesHex_X9_in
set_option maxRecDepth 20000 in
theorem ggX9_takesHex_X9_isWithin : GoodIn wsX9_takesHex wsX9_isWithin := goodIn_r _ [25, 26, 27, 7, 28] (by decide +kernel) (by decide +kernel)
set_option maxRecDepth 20000 in
theorem gX9_takesHex_X9_isWithin : GoodIn wsX9_takesHex (wsV RX9 109 RX9 yX9_isWithin wsX9_isWithin) := goodIn_app (goodIn_of _ (by decide +kernel)) ggX9_takesHex_X9_isWithin
theorem dX9_takesHex_0 : decode cX9_takesHex 0 = .ok (.aload_n 0, 1) := by decide +kernel
theorem dX9_takesHex_1 : decode cX9_takesHex 1 = .ok (.invokevirtual 247, 3) := by decide +kernel
theorem dX9_takesHex_4 : decode cX9_takesHex 4 = .ok (.istore_n 2, 1) := by decide +kernel
theorem dX9_takesHex_5 : decode cX9_takesHex 5 = .ok (.aload_n 0, 1) := by decide +kernel
theorem dX9_takesHex_6 : decode cX9_takesHex 6 = .ok (.getfield 240, 3) := by decide +kernel
theorem dX9_takesHex_9 : decode cX9_takesHex 9 = .ok (.istore_n 3, 1) := by decide +kernel
theorem dX9_takesHex_10 : decode cX9_takesHex 10 = .ok (.aload_n 0, 1) := by decide +kernel
theorem dX9_takesHex_11 : decode cX9_takesHex 11 = .ok (.iconst 0, 1) := by decide +kernel
theorem dX9_takesHex_12 : decode cX9_takesHex 12 = .ok (.putfield 253, 3) := by decide +kernel
theorem dX9_takesHex_15 : decode cX9_takesHex 15 = .ok (.aload_n 0, 1) := by decide +kernel
theorem dX9_takesHex_16 : decode cX9_takesHex 16 = .ok (.iload_n 3, 1) := by decide +kernel
theorem dX9_takesHex_17 : decode cX9_takesHex 17 = .ok (.invokevirtual 260, 3) := by decide +kernel
theorem dX9_takesHex_20 : decode cX9_takesHex 20 = .ok (.iconst (-1), 1) := by decide +kernel
theorem dX9_takesHex_21 : decode cX9_takesHex 21 = .ok (.if_icmp .eq 37, 3) := by decide +kernel
theorem dX9_takesHex_24 : decode cX9_takesHex 24 = .ok (.iload_n 3, 1) := by decide +kernel
theorem dX9_takesHex_25 : decode cX9_takesHex 25 = .ok (.aload_n 0, 1) := by decide +kernel
theorem dX9_takesHex_26 : decode cX9_takesHex 26 = .ok (.getfield 240, 3) := by decide +kernel
theorem dX9_takesHex_29 : decode cX9_takesHex 29 = .ok (.isub, 1) := by decide +kernel
theorem dX9_takesHex_30 : decode cX9_takesHex 30 = .ok (.bipush 9, 2) := by decide +kernel
theorem dX9_takesHex_32 : decode cX9_takesHex 32 = .ok (.if_icmp .ge 26, 3) := by decide +kernel
theorem dX9_takesHex_35 : decode cX9_takesHex 35 = .ok (.aload_n 0, 1) := by decide +kernel
theorem dX9_takesHex_36 : decode cX9_takesHex 36 = .ok (.bipush 16, 2) := by decide +kernel
theorem dX9_takesHex_38 : decode cX9_takesHex 38 = .ok (.aload_n 0, 1) := by decide +kernel
theorem dX9_takesHex_39 : decode cX9_takesHex 39 = .ok (.getfield 253, 3) := by decide +kernel
theorem dX9_takesHex_42 : decode cX9_takesHex 42 = .ok (.imul, 1) := by decide +kernel
theorem dX9_takesHex_43 : decode cX9_takesHex 43 = .ok (.aload_n 0, 1) := by decide +kernel
theorem dX9_takesHex_44 : decode cX9_takesHex 44 = .ok (.iload_n 3, 1) := by decide +kernel
theorem dX9_takesHex_45 : decode cX9_takesHex 45 = .ok (.invokevirtual 260, 3) := by decide +kernel
theorem dX9_takesHex_48 : decode cX9_takesHex 48 = .ok (.iadd, 1) := by decide +kernel
theorem dX9_takesHex_49 : decode cX9_takesHex 49 = .ok (.putfield 253, 3) := by decide +kernel
theorem dX9_takesHex_52 : decode cX9_takesHex 52 = .ok (.iinc 3 1, 3) := by decide +kernel
theorem dX9_takesHex_55 : decode cX9_takesHex 55 = .ok (.goto (-40), 3) := by decide +kernel
theorem dX9_takesHex_58 : decode cX9_takesHex 58 = .ok (.iload_n 3, 1) := by decide +kernel
theorem dX9_takesHex_59 : decode cX9_takesHex 59 = .ok (.aload_n 0, 1) := by decide +kernel
theorem dX9_takesHex_60 : decode cX9_takesHex 60 = .ok (.getfield 240, 3) := by decide +kernel
theorem dX9_takesHex_63 : decode cX9_takesHex 63 = .ok (.isub, 1) := by decide +kernel
theorem dX9_takesHex_64 : decode cX9_takesHex 64 = .ok (.i2l, 1) := by decide +kernel
theorem dX9_takesHex_65 : decode cX9_takesHex 65 = .ok (.lconst 1, 1) := by decide +kernel
theorem dX9_takesHex_66 : decode cX9_takesHex 66 = .ok (.ldc2_w 263, 3) := by decide +kernel
theorem dX9_takesHex_69 : decode cX9_takesHex 69 = .ok (.invokestatic 83, 3) := by decide +kernel
theorem dX9_takesHex_72 : decode cX9_takesHex 72 = .ok (.ifCond .eq 19, 3) := by decide +kernel
theorem dX9_takesHex_75 : decode cX9_takesHex 75 = .ok (.aload_n 0, 1) := by decide +kernel
theorem dX9_takesHex_76 : decode cX9_takesHex 76 = .ok (.aload_n 0, 1) := by decide +kernel
theorem dX9_takesHex_77 : decode cX9_takesHex 77 = .ok (.getfield 253, 3) := by decide +kernel
theorem dX9_takesHex_80 : decode cX9_takesHex 80 = .ok (.iload_n 1, 1) := by decide +kernel
theorem dX9_takesHex_81 : decode cX9_takesHex 81 = .ok (.invokevirtual 109, 3) := by decide +kernel
theorem dX9_takesHex_84 : decode cX9_takesHex 84 = .ok (.ifCond .eq 7, 3) := by decide +kernel
theorem dX9_takesHex_87 : decode cX9_takesHex 87 = .ok (.iconst 1, 1) := by decide +kernel
theorem dX9_takesHex_88 : decode cX9_takesHex 88 = .ok (.goto 4, 3) := by decide +kernel
theorem dX9_takesHex_91 : decode cX9_takesHex 91 = .ok (.iconst 0, 1) := by decide +kernel
theorem dX9_takesHex_92 : decode cX9_takesHex 92 = .ok (.istore 4, 2) := by decide +kernel
theorem dX9_takesHex_94 : decode cX9_takesHex 94 = .ok (.aload_n 0, 1) := by decide +kernel
theorem dX9_takesHex_95 : decode cX9_takesHex 95 = .ok (.iload 4, 2) := by decide +kernel
theorem dX9_takesHex_97 : decode cX9_takesHex 97 = .ok (.ifCond .eq 7, 3) := by decide +kernel
theorem dX9_takesHex_100 : decode cX9_takesHex 100 = .ok (.iload_n 3, 1) := by decide +kernel
theorem dX9_takesHex_101 : decode cX9_takesHex 101 = .ok (.goto 7, 3) := by decide +kernel
theorem dX9_takesHex_104 : decode cX9_takesHex 104 = .ok (.aload_n 0, 1) := by decide +kernel
theorem dX9_takesHex_105 : decode cX9_takesHex 105 = .ok (.getfield 240, 3) := by decide +kernel
theorem dX9_takesHex_108 : decode cX9_takesHex 108 = .ok (.putfield 240, 3) := by decide +kernel
theorem dX9_takesHex_111 : decode cX9_takesHex 111 = .ok (.iload 4, 2) := by decide +kernel
theorem dX9_takesHex_113 : decode cX9_takesHex 113 = .ok (.ireturn, 1) := by decide +kernel
set_option maxRecDepth 20000 in
theorem ggX9_readsOne_X9_here : GoodIn wsX9_readsOne wsX9_here := goodIn_r _ [8, 1, 9, 10, 148, 149, 150, 151, 152, 153, 154, 155, 156, 157, 158, 159, 160, 161, 162, 163, 164, 165, 166, 167, 168, 169, 170, 171, 172, 173, 174] (by decide +kernel) (by decide +kernel)
set_option maxRecDepth 20000 in
theorem gX9_readsOne_X9_here : GoodIn wsX9_readsOne (wsV RX9 247 RX9 yX9_here wsX9_here) := goodIn_app (goodIn_of _ (by decide +kernel)) ggX9_readsOne_X9_here
set_option maxRecDepth 20000 in
theorem ggX9_readsOne_X9_takes : GoodIn wsX9_readsOne wsX9_takes := goodIn_r _ [14, 1, 10, 2, 15, 4, 5, 6, 7, 8, 9, 16, 17, 18, 19, 20, 21, 22, 23, 24, 148, 149, 150, 151, 152, 153, 154, 155, 156, 157, 158, 159, 160, 161, 162, 163, 164, 165, 166, 167, 168, 169, 170, 171, 172, 173, 174] (by decide +kernel) (by decide +kernel)
set_option maxRecDepth 20000 in
theorem gX9_readsOne_X9_takes : GoodIn wsX9_readsOne (wsV RX9 265 RX9 yX9_takes wsX9_takes) := goodIn_app (goodIn_of _ (by decide +kernel)) ggX9_readsOne_X9_takes
set_option maxRecDepth 20000 in
theorem ggX9_readsOne_X9_many : GoodIn wsX9_readsOne wsX9_many := goodIn_r _ [28, 29, 30, 31, 32, 7, 33, 34, 35, 36, 37, 38, 39, 40, 41, 42, 43, 44, 45, 46, 47, 48, 49, 50, 148, 149, 150, 151, 152, 153, 154, 155, 156, 157, 158, 159, 160, 161, 162, 163, 164, 165, 166, 167, 168, 169, 170, 171, 172, 173, 174] (by decide +kernel) (by decide +kernel)
set_option maxRecDepth 20000 in
theorem gX9_readsOne_X9_many : GoodIn wsX9_readsOne (wsV RX9 100 RX9 yX9_many wsX9_many) := goodIn_app (goodIn_of _ (by decide +kernel)) ggX9_readsOne_X9_many
set_option maxRecDepth 20000 in
theorem ggX9_readsOne_X9_places : GoodIn wsX9_readsOne wsX9_places := goodIn_r _ [43, 44, 45, 46, 7, 47, 34, 148, 149, 150, 151, 152, 153, 154, 155, 156, 157, 158, 159, 160, 161, 162, 163, 164, 165, 166, 167, 168, 169, 170, 171, 172, 173, 174] (by decide +kernel) (by decide +kernel)
set_option maxRecDepth 20000 in
theorem gX9_readsOne_X9_places : GoodIn wsX9_readsOne (wsV RX9 60 RX9 yX9_places wsX9_places) := goodIn_app (goodIn_of _ (by decide +kernel)) ggX9_readsOne_X9_places
set_option maxRecDepth 20000 in
theorem ggX9_readsOne_X9_takesHex : GoodIn wsX9_readsOne wsX9_takesHex := goodIn_r _ [54, 1, 2, 55, 4, 5, 6, 7, 8, 9, 10, 56, 57, 58, 59, 20, 21, 60, 61, 22, 23, 24, 62, 63, 64, 65, 66, 67, 68, 148, 149, 150, 151, 152, 153, 154, 155, 156, 157, 158, 159, 160, 161, 162, 163, 164, 165, 166, 167, 168, 169, 170, 171, 172, 173, 174] (by decide +kernel) (by decide +kernel)
set_option maxRecDepth 20000 in
theorem gX9_readsOne_X9_takesHex : GoodIn wsX9_readsOne (wsV RX9 271 RX9 yX9_takesHex wsX9_takesHex) := goodIn_app (goodIn_of _ (by decide +kernel)) ggX9_readsOne_X9_takesHex
set_option maxRecDepth 20000 in
theorem ggX9_readsOne_X9_doesOne : GoodIn wsX9_readsOne wsX9_doesOne := goodIn_r _ [72, 3, 2, 34, 73, 74, 75, 7, 76, 77, 78, 79, 80, 25, 26, 27, 28, 29, 30, 31, 32, 33, 35, 36, 37, 38, 39, 40, 41, 42, 43, 44, 45, 46, 47, 48, 49, 50, 81, 82, 83, 84, 85, 86, 87, 88, 89, 90, 91, 92, 93, 94, 95, 96, 97, 98, 99, 100, 101, 102, 103, 104, 105, 106, 107, 108, 109, 110, 111, 112, 113, 114, 115, 116, 117, 118, 119, 120, 121, 122, 123, 124, 125, 126, 127, 128, 129, 130, 131, 132, 133, 134, 135, 136, 137, 138, 139, 140, 141, 66, 67, 68, 142, 143, 144, 145, 146, 147, 148, 149, 150, 151, 152, 153, 154, 155, 156, 157, 158, 159, 160, 161, 162, 163, 164, 165, 166, 167, 168, 169, 170, 171, 172, 173, 174] (by decide +kernel) (by decide +kernel)
set_option maxRecDepth 20000 in
theorem gX9_readsOne_X9_doesOne : GoodIn wsX9_readsOne (wsV RX9 274 RX9 yX9_doesOne wsX9_doesOne) := goodIn_app (goodIn_of _ (by decide +kernel)) ggX9_readsOne_X9_doesOne
theorem dX9_readsOne_0 : decode cX9_readsOne 0 = .ok (.aload_n 0, 1) := by decide +kernel
theorem dX9_readsOne_1 : decode cX9_readsOne 1 = .ok (.invokevirtual 247, 3) := by decide +kernel
theorem dX9_readsOne_4 : decode cX9_readsOne 4 = .ok (.istore_n 1, 1) := by decide +kernel
theorem dX9_readsOne_5 : decode cX9_readsOne 5 = .ok (.iload_n 1, 1) := by decide +kernel
theorem dX9_readsOne_6 : decode cX9_readsOne 6 = .ok (.bipush 99, 2) := by decide +kernel
theorem dX9_readsOne_8 : decode cX9_readsOne 8 = .ok (.if_icmp .eq 41, 3) := by decide +kernel
theorem dX9_readsOne_11 : decode cX9_readsOne 11 = .ok (.iload_n 1, 1) := by decide +kernel
theorem dX9_readsOne_12 : decode cX9_readsOne 12 = .ok (.bipush 109, 2) := by decide +kernel
theorem dX9_readsOne_14 : decode cX9_readsOne 14 = .ok (.if_icmp .eq 35, 3) := by decide +kernel
theorem dX9_readsOne_17 : decode cX9_readsOne 17 = .ok (.iload_n 1, 1) := by decide +kernel
theorem dX9_readsOne_18 : decode cX9_readsOne 18 = .ok (.bipush 119, 2) := by decide +kernel
theorem dX9_readsOne_20 : decode cX9_readsOne 20 = .ok (.if_icmp .eq 29, 3) := by decide +kernel
theorem dX9_readsOne_23 : decode cX9_readsOne 23 = .ok (.iload_n 1, 1) := by decide +kernel
theorem dX9_readsOne_24 : decode cX9_readsOne 24 = .ok (.bipush 102, 2) := by decide +kernel
theorem dX9_readsOne_26 : decode cX9_readsOne 26 = .ok (.if_icmp .eq 23, 3) := by decide +kernel
theorem dX9_readsOne_29 : decode cX9_readsOne 29 = .ok (.iload_n 1, 1) := by decide +kernel
theorem dX9_readsOne_30 : decode cX9_readsOne 30 = .ok (.bipush 118, 2) := by decide +kernel
theorem dX9_readsOne_32 : decode cX9_readsOne 32 = .ok (.if_icmp .eq 17, 3) := by decide +kernel
theorem dX9_readsOne_35 : decode cX9_readsOne 35 = .ok (.iload_n 1, 1) := by decide +kernel
theorem dX9_readsOne_36 : decode cX9_readsOne 36 = .ok (.bipush 115, 2) := by decide +kernel
theorem dX9_readsOne_38 : decode cX9_readsOne 38 = .ok (.if_icmp .eq 11, 3) := by decide +kernel
theorem dX9_readsOne_41 : decode cX9_readsOne 41 = .ok (.iload_n 1, 1) := by decide +kernel
theorem dX9_readsOne_42 : decode cX9_readsOne 42 = .ok (.bipush 104, 2) := by decide +kernel
theorem dX9_readsOne_44 : decode cX9_readsOne 44 = .ok (.if_icmp .eq 5, 3) := by decide +kernel
theorem dX9_readsOne_47 : decode cX9_readsOne 47 = .ok (.iconst 0, 1) := by decide +kernel
theorem dX9_readsOne_48 : decode cX9_readsOne 48 = .ok (.ireturn, 1) := by decide +kernel
theorem dX9_readsOne_49 : decode cX9_readsOne 49 = .ok (.aload_n 0, 1) := by decide +kernel
theorem dX9_readsOne_50 : decode cX9_readsOne 50 = .ok (.dup, 1) := by decide +kernel
theorem dX9_readsOne_51 : decode cX9_readsOne 51 = .ok (.getfield 240, 3) := by decide +kernel
theorem dX9_readsOne_54 : decode cX9_readsOne 54 = .ok (.iconst 1, 1) := by decide +kernel
theorem dX9_readsOne_55 : decode cX9_readsOne 55 = .ok (.iadd, 1) := by decide +kernel
theorem dX9_readsOne_56 : decode cX9_readsOne 56 = .ok (.putfield 240, 3) := by decide +kernel
theorem dX9_readsOne_59 : decode cX9_readsOne 59 = .ok (.iconst 1, 1) := by decide +kernel
theorem dX9_readsOne_60 : decode cX9_readsOne 60 = .ok (.istore_n 2, 1) := by decide +kernel
theorem dX9_readsOne_61 : decode cX9_readsOne 61 = .ok (.iload_n 1, 1) := by decide +kernel
theorem dX9_readsOne_62 : decode cX9_readsOne 62 = .ok (.bipush 99, 2) := by decide +kernel
theorem dX9_readsOne_64 : decode cX9_readsOne 64 = .ok (.if_icmp .ne 43, 3) := by decide +kernel
theorem dX9_readsOne_67 : decode cX9_readsOne 67 = .ok (.aload_n 0, 1) := by decide +kernel
theorem dX9_readsOne_68 : decode cX9_readsOne 68 = .ok (.iconst 0, 1) := by decide +kernel
theorem dX9_readsOne_69 : decode cX9_readsOne 69 = .ok (.iconst 5, 1) := by decide +kernel
theorem dX9_readsOne_70 : decode cX9_readsOne 70 = .ok (.invokevirtual 265, 3) := by decide +kernel
theorem dX9_readsOne_73 : decode cX9_readsOne 73 = .ok (.istore_n 2, 1) := by decide +kernel
theorem dX9_readsOne_74 : decode cX9_readsOne 74 = .ok (.aload_n 0, 1) := by decide +kernel
theorem dX9_readsOne_75 : decode cX9_readsOne 75 = .ok (.aload_n 0, 1) := by decide +kernel
theorem dX9_readsOne_76 : decode cX9_readsOne 76 = .ok (.getfield 253, 3) := by decide +kernel
theorem dX9_readsOne_79 : decode cX9_readsOne 79 = .ok (.putfield 268, 3) := by decide +kernel
theorem dX9_readsOne_82 : decode cX9_readsOne 82 = .ok (.iload_n 2, 1) := by decide +kernel
theorem dX9_readsOne_83 : decode cX9_readsOne 83 = .ok (.ifCond .eq 19, 3) := by decide +kernel
theorem dX9_readsOne_86 : decode cX9_readsOne 86 = .ok (.aload_n 0, 1) := by decide +kernel
theorem dX9_readsOne_87 : decode cX9_readsOne 87 = .ok (.aload_n 0, 1) := by decide +kernel
theorem dX9_readsOne_88 : decode cX9_readsOne 88 = .ok (.getfield 268, 3) := by decide +kernel
theorem dX9_readsOne_91 : decode cX9_readsOne 91 = .ok (.iconst 5, 1) := by decide +kernel
theorem dX9_readsOne_92 : decode cX9_readsOne 92 = .ok (.invokevirtual 265, 3) := by decide +kernel
theorem dX9_readsOne_95 : decode cX9_readsOne 95 = .ok (.ifCond .eq 7, 3) := by decide +kernel
theorem dX9_readsOne_98 : decode cX9_readsOne 98 = .ok (.iconst 1, 1) := by decide +kernel
theorem dX9_readsOne_99 : decode cX9_readsOne 99 = .ok (.goto 4, 3) := by decide +kernel
theorem dX9_readsOne_102 : decode cX9_readsOne 102 = .ok (.iconst 0, 1) := by decide +kernel
theorem dX9_readsOne_103 : decode cX9_readsOne 103 = .ok (.istore_n 2, 1) := by decide +kernel
theorem dX9_readsOne_104 : decode cX9_readsOne 104 = .ok (.goto 99, 3) := by decide +kernel
theorem dX9_readsOne_107 : decode cX9_readsOne 107 = .ok (.iload_n 1, 1) := by decide +kernel
theorem dX9_readsOne_108 : decode cX9_readsOne 108 = .ok (.bipush 109, 2) := by decide +kernel
theorem dX9_readsOne_110 : decode cX9_readsOne 110 = .ok (.if_icmp .eq 9, 3) := by decide +kernel
theorem dX9_readsOne_113 : decode cX9_readsOne 113 = .ok (.iload_n 1, 1) := by decide +kernel
theorem dX9_readsOne_114 : decode cX9_readsOne 114 = .ok (.bipush 119, 2) := by decide +kernel
theorem dX9_readsOne_116 : decode cX9_readsOne 116 = .ok (.if_icmp .ne 28, 3) := by decide +kernel
theorem dX9_readsOne_119 : decode cX9_readsOne 119 = .ok (.aload_n 0, 1) := by decide +kernel
theorem dX9_readsOne_120 : decode cX9_readsOne 120 = .ok (.iload_n 1, 1) := by decide +kernel
theorem dX9_readsOne_121 : decode cX9_readsOne 121 = .ok (.bipush 109, 2) := by decide +kernel
theorem dX9_readsOne_123 : decode cX9_readsOne 123 = .ok (.if_icmp .ne 10, 3) := by decide +kernel
theorem dX9_readsOne_126 : decode cX9_readsOne 126 = .ok (.aload_n 0, 1) := by decide +kernel
theorem dX9_readsOne_127 : decode cX9_readsOne 127 = .ok (.invokevirtual 100, 3) := by decide +kernel
theorem dX9_readsOne_130 : decode cX9_readsOne 130 = .ok (.goto 7, 3) := by decide +kernel
theorem dX9_readsOne_133 : decode cX9_readsOne 133 = .ok (.aload_n 0, 1) := by decide +kernel
theorem dX9_readsOne_134 : decode cX9_readsOne 134 = .ok (.invokevirtual 60, 3) := by decide +kernel
theorem dX9_readsOne_137 : decode cX9_readsOne 137 = .ok (.invokevirtual 271, 3) := by decide +kernel
theorem dX9_readsOne_140 : decode cX9_readsOne 140 = .ok (.istore_n 2, 1) := by decide +kernel
theorem dX9_readsOne_141 : decode cX9_readsOne 141 = .ok (.goto 62, 3) := by decide +kernel
theorem dX9_readsOne_144 : decode cX9_readsOne 144 = .ok (.iload_n 1, 1) := by decide +kernel
theorem dX9_readsOne_145 : decode cX9_readsOne 145 = .ok (.bipush 102, 2) := by decide +kernel
theorem dX9_readsOne_147 : decode cX9_readsOne 147 = .ok (.if_icmp .eq 9, 3) := by decide +kernel
theorem dX9_readsOne_150 : decode cX9_readsOne 150 = .ok (.iload_n 1, 1) := by decide +kernel
theorem dX9_readsOne_151 : decode cX9_readsOne 151 = .ok (.bipush 115, 2) := by decide +kernel
theorem dX9_readsOne_153 : decode cX9_readsOne 153 = .ok (.if_icmp .ne 50, 3) := by decide +kernel
theorem dX9_readsOne_156 : decode cX9_readsOne 156 = .ok (.aload_n 0, 1) := by decide +kernel
theorem dX9_readsOne_157 : decode cX9_readsOne 157 = .ok (.iconst 0, 1) := by decide +kernel
theorem dX9_readsOne_158 : decode cX9_readsOne 158 = .ok (.aload_n 0, 1) := by decide +kernel
theorem dX9_readsOne_159 : decode cX9_readsOne 159 = .ok (.invokevirtual 60, 3) := by decide +kernel
theorem dX9_readsOne_162 : decode cX9_readsOne 162 = .ok (.iconst 1, 1) := by decide +kernel
theorem dX9_readsOne_163 : decode cX9_readsOne 163 = .ok (.isub, 1) := by decide +kernel
theorem dX9_readsOne_164 : decode cX9_readsOne 164 = .ok (.invokevirtual 265, 3) := by decide +kernel
theorem dX9_readsOne_167 : decode cX9_readsOne 167 = .ok (.istore_n 2, 1) := by decide +kernel
theorem dX9_readsOne_168 : decode cX9_readsOne 168 = .ok (.aload_n 0, 1) := by decide +kernel
theorem dX9_readsOne_169 : decode cX9_readsOne 169 = .ok (.aload_n 0, 1) := by decide +kernel
theorem dX9_readsOne_170 : decode cX9_readsOne 170 = .ok (.getfield 253, 3) := by decide +kernel
theorem dX9_readsOne_173 : decode cX9_readsOne 173 = .ok (.putfield 268, 3) := by decide +kernel
theorem dX9_readsOne_176 : decode cX9_readsOne 176 = .ok (.iload_n 2, 1) := by decide +kernel
theorem dX9_readsOne_177 : decode cX9_readsOne 177 = .ok (.ifCond .eq 24, 3) := by decide +kernel
theorem dX9_readsOne_180 : decode cX9_readsOne 180 = .ok (.iload_n 1, 1) := by decide +kernel
theorem dX9_readsOne_181 : decode cX9_readsOne 181 = .ok (.bipush 102, 2) := by decide +kernel
theorem dX9_readsOne_183 : decode cX9_readsOne 183 = .ok (.if_icmp .eq 14, 3) := by decide +kernel
theorem dX9_readsOne_186 : decode cX9_readsOne 186 = .ok (.aload_n 0, 1) := by decide +kernel
theorem dX9_readsOne_187 : decode cX9_readsOne 187 = .ok (.bipush (-99), 2) := by decide +kernel
theorem dX9_readsOne_189 : decode cX9_readsOne 189 = .ok (.bipush 99, 2) := by decide +kernel
theorem dX9_readsOne_191 : decode cX9_readsOne 191 = .ok (.invokevirtual 265, 3) := by decide +kernel
theorem dX9_readsOne_194 : decode cX9_readsOne 194 = .ok (.ifCond .eq 7, 3) := by decide +kernel
theorem dX9_readsOne_197 : decode cX9_readsOne 197 = .ok (.iconst 1, 1) := by decide +kernel
theorem dX9_readsOne_198 : decode cX9_readsOne 198 = .ok (.goto 4, 3) := by decide +kernel
theorem dX9_readsOne_201 : decode cX9_readsOne 201 = .ok (.iconst 0, 1) := by decide +kernel
theorem dX9_readsOne_202 : decode cX9_readsOne 202 = .ok (.istore_n 2, 1) := by decide +kernel
theorem dX9_readsOne_203 : decode cX9_readsOne 203 = .ok (.iload_n 2, 1) := by decide +kernel
theorem dX9_readsOne_204 : decode cX9_readsOne 204 = .ok (.ifCond .eq 12, 3) := by decide +kernel
theorem dX9_readsOne_207 : decode cX9_readsOne 207 = .ok (.aload_n 0, 1) := by decide +kernel
theorem dX9_readsOne_208 : decode cX9_readsOne 208 = .ok (.invokevirtual 247, 3) := by decide +kernel
theorem dX9_readsOne_211 : decode cX9_readsOne 211 = .ok (.bipush 59, 2) := by decide +kernel
theorem dX9_readsOne_213 : decode cX9_readsOne 213 = .ok (.if_icmp .eq 5, 3) := by decide +kernel
theorem dX9_readsOne_216 : decode cX9_readsOne 216 = .ok (.iconst 0, 1) := by decide +kernel
theorem dX9_readsOne_217 : decode cX9_readsOne 217 = .ok (.ireturn, 1) := by decide +kernel
theorem dX9_readsOne_218 : decode cX9_readsOne 218 = .ok (.aload_n 0, 1) := by decide +kernel
theorem dX9_readsOne_219 : decode cX9_readsOne 219 = .ok (.dup, 1) := by decide +kernel
theorem dX9_readsOne_220 : decode cX9_readsOne 220 = .ok (.getfield 240, 3) := by decide +kernel
theorem dX9_readsOne_223 : decode cX9_readsOne 223 = .ok (.iconst 1, 1) := by decide +kernel
theorem dX9_readsOne_224 : decode cX9_readsOne 224 = .ok (.iadd, 1) := by decide +kernel
theorem dX9_readsOne_225 : decode cX9_readsOne 225 = .ok (.putfield 240, 3) := by decide +kernel
theorem dX9_readsOne_228 : decode cX9_readsOne 228 = .ok (.aload_n 0, 1) := by decide +kernel
theorem dX9_readsOne_229 : decode cX9_readsOne 229 = .ok (.iload_n 1, 1) := by decide +kernel
theorem dX9_readsOne_230 : decode cX9_readsOne 230 = .ok (.invokevirtual 274, 3) := by decide +kernel
theorem dX9_readsOne_233 : decode cX9_readsOne 233 = .ok (.iconst 1, 1) := by decide +kernel
theorem dX9_readsOne_234 : decode cX9_readsOne 234 = .ok (.ireturn, 1) := by decide +kernel
set_option maxRecDepth 20000 in
theorem ggX9_doesOne_X9_becomesCode : GoodIn wsX9_doesOne wsX9_becomesCode := goodIn_r _ [8, 3, 108, 109, 110, 111, 112, 113, 114, 115, 116, 117, 118, 119, 120, 121, 122, 123, 124, 125, 126, 127, 128, 129, 130, 131, 132, 133, 134] (by decide +kernel) (by decide +kernel)
set_option maxRecDepth 20000 in
theorem gX9_doesOne_X9_becomesCode : GoodIn wsX9_doesOne (wsV RX9 96 RX9 yX9_becomesCode wsX9_becomesCode) := goodIn_app (goodIn_of _ (by decide +kernel)) ggX9_doesOne_X9_becomesCode
set_option maxRecDepth 20000 in
theorem ggX9_doesOne_X9_encodes : GoodIn wsX9_doesOne wsX9_encodes := goodIn_r _ [12, 3, 13, 14, 15, 7, 16, 17, 18, 19, 20, 21, 22, 23, 24, 25, 26, 27, 28, 29, 30, 31, 32, 33, 34, 35, 36, 37, 38, 39, 40, 41, 42, 43, 44, 45, 46, 47, 48, 49, 50, 51, 52, 108, 109, 110, 111, 112, 113, 114, 115, 116, 117, 118, 119, 120, 121, 122, 123, 124, 125, 126, 127, 128, 129, 130, 131, 132, 133, 134] (by decide +kernel) (by decide +kernel)
set_option maxRecDepth 20000 in
theorem gX9_doesOne_X9_encodes : GoodIn wsX9_doesOne (wsV RX9 119 RX9 yX9_encodes wsX9_encodes) := goodIn_app (goodIn_of _ (by decide +kernel)) ggX9_doesOne_X9_encodes
set_option maxRecDepth 20000 in
theorem ggX9_doesOne_X9_flips : GoodIn wsX9_doesOne wsX9_flips := goodIn_r _ [56, 3, 49, 50, 51, 7, 52, 42, 43, 44, 108, 109, 110, 111, 112, 113, 114, 115, 116, 117, 118, 119, 120, 121, 122, 123, 124, 125, 126, 127, 128, 129, 130, 131, 132, 133, 134] (by decide +kernel) (by decide +kernel)
set_option maxRecDepth 20000 in
theorem gX9_doesOne_X9_flips : GoodIn wsX9_doesOne (wsV RX9 126 RX9 yX9_flips wsX9_flips) := goodIn_app (goodIn_of _ (by decide +kernel)) ggX9_doesOne_X9_flips
set_option maxRecDepth 20000 in
theorem ggX9_doesOne_X9_mendsNow : GoodIn wsX9_doesOne wsX9_mendsNow := goodIn_r _ [60, 61, 3, 62, 63, 64, 7, 65, 66, 67, 68, 69, 26, 49, 50, 51, 52, 13, 14, 15, 16, 17, 18, 19, 20, 21, 22, 23, 24, 25, 27, 28, 29, 30, 31, 32, 33, 34, 35, 36, 37, 70, 71, 72, 73, 45, 46, 47, 48, 38, 39, 40, 41, 42, 43, 44, 108, 109, 110, 111, 112, 113, 114, 115, 116, 117, 118, 119, 120, 121, 122, 123, 124, 125, 126, 127, 128, 129, 130, 131, 132, 133, 134] (by decide +kernel) (by decide +kernel)
set_option maxRecDepth 20000 in
theorem gX9_doesOne_X9_mendsNow : GoodIn wsX9_doesOne (wsV RX9 165 RX9 yX9_mendsNow wsX9_mendsNow) := goodIn_app (goodIn_of _ (by decide +kernel)) ggX9_doesOne_X9_mendsNow
set_option maxRecDepth 20000 in
theorem ggX9_doesOne_X9_softens : GoodIn wsX9_doesOne wsX9_softens := goodIn_r _ [77, 3, 78, 79, 80, 7, 81, 108, 109, 110, 111, 112, 113, 114, 115, 116, 117, 118, 119, 120, 121, 122, 123, 124, 125, 126, 127, 128, 129, 130, 131, 132, 133, 134] (by decide +kernel) (by decide +kernel)
set_option maxRecDepth 20000 in
theorem gX9_doesOne_X9_softens : GoodIn wsX9_doesOne (wsV RX9 205 RX9 yX9_softens wsX9_softens) := goodIn_app (goodIn_of _ (by decide +kernel)) ggX9_doesOne_X9_softens
set_option maxRecDepth 20000 in
theorem ggX9_doesOne_X9_halvesOf : GoodIn wsX9_doesOne wsX9_halvesOf := goodIn_r _ [85, 86, 87, 88, 89, 90, 18, 19, 20, 7, 21, 3, 31, 32, 33, 34, 91, 92, 93, 94, 27, 28, 29, 30, 78, 79, 80, 81, 95, 96, 97, 98, 99, 100, 101, 102, 103, 104, 105, 106, 107, 42, 43, 44, 108, 109, 110, 111, 112, 113, 114, 115, 116, 117, 118, 119, 120, 121, 122, 123, 124, 125, 126, 127, 128, 129, 130, 131, 132, 133, 134] (by decide +kernel) (by decide +kernel)
set_option maxRecDepth 20000 in
theorem gX9_doesOne_X9_halvesOf : GoodIn wsX9_doesOne (wsV RX9 218 RX9 yX9_halvesOf wsX9_halvesOf) := goodIn_app (goodIn_of _ (by decide +kernel)) ggX9_doesOne_X9_halvesOf
theorem dX9_doesOne_0 : decode cX9_doesOne 0 = .ok (.iload_n 1, 1) := by decide +kernel
theorem dX9_doesOne_1 : decode cX9_doesOne 1 = .ok (.lookupswitch 137 #[(99, 59), (102, 99), (109, 74), (115, 120), (118, 111), (119, 86)], 59) := by decide +kernel
theorem dX9_doesOne_60 : decode cX9_doesOne 60 = .ok (.aload_n 0, 1) := by decide +kernel
theorem dX9_doesOne_61 : decode cX9_doesOne 61 = .ok (.aload_n 0, 1) := by decide +kernel
theorem dX9_doesOne_62 : decode cX9_doesOne 62 = .ok (.getfield 268, 3) := by decide +kernel
theorem dX9_doesOne_65 : decode cX9_doesOne 65 = .ok (.aload_n 0, 1) := by decide +kernel
theorem dX9_doesOne_66 : decode cX9_doesOne 66 = .ok (.getfield 253, 3) := by decide +kernel
theorem dX9_doesOne_69 : decode cX9_doesOne 69 = .ok (.invokevirtual 96, 3) := by decide +kernel
theorem dX9_doesOne_72 : decode cX9_doesOne 72 = .ok (.goto 76, 3) := by decide +kernel
theorem dX9_doesOne_75 : decode cX9_doesOne 75 = .ok (.aload_n 0, 1) := by decide +kernel
theorem dX9_doesOne_76 : decode cX9_doesOne 76 = .ok (.aload_n 0, 1) := by decide +kernel
theorem dX9_doesOne_77 : decode cX9_doesOne 77 = .ok (.getfield 253, 3) := by decide +kernel
theorem dX9_doesOne_80 : decode cX9_doesOne 80 = .ok (.invokevirtual 119, 3) := by decide +kernel
theorem dX9_doesOne_83 : decode cX9_doesOne 83 = .ok (.istore_n 2, 1) := by decide +kernel
theorem dX9_doesOne_84 : decode cX9_doesOne 84 = .ok (.goto 64, 3) := by decide +kernel
theorem dX9_doesOne_87 : decode cX9_doesOne 87 = .ok (.aload_n 0, 1) := by decide +kernel
theorem dX9_doesOne_88 : decode cX9_doesOne 88 = .ok (.getfield 7, 3) := by decide +kernel
theorem dX9_doesOne_91 : decode cX9_doesOne 91 = .ok (.iconst 2, 1) := by decide +kernel
theorem dX9_doesOne_92 : decode cX9_doesOne 92 = .ok (.aload_n 0, 1) := by decide +kernel
theorem dX9_doesOne_93 : decode cX9_doesOne 93 = .ok (.getfield 253, 3) := by decide +kernel
theorem dX9_doesOne_96 : decode cX9_doesOne 96 = .ok (.iastore, 1) := by decide +kernel
theorem dX9_doesOne_97 : decode cX9_doesOne 97 = .ok (.goto 51, 3) := by decide +kernel
theorem dX9_doesOne_100 : decode cX9_doesOne 100 = .ok (.aload_n 0, 1) := by decide +kernel
theorem dX9_doesOne_101 : decode cX9_doesOne 101 = .ok (.aload_n 0, 1) := by decide +kernel
theorem dX9_doesOne_102 : decode cX9_doesOne 102 = .ok (.getfield 268, 3) := by decide +kernel
theorem dX9_doesOne_105 : decode cX9_doesOne 105 = .ok (.invokevirtual 126, 3) := by decide +kernel
theorem dX9_doesOne_108 : decode cX9_doesOne 108 = .ok (.istore_n 3, 1) := by decide +kernel
theorem dX9_doesOne_109 : decode cX9_doesOne 109 = .ok (.goto 39, 3) := by decide +kernel
theorem dX9_doesOne_112 : decode cX9_doesOne 112 = .ok (.aload_n 0, 1) := by decide +kernel
theorem dX9_doesOne_113 : decode cX9_doesOne 113 = .ok (.invokevirtual 165, 3) := by decide +kernel
theorem dX9_doesOne_116 : decode cX9_doesOne 116 = .ok (.istore 4, 2) := by decide +kernel
theorem dX9_doesOne_118 : decode cX9_doesOne 118 = .ok (.goto 30, 3) := by decide +kernel
theorem dX9_doesOne_121 : decode cX9_doesOne 121 = .ok (.aload_n 0, 1) := by decide +kernel
theorem dX9_doesOne_122 : decode cX9_doesOne 122 = .ok (.aload_n 0, 1) := by decide +kernel
theorem dX9_doesOne_123 : decode cX9_doesOne 123 = .ok (.getfield 268, 3) := by decide +kernel
theorem dX9_doesOne_126 : decode cX9_doesOne 126 = .ok (.aload_n 0, 1) := by decide +kernel
theorem dX9_doesOne_127 : decode cX9_doesOne 127 = .ok (.getfield 253, 3) := by decide +kernel
theorem dX9_doesOne_130 : decode cX9_doesOne 130 = .ok (.invokevirtual 205, 3) := by decide +kernel
theorem dX9_doesOne_133 : decode cX9_doesOne 133 = .ok (.istore 5, 2) := by decide +kernel
theorem dX9_doesOne_135 : decode cX9_doesOne 135 = .ok (.goto 13, 3) := by decide +kernel
theorem dX9_doesOne_138 : decode cX9_doesOne 138 = .ok (.aload_n 0, 1) := by decide +kernel
theorem dX9_doesOne_139 : decode cX9_doesOne 139 = .ok (.getfield 7, 3) := by decide +kernel
theorem dX9_doesOne_142 : decode cX9_doesOne 142 = .ok (.iconst 2, 1) := by decide +kernel
theorem dX9_doesOne_143 : decode cX9_doesOne 143 = .ok (.aload_n 0, 1) := by decide +kernel
theorem dX9_doesOne_144 : decode cX9_doesOne 144 = .ok (.invokevirtual 218, 3) := by decide +kernel
theorem dX9_doesOne_147 : decode cX9_doesOne 147 = .ok (.iastore, 1) := by decide +kernel
theorem dX9_doesOne_148 : decode cX9_doesOne 148 = .ok (.return_, 1) := by decide +kernel
set_option maxRecDepth 20000 in
theorem ggX9_does_X9_readsOne : GoodIn wsX9_does wsX9_readsOne := goodIn_r _ [8, 3, 9, 10, 11, 12, 13, 7, 14, 15, 16, 17, 18, 19, 20, 21, 22, 23, 24, 25, 26, 27, 28, 29, 30, 31, 32, 33, 34, 35, 36, 37, 38, 39, 2, 40, 41, 42, 43, 44, 45, 46, 47, 48, 49, 50, 51, 52, 53, 54, 55, 56, 57, 58, 59, 60, 61, 62, 63, 64, 65, 66, 67, 68, 69, 70, 71, 72, 73, 74, 75, 76, 77, 78, 79, 80, 81, 82, 83, 84, 85, 86, 87, 88, 89, 90, 91, 92, 93, 94, 95, 96, 97, 98, 99, 100, 101, 102, 103, 104, 105, 106, 107, 108, 109, 110, 111, 112, 113, 114, 115, 116, 117, 118, 119, 120, 121, 122, 123, 124, 125, 126, 127, 128, 129, 130, 131, 132, 133, 134, 135, 136, 137, 138, 139, 140, 141, 142, 143, 144, 145, 146, 147, 148, 149, 150, 151, 152, 164, 165, 166, 167, 168, 169, 170, 171, 172, 173, 174, 175, 176, 177, 178, 179, 180, 181, 182, 183, 184, 185, 186, 187, 188, 189, 190] (by decide +kernel) (by decide +kernel)
set_option maxRecDepth 20000 in
theorem gX9_does_X9_readsOne : GoodIn wsX9_does (wsV RX9 277 RX9 yX9_readsOne wsX9_readsOne) := goodIn_app (goodIn_of _ (by decide +kernel)) ggX9_does_X9_readsOne
set_option maxRecDepth 20000 in
theorem ggX9_does_X9_here : GoodIn wsX9_does wsX9_here := goodIn_r _ [14, 3, 15, 16, 164, 165, 166, 167, 168, 169, 170, 171, 172, 173, 174, 175, 176, 177, 178, 179, 180, 181, 182, 183, 184, 185, 186, 187, 188, 189, 190] (by decide +kernel) (by decide +kernel)
set_option maxRecDepth 20000 in
theorem gX9_does_X9_here : GoodIn wsX9_does (wsV RX9 247 RX9 yX9_here wsX9_here) := goodIn_app (goodIn_of _ (by decide +kernel)) ggX9_does_X9_here
set_option maxRecDepth 20000 in
theorem ggX9_does_X9_keepsAside : GoodIn wsX9_does wsX9_keepsAside := goodIn_r _ [156, 157, 2, 1, 158, 159, 160, 7, 161, 162, 163, 164, 165, 166, 167, 168, 169, 170, 171, 172, 173, 174, 175, 176, 177, 178, 179, 180, 181, 182, 183, 184, 185, 186, 187, 188, 189, 190] (by decide +kernel) (by decide +kernel)
set_option maxRecDepth 20000 in
theorem gX9_does_X9_keepsAside : GoodIn wsX9_does (wsV RX9 280 RX9 yX9_keepsAside wsX9_keepsAside) := goodIn_app (goodIn_of _ (by decide +kernel)) ggX9_does_X9_keepsAside
theorem dX9_does_0 : decode cX9_does 0 = .ok (.iconst 0, 1) := by decide +kernel
theorem dX9_does_1 : decode cX9_does 1 = .ok (.istore_n 1, 1) := by decide +kernel
theorem dX9_does_2 : decode cX9_does 2 = .ok (.iconst 1, 1) := by decide +kernel
theorem dX9_does_3 : decode cX9_does 3 = .ok (.istore_n 2, 1) := by decide +kernel
theorem dX9_does_4 : decode cX9_does 4 = .ok (.iconst 0, 1) := by decide +kernel
theorem dX9_does_5 : decode cX9_does 5 = .ok (.istore_n 3, 1) := by decide +kernel
theorem dX9_does_6 : decode cX9_does 6 = .ok (.iload_n 3, 1) := by decide +kernel
theorem dX9_does_7 : decode cX9_does 7 = .ok (.bipush 35, 2) := by decide +kernel
theorem dX9_does_9 : decode cX9_does 9 = .ok (.if_icmp .ge 21, 3) := by decide +kernel
theorem dX9_does_12 : decode cX9_does 12 = .ok (.aload_n 0, 1) := by decide +kernel
theorem dX9_does_13 : decode cX9_does 13 = .ok (.getfield 43, 3) := by decide +kernel
theorem dX9_does_16 : decode cX9_does 16 = .ok (.iload_n 3, 1) := by decide +kernel
theorem dX9_does_17 : decode cX9_does 17 = .ok (.aload_n 0, 1) := by decide +kernel
theorem dX9_does_18 : decode cX9_does 18 = .ok (.getfield 7, 3) := by decide +kernel
theorem dX9_does_21 : decode cX9_does 21 = .ok (.iload_n 3, 1) := by decide +kernel
theorem dX9_does_22 : decode cX9_does 22 = .ok (.iaload, 1) := by decide +kernel
theorem dX9_does_23 : decode cX9_does 23 = .ok (.iastore, 1) := by decide +kernel
theorem dX9_does_24 : decode cX9_does 24 = .ok (.iinc 3 1, 3) := by decide +kernel
theorem dX9_does_27 : decode cX9_does 27 = .ok (.goto (-21), 3) := by decide +kernel
theorem dX9_does_30 : decode cX9_does 30 = .ok (.aload_n 0, 1) := by decide +kernel
theorem dX9_does_31 : decode cX9_does 31 = .ok (.iconst 0, 1) := by decide +kernel
theorem dX9_does_32 : decode cX9_does 32 = .ok (.putfield 240, 3) := by decide +kernel
theorem dX9_does_35 : decode cX9_does 35 = .ok (.iload_n 2, 1) := by decide +kernel
theorem dX9_does_36 : decode cX9_does 36 = .ok (.ifCond .eq 64, 3) := by decide +kernel
theorem dX9_does_39 : decode cX9_does 39 = .ok (.aload_n 0, 1) := by decide +kernel
theorem dX9_does_40 : decode cX9_does 40 = .ok (.invokevirtual 277, 3) := by decide +kernel
theorem dX9_does_43 : decode cX9_does 43 = .ok (.ifCond .ne 37, 3) := by decide +kernel
theorem dX9_does_46 : decode cX9_does 46 = .ok (.iconst 0, 1) := by decide +kernel
theorem dX9_does_47 : decode cX9_does 47 = .ok (.istore_n 3, 1) := by decide +kernel
theorem dX9_does_48 : decode cX9_does 48 = .ok (.iload_n 3, 1) := by decide +kernel
theorem dX9_does_49 : decode cX9_does 49 = .ok (.bipush 35, 2) := by decide +kernel
theorem dX9_does_51 : decode cX9_does 51 = .ok (.if_icmp .ge 21, 3) := by decide +kernel
theorem dX9_does_54 : decode cX9_does 54 = .ok (.aload_n 0, 1) := by decide +kernel
theorem dX9_does_55 : decode cX9_does 55 = .ok (.getfield 7, 3) := by decide +kernel
theorem dX9_does_58 : decode cX9_does 58 = .ok (.iload_n 3, 1) := by decide +kernel
theorem dX9_does_59 : decode cX9_does 59 = .ok (.aload_n 0, 1) := by decide +kernel
theorem dX9_does_60 : decode cX9_does 60 = .ok (.getfield 43, 3) := by decide +kernel
theorem dX9_does_63 : decode cX9_does 63 = .ok (.iload_n 3, 1) := by decide +kernel
theorem dX9_does_64 : decode cX9_does 64 = .ok (.iaload, 1) := by decide +kernel
theorem dX9_does_65 : decode cX9_does 65 = .ok (.iastore, 1) := by decide +kernel
theorem dX9_does_66 : decode cX9_does 66 = .ok (.iinc 3 1, 3) := by decide +kernel
theorem dX9_does_69 : decode cX9_does 69 = .ok (.goto (-21), 3) := by decide +kernel
theorem dX9_does_72 : decode cX9_does 72 = .ok (.bipush (-10), 2) := by decide +kernel
theorem dX9_does_74 : decode cX9_does 74 = .ok (.aload_n 0, 1) := by decide +kernel
theorem dX9_does_75 : decode cX9_does 75 = .ok (.getfield 240, 3) := by decide +kernel
theorem dX9_does_78 : decode cX9_does 78 = .ok (.isub, 1) := by decide +kernel
theorem dX9_does_79 : decode cX9_does 79 = .ok (.ireturn, 1) := by decide +kernel
theorem dX9_does_80 : decode cX9_does 80 = .ok (.iinc 1 1, 3) := by decide +kernel
theorem dX9_does_83 : decode cX9_does 83 = .ok (.aload_n 0, 1) := by decide +kernel
theorem dX9_does_84 : decode cX9_does 84 = .ok (.invokevirtual 247, 3) := by decide +kernel
theorem dX9_does_87 : decode cX9_does 87 = .ok (.iconst (-1), 1) := by decide +kernel
theorem dX9_does_88 : decode cX9_does 88 = .ok (.if_icmp .eq 7, 3) := by decide +kernel
theorem dX9_does_91 : decode cX9_does 91 = .ok (.iconst 1, 1) := by decide +kernel
theorem dX9_does_92 : decode cX9_does 92 = .ok (.goto 4, 3) := by decide +kernel
theorem dX9_does_95 : decode cX9_does 95 = .ok (.iconst 0, 1) := by decide +kernel
theorem dX9_does_96 : decode cX9_does 96 = .ok (.istore_n 2, 1) := by decide +kernel
theorem dX9_does_97 : decode cX9_does 97 = .ok (.goto (-62), 3) := by decide +kernel
theorem dX9_does_100 : decode cX9_does 100 = .ok (.aload_n 0, 1) := by decide +kernel
theorem dX9_does_101 : decode cX9_does 101 = .ok (.invokevirtual 280, 3) := by decide +kernel
theorem dX9_does_104 : decode cX9_does 104 = .ok (.iload_n 1, 1) := by decide +kernel
theorem dX9_does_105 : decode cX9_does 105 = .ok (.ireturn, 1) := by decide +kernel
set_option maxRecDepth 20000 in
theorem ggX9_keepsAside_X9_keep : GoodIn wsX9_keepsAside wsX9_keep := goodIn_r _ [8, 9, 10, 2, 11, 12, 13, 14, 15, 16, 17, 18, 19, 20, 21, 22, 23, 24, 25, 26, 27, 28, 29, 30, 31, 32, 33, 34, 35, 36, 37] (by decide +kernel) (by decide +kernel)
set_option maxRecDepth 20000 in
theorem gX9_keepsAside_X9_keep : GoodIn wsX9_keepsAside (wsV RX9 93 RX9 yX9_keep wsX9_keep) := goodIn_app (goodIn_of _ (by decide +kernel)) ggX9_keepsAside_X9_keep
theorem dX9_keepsAside_0 : decode cX9_keepsAside 0 = .ok (.iconst 0, 1) := by decide +kernel
theorem dX9_keepsAside_1 : decode cX9_keepsAside 1 = .ok (.istore_n 1, 1) := by decide +kernel
theorem dX9_keepsAside_2 : decode cX9_keepsAside 2 = .ok (.iload_n 1, 1) := by decide +kernel
theorem dX9_keepsAside_3 : decode cX9_keepsAside 3 = .ok (.bipush 35, 2) := by decide +kernel
theorem dX9_keepsAside_5 : decode cX9_keepsAside 5 = .ok (.if_icmp .ge 33, 3) := by decide +kernel
theorem dX9_keepsAside_8 : decode cX9_keepsAside 8 = .ok (.aload_n 0, 1) := by decide +kernel
theorem dX9_keepsAside_9 : decode cX9_keepsAside 9 = .ok (.getfield 46, 3) := by decide +kernel
theorem dX9_keepsAside_12 : decode cX9_keepsAside 12 = .ok (.iload_n 1, 1) := by decide +kernel
theorem dX9_keepsAside_13 : decode cX9_keepsAside 13 = .ok (.aload_n 0, 1) := by decide +kernel
theorem dX9_keepsAside_14 : decode cX9_keepsAside 14 = .ok (.getfield 7, 3) := by decide +kernel
theorem dX9_keepsAside_17 : decode cX9_keepsAside 17 = .ok (.iload_n 1, 1) := by decide +kernel
theorem dX9_keepsAside_18 : decode cX9_keepsAside 18 = .ok (.iaload, 1) := by decide +kernel
theorem dX9_keepsAside_19 : decode cX9_keepsAside 19 = .ok (.iastore, 1) := by decide +kernel
theorem dX9_keepsAside_20 : decode cX9_keepsAside 20 = .ok (.aload_n 0, 1) := by decide +kernel
theorem dX9_keepsAside_21 : decode cX9_keepsAside 21 = .ok (.getfield 7, 3) := by decide +kernel
theorem dX9_keepsAside_24 : decode cX9_keepsAside 24 = .ok (.iload_n 1, 1) := by decide +kernel
theorem dX9_keepsAside_25 : decode cX9_keepsAside 25 = .ok (.aload_n 0, 1) := by decide +kernel
theorem dX9_keepsAside_26 : decode cX9_keepsAside 26 = .ok (.getfield 43, 3) := by decide +kernel
theorem dX9_keepsAside_29 : decode cX9_keepsAside 29 = .ok (.iload_n 1, 1) := by decide +kernel
theorem dX9_keepsAside_30 : decode cX9_keepsAside 30 = .ok (.iaload, 1) := by decide +kernel
theorem dX9_keepsAside_31 : decode cX9_keepsAside 31 = .ok (.iastore, 1) := by decide +kernel
theorem dX9_keepsAside_32 : decode cX9_keepsAside 32 = .ok (.iinc 1 1, 3) := by decide +kernel
theorem dX9_keepsAside_35 : decode cX9_keepsAside 35 = .ok (.goto (-33), 3) := by decide +kernel
theorem dX9_keepsAside_38 : decode cX9_keepsAside 38 = .ok (.aload_n 0, 1) := by decide +kernel
theorem dX9_keepsAside_39 : decode cX9_keepsAside 39 = .ok (.invokevirtual 93, 3) := by decide +kernel
theorem dX9_keepsAside_42 : decode cX9_keepsAside 42 = .ok (.iconst 0, 1) := by decide +kernel
theorem dX9_keepsAside_43 : decode cX9_keepsAside 43 = .ok (.istore_n 1, 1) := by decide +kernel
theorem dX9_keepsAside_44 : decode cX9_keepsAside 44 = .ok (.iload_n 1, 1) := by decide +kernel
theorem dX9_keepsAside_45 : decode cX9_keepsAside 45 = .ok (.bipush 35, 2) := by decide +kernel
theorem dX9_keepsAside_47 : decode cX9_keepsAside 47 = .ok (.if_icmp .ge 21, 3) := by decide +kernel
theorem dX9_keepsAside_50 : decode cX9_keepsAside 50 = .ok (.aload_n 0, 1) := by decide +kernel
theorem dX9_keepsAside_51 : decode cX9_keepsAside 51 = .ok (.getfield 7, 3) := by decide +kernel
theorem dX9_keepsAside_54 : decode cX9_keepsAside 54 = .ok (.iload_n 1, 1) := by decide +kernel
theorem dX9_keepsAside_55 : decode cX9_keepsAside 55 = .ok (.aload_n 0, 1) := by decide +kernel
theorem dX9_keepsAside_56 : decode cX9_keepsAside 56 = .ok (.getfield 46, 3) := by decide +kernel
theorem dX9_keepsAside_59 : decode cX9_keepsAside 59 = .ok (.iload_n 1, 1) := by decide +kernel
theorem dX9_keepsAside_60 : decode cX9_keepsAside 60 = .ok (.iaload, 1) := by decide +kernel
theorem dX9_keepsAside_61 : decode cX9_keepsAside 61 = .ok (.iastore, 1) := by decide +kernel
theorem dX9_keepsAside_62 : decode cX9_keepsAside 62 = .ok (.iinc 1 1, 3) := by decide +kernel
theorem dX9_keepsAside_65 : decode cX9_keepsAside 65 = .ok (.goto (-21), 3) := by decide +kernel
theorem dX9_keepsAside_68 : decode cX9_keepsAside 68 = .ok (.return_, 1) := by decide +kernel
set_option maxRecDepth 20000 in
theorem ggX9_back_X9_no : GoodIn wsX9_back wsX9_no := goodIn_r _ [8, 9, 10, 11, 12, 13, 14, 15, 16, 17, 18, 19, 20, 21, 22, 23, 24, 25, 26, 27, 28, 29, 30, 31, 32, 33, 34, 35, 36] (by decide +kernel) (by decide +kernel)
set_option maxRecDepth 20000 in
theorem gX9_back_X9_no : GoodIn wsX9_back (wsV RX9 192 RX9 yX9_no wsX9_no) := goodIn_app (goodIn_of _ (by decide +kernel)) ggX9_back_X9_no
theorem dX9_back_0 : decode cX9_back 0 = .ok (.aload_n 0, 1) := by decide +kernel
theorem dX9_back_1 : decode cX9_back 1 = .ok (.getfield 53, 3) := by decide +kernel
theorem dX9_back_4 : decode cX9_back 4 = .ok (.ifCond .ne 10, 3) := by decide +kernel
theorem dX9_back_7 : decode cX9_back 7 = .ok (.aload_n 0, 1) := by decide +kernel
theorem dX9_back_8 : decode cX9_back 8 = .ok (.bipush (-3), 2) := by decide +kernel
theorem dX9_back_10 : decode cX9_back 10 = .ok (.invokevirtual 192, 3) := by decide +kernel
theorem dX9_back_13 : decode cX9_back 13 = .ok (.ireturn, 1) := by decide +kernel
theorem dX9_back_14 : decode cX9_back 14 = .ok (.aload_n 0, 1) := by decide +kernel
theorem dX9_back_15 : decode cX9_back 15 = .ok (.dup, 1) := by decide +kernel
theorem dX9_back_16 : decode cX9_back 16 = .ok (.getfield 53, 3) := by decide +kernel
theorem dX9_back_19 : decode cX9_back 19 = .ok (.iconst 1, 1) := by decide +kernel
theorem dX9_back_20 : decode cX9_back 20 = .ok (.isub, 1) := by decide +kernel
theorem dX9_back_21 : decode cX9_back 21 = .ok (.putfield 53, 3) := by decide +kernel
theorem dX9_back_24 : decode cX9_back 24 = .ok (.iconst 0, 1) := by decide +kernel
theorem dX9_back_25 : decode cX9_back 25 = .ok (.istore_n 1, 1) := by decide +kernel
theorem dX9_back_26 : decode cX9_back 26 = .ok (.iload_n 1, 1) := by decide +kernel
theorem dX9_back_27 : decode cX9_back 27 = .ok (.bipush 35, 2) := by decide +kernel
theorem dX9_back_29 : decode cX9_back 29 = .ok (.if_icmp .ge 29, 3) := by decide +kernel
theorem dX9_back_32 : decode cX9_back 32 = .ok (.aload_n 0, 1) := by decide +kernel
theorem dX9_back_33 : decode cX9_back 33 = .ok (.getfield 7, 3) := by decide +kernel
theorem dX9_back_36 : decode cX9_back 36 = .ok (.iload_n 1, 1) := by decide +kernel
theorem dX9_back_37 : decode cX9_back 37 = .ok (.aload_n 0, 1) := by decide +kernel
theorem dX9_back_38 : decode cX9_back 38 = .ok (.getfield 13, 3) := by decide +kernel
theorem dX9_back_41 : decode cX9_back 41 = .ok (.bipush 35, 2) := by decide +kernel
theorem dX9_back_43 : decode cX9_back 43 = .ok (.aload_n 0, 1) := by decide +kernel
theorem dX9_back_44 : decode cX9_back 44 = .ok (.getfield 53, 3) := by decide +kernel
theorem dX9_back_47 : decode cX9_back 47 = .ok (.imul, 1) := by decide +kernel
theorem dX9_back_48 : decode cX9_back 48 = .ok (.iload_n 1, 1) := by decide +kernel
theorem dX9_back_49 : decode cX9_back 49 = .ok (.iadd, 1) := by decide +kernel
theorem dX9_back_50 : decode cX9_back 50 = .ok (.iaload, 1) := by decide +kernel
theorem dX9_back_51 : decode cX9_back 51 = .ok (.iastore, 1) := by decide +kernel
theorem dX9_back_52 : decode cX9_back 52 = .ok (.iinc 1 1, 3) := by decide +kernel
theorem dX9_back_55 : decode cX9_back 55 = .ok (.goto (-29), 3) := by decide +kernel
theorem dX9_back_58 : decode cX9_back 58 = .ok (.aload_n 0, 1) := by decide +kernel
theorem dX9_back_59 : decode cX9_back 59 = .ok (.getfield 53, 3) := by decide +kernel
theorem dX9_back_62 : decode cX9_back 62 = .ok (.ireturn, 1) := by decide +kernel
theorem dX9_toldOf_0 : decode cX9_toldOf 0 = .ok (.iload_n 1, 1) := by decide +kernel
theorem dX9_toldOf_1 : decode cX9_toldOf 1 = .ok (.iconst 3, 1) := by decide +kernel
theorem dX9_toldOf_2 : decode cX9_toldOf 2 = .ok (.if_icmp .ge 12, 3) := by decide +kernel
theorem dX9_toldOf_5 : decode cX9_toldOf 5 = .ok (.aload_n 0, 1) := by decide +kernel
theorem dX9_toldOf_6 : decode cX9_toldOf 6 = .ok (.getfield 16, 3) := by decide +kernel
theorem dX9_toldOf_9 : decode cX9_toldOf 9 = .ok (.iload_n 1, 1) := by decide +kernel
theorem dX9_toldOf_10 : decode cX9_toldOf 10 = .ok (.iaload, 1) := by decide +kernel
theorem dX9_toldOf_11 : decode cX9_toldOf 11 = .ok (.goto 19, 3) := by decide +kernel
theorem dX9_toldOf_14 : decode cX9_toldOf 14 = .ok (.iload_n 1, 1) := by decide +kernel
theorem dX9_toldOf_15 : decode cX9_toldOf 15 = .ok (.iconst 3, 1) := by decide +kernel
theorem dX9_toldOf_16 : decode cX9_toldOf 16 = .ok (.if_icmp .ne 10, 3) := by decide +kernel
theorem dX9_toldOf_19 : decode cX9_toldOf 19 = .ok (.aload_n 0, 1) := by decide +kernel
theorem dX9_toldOf_20 : decode cX9_toldOf 20 = .ok (.getfield 234, 3) := by decide +kernel
theorem dX9_toldOf_23 : decode cX9_toldOf 23 = .ok (.goto 7, 3) := by decide +kernel
theorem dX9_toldOf_26 : decode cX9_toldOf 26 = .ok (.aload_n 0, 1) := by decide +kernel
theorem dX9_toldOf_27 : decode cX9_toldOf 27 = .ok (.getfield 53, 3) := by decide +kernel
theorem dX9_toldOf_30 : decode cX9_toldOf 30 = .ok (.ireturn, 1) := by decide +kernel
set_option maxRecDepth 20000 in
theorem ggX9_told_X9_in : GoodIn wsX9_told wsX9_in := goodIn_r _ [5] (by decide +kernel) (by decide +kernel)
set_option maxRecDepth 20000 in
theorem gX9_told_X9_in : GoodIn wsX9_told (va_wsS RX9 83 yX9_in wsX9_in) := goodIn_app (goodIn_of _ (by decide +kernel)) ggX9_told_X9_in
set_option maxRecDepth 20000 in
theorem ggX9_told_X9_toldOf : GoodIn wsX9_told wsX9_toldOf := goodIn_r _ [9, 10, 11, 12, 17, 18, 19, 20, 21, 22, 23, 24, 25, 26, 27, 28, 29, 30, 31, 32, 33, 34, 35, 36, 37, 38, 39, 40, 41, 42, 43] (by decide +kernel) (by decide +kernel)
set_option maxRecDepth 20000 in
theorem gX9_told_X9_toldOf : GoodIn wsX9_told (wsV RX9 285 RX9 yX9_toldOf wsX9_toldOf) := goodIn_app (goodIn_of _ (by decide +kernel)) ggX9_told_X9_toldOf
set_option maxRecDepth 20000 in
theorem ggX9_told_X9_bad : GoodIn wsX9_told wsX9_bad := goodIn_r _ [16, 10, 17, 18, 19, 20, 21, 22, 23, 24, 25, 26, 27, 28, 29, 30, 31, 32, 33, 34, 35, 36, 37, 38, 39, 40, 41, 42, 43] (by decide +kernel) (by decide +kernel)
set_option maxRecDepth 20000 in
theorem gX9_told_X9_bad : GoodIn wsX9_told (wsV RX9 90 RX9 yX9_bad wsX9_bad) := goodIn_app (goodIn_of _ (by decide +kernel)) ggX9_told_X9_bad
theorem dX9_told_0 : decode cX9_told 0 = .ok (.iload_n 1, 1) := by decide +kernel
theorem dX9_told_1 : decode cX9_told 1 = .ok (.i2l, 1) := by decide +kernel
theorem dX9_told_2 : decode cX9_told 2 = .ok (.lconst 0, 1) := by decide +kernel
theorem dX9_told_3 : decode cX9_told 3 = .ok (.ldc2_w 283, 3) := by decide +kernel
theorem dX9_told_6 : decode cX9_told 6 = .ok (.invokestatic 83, 3) := by decide +kernel
theorem dX9_told_9 : decode cX9_told 9 = .ok (.ifCond .eq 11, 3) := by decide +kernel
theorem dX9_told_12 : decode cX9_told 12 = .ok (.aload_n 0, 1) := by decide +kernel
theorem dX9_told_13 : decode cX9_told 13 = .ok (.iload_n 1, 1) := by decide +kernel
theorem dX9_told_14 : decode cX9_told 14 = .ok (.invokevirtual 285, 3) := by decide +kernel
theorem dX9_told_17 : decode cX9_told 17 = .ok (.goto 9, 3) := by decide +kernel
theorem dX9_told_20 : decode cX9_told 20 = .ok (.aload_n 0, 1) := by decide +kernel
theorem dX9_told_21 : decode cX9_told 21 = .ok (.bipush (-2), 2) := by decide +kernel
theorem dX9_told_23 : decode cX9_told 23 = .ok (.invokevirtual 90, 3) := by decide +kernel
theorem dX9_told_26 : decode cX9_told 26 = .ok (.ireturn, 1) := by decide +kernel
set_option maxRecDepth 20000 in
theorem ggX9_digest_X9_toldOf : GoodIn wsX9_digest wsX9_toldOf := goodIn_r _ [8, 9, 10, 11, 99, 100, 101, 102, 103, 104, 105, 106, 107, 108, 109, 110, 111, 112, 113, 114, 115, 116, 117, 118, 119, 120, 121, 122, 123, 124, 125] (by decide +kernel) (by decide +kernel)
set_option maxRecDepth 20000 in
theorem gX9_digest_X9_toldOf : GoodIn wsX9_digest (wsV RX9 285 RX9 yX9_toldOf wsX9_toldOf) := goodIn_app (goodIn_of _ (by decide +kernel)) ggX9_digest_X9_toldOf
set_option maxRecDepth 20000 in
theorem ggX9_digest_X9_places : GoodIn wsX9_digest wsX9_places := goodIn_r _ [15, 16, 17, 18, 7, 19, 3, 99, 100, 101, 102, 103, 104, 105, 106, 107, 108, 109, 110, 111, 112, 113, 114, 115, 116, 117, 118, 119, 120, 121, 122, 123, 124, 125] (by decide +kernel) (by decide +kernel)
set_option maxRecDepth 20000 in
theorem gX9_digest_X9_places : GoodIn wsX9_digest (wsV RX9 60 RX9 yX9_places wsX9_places) := goodIn_app (goodIn_of _ (by decide +kernel)) ggX9_digest_X9_places
set_option maxRecDepth 20000 in
theorem ggX9_digest_X9_votes : GoodIn wsX9_digest wsX9_votes := goodIn_r _ [23, 24, 25, 26, 27, 7, 28, 29, 30, 31, 32, 33, 34, 35, 36, 37, 3, 38, 39, 40, 41, 42, 43, 44, 45, 46, 47, 48, 49, 50, 12, 13, 14, 15, 16, 17, 18, 19, 51, 52, 53, 54, 55, 56, 57, 58, 59, 60, 61, 62, 63, 64, 65, 66, 67, 68, 99, 100, 101, 102, 103, 104, 105, 106, 107, 108, 109, 110, 111, 112, 113, 114, 115, 116, 117, 118, 119, 120, 121, 122, 123, 124, 125] (by decide +kernel) (by decide +kernel)
set_option maxRecDepth 20000 in
theorem gX9_digest_X9_votes : GoodIn wsX9_digest (wsV RX9 292 RX9 yX9_votes wsX9_votes) := goodIn_app (goodIn_of _ (by decide +kernel)) ggX9_digest_X9_votes
set_option maxRecDepth 20000 in
theorem ggX9_digest_X9_halvesOf : GoodIn wsX9_digest wsX9_halvesOf := goodIn_r _ [72, 73, 74, 75, 76, 77, 43, 44, 45, 7, 46, 3, 16, 17, 18, 19, 78, 79, 80, 81, 12, 13, 14, 15, 82, 83, 84, 85, 86, 87, 88, 89, 90, 91, 92, 93, 94, 95, 96, 97, 98, 66, 67, 68, 99, 100, 101, 102, 103, 104, 105, 106, 107, 108, 109, 110, 111, 112, 113, 114, 115, 116, 117, 118, 119, 120, 121, 122, 123, 124, 125] (by decide +kernel) (by decide +kernel)
set_option maxRecDepth 20000 in
theorem gX9_digest_X9_halvesOf : GoodIn wsX9_digest (wsV RX9 218 RX9 yX9_halvesOf wsX9_halvesOf) := goodIn_app (goodIn_of _ (by decide +kernel)) ggX9_digest_X9_halvesOf
theorem dX9_digest_0 : decode cX9_digest 0 = .ok (.ldc2_w 288, 3) := by decide +kernel
theorem dX9_digest_3 : decode cX9_digest 3 = .ok (.lstore_n 1, 1) := by decide +kernel
theorem dX9_digest_4 : decode cX9_digest 4 = .ok (.iconst 0, 1) := by decide +kernel
theorem dX9_digest_5 : decode cX9_digest 5 = .ok (.istore_n 3, 1) := by decide +kernel
theorem dX9_digest_6 : decode cX9_digest 6 = .ok (.iload_n 3, 1) := by decide +kernel
theorem dX9_digest_7 : decode cX9_digest 7 = .ok (.iconst 5, 1) := by decide +kernel
theorem dX9_digest_8 : decode cX9_digest 8 = .ok (.if_icmp .ge 22, 3) := by decide +kernel
theorem dX9_digest_11 : decode cX9_digest 11 = .ok (.ldc2_w 290, 3) := by decide +kernel
theorem dX9_digest_14 : decode cX9_digest 14 = .ok (.lload_n 1, 1) := by decide +kernel
theorem dX9_digest_15 : decode cX9_digest 15 = .ok (.lmul, 1) := by decide +kernel
theorem dX9_digest_16 : decode cX9_digest 16 = .ok (.aload_n 0, 1) := by decide +kernel
theorem dX9_digest_17 : decode cX9_digest 17 = .ok (.iload_n 3, 1) := by decide +kernel
theorem dX9_digest_18 : decode cX9_digest 18 = .ok (.invokevirtual 285, 3) := by decide +kernel
theorem dX9_digest_21 : decode cX9_digest 21 = .ok (.i2l, 1) := by decide +kernel
theorem dX9_digest_22 : decode cX9_digest 22 = .ok (.ladd, 1) := by decide +kernel
theorem dX9_digest_23 : decode cX9_digest 23 = .ok (.lstore_n 1, 1) := by decide +kernel
theorem dX9_digest_24 : decode cX9_digest 24 = .ok (.iinc 3 1, 3) := by decide +kernel
theorem dX9_digest_27 : decode cX9_digest 27 = .ok (.goto (-21), 3) := by decide +kernel
theorem dX9_digest_30 : decode cX9_digest 30 = .ok (.iconst 0, 1) := by decide +kernel
theorem dX9_digest_31 : decode cX9_digest 31 = .ok (.istore_n 3, 1) := by decide +kernel
theorem dX9_digest_32 : decode cX9_digest 32 = .ok (.iload_n 3, 1) := by decide +kernel
theorem dX9_digest_33 : decode cX9_digest 33 = .ok (.iconst 3, 1) := by decide +kernel
theorem dX9_digest_34 : decode cX9_digest 34 = .ok (.aload_n 0, 1) := by decide +kernel
theorem dX9_digest_35 : decode cX9_digest 35 = .ok (.invokevirtual 60, 3) := by decide +kernel
theorem dX9_digest_38 : decode cX9_digest 38 = .ok (.iadd, 1) := by decide +kernel
theorem dX9_digest_39 : decode cX9_digest 39 = .ok (.if_icmp .ge 23, 3) := by decide +kernel
theorem dX9_digest_42 : decode cX9_digest 42 = .ok (.ldc2_w 290, 3) := by decide +kernel
theorem dX9_digest_45 : decode cX9_digest 45 = .ok (.lload_n 1, 1) := by decide +kernel
theorem dX9_digest_46 : decode cX9_digest 46 = .ok (.lmul, 1) := by decide +kernel
theorem dX9_digest_47 : decode cX9_digest 47 = .ok (.aload_n 0, 1) := by decide +kernel
theorem dX9_digest_48 : decode cX9_digest 48 = .ok (.getfield 7, 3) := by decide +kernel
theorem dX9_digest_51 : decode cX9_digest 51 = .ok (.iload_n 3, 1) := by decide +kernel
theorem dX9_digest_52 : decode cX9_digest 52 = .ok (.iaload, 1) := by decide +kernel
theorem dX9_digest_53 : decode cX9_digest 53 = .ok (.i2l, 1) := by decide +kernel
theorem dX9_digest_54 : decode cX9_digest 54 = .ok (.ladd, 1) := by decide +kernel
theorem dX9_digest_55 : decode cX9_digest 55 = .ok (.lstore_n 1, 1) := by decide +kernel
theorem dX9_digest_56 : decode cX9_digest 56 = .ok (.iinc 3 1, 3) := by decide +kernel
theorem dX9_digest_59 : decode cX9_digest 59 = .ok (.goto (-27), 3) := by decide +kernel
theorem dX9_digest_62 : decode cX9_digest 62 = .ok (.aload_n 0, 1) := by decide +kernel
theorem dX9_digest_63 : decode cX9_digest 63 = .ok (.invokevirtual 292, 3) := by decide +kernel
theorem dX9_digest_66 : decode cX9_digest 66 = .ok (.istore_n 3, 1) := by decide +kernel
theorem dX9_digest_67 : decode cX9_digest 67 = .ok (.ldc2_w 290, 3) := by decide +kernel
theorem dX9_digest_70 : decode cX9_digest 70 = .ok (.ldc2_w 290, 3) := by decide +kernel
theorem dX9_digest_73 : decode cX9_digest 73 = .ok (.lload_n 1, 1) := by decide +kernel
theorem dX9_digest_74 : decode cX9_digest 74 = .ok (.lmul, 1) := by decide +kernel
theorem dX9_digest_75 : decode cX9_digest 75 = .ok (.iload_n 3, 1) := by decide +kernel
theorem dX9_digest_76 : decode cX9_digest 76 = .ok (.i2l, 1) := by decide +kernel
theorem dX9_digest_77 : decode cX9_digest 77 = .ok (.ladd, 1) := by decide +kernel
theorem dX9_digest_78 : decode cX9_digest 78 = .ok (.lmul, 1) := by decide +kernel
theorem dX9_digest_79 : decode cX9_digest 79 = .ok (.aload_n 0, 1) := by decide +kernel
theorem dX9_digest_80 : decode cX9_digest 80 = .ok (.invokevirtual 218, 3) := by decide +kernel
theorem dX9_digest_83 : decode cX9_digest 83 = .ok (.i2l, 1) := by decide +kernel
theorem dX9_digest_84 : decode cX9_digest 84 = .ok (.ladd, 1) := by decide +kernel
theorem dX9_digest_85 : decode cX9_digest 85 = .ok (.lreturn, 1) := by decide +kernel
