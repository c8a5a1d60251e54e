set_option maxRecDepth 20000 in
theorem ggX7_rank_X7_need : GoodIn wsX7_rank wsX7_need := goodIn_r _ [8, 1, 9, 10, 7, 11, 12, 13, 14, 48, 49, 50, 51, 52, 53, 54, 55, 56, 57, 58, 59, 60, 61] rfl rfl
set_option maxRecDepth 20000 in
theorem gX7_rank_X7_need : GoodIn wsX7_rank (wsV RX7 131 RX7 yX7_need wsX7_need) := goodIn_app (goodIn_r _ [4, 5, 6, 7] rfl rfl) ggX7_rank_X7_need
set_option maxRecDepth 20000 in
theorem ggX7_rank_X7_endsIn : GoodIn wsX7_rank wsX7_endsIn := goodIn_r _ [18, 2, 19, 20, 21, 7, 22, 23, 24, 25, 26, 27, 28, 29, 30, 31, 48, 49, 50, 51, 52, 53, 54, 55, 56, 57, 58, 59, 60, 61] rfl rfl
set_option maxRecDepth 20000 in
theorem gX7_rank_X7_endsIn : GoodIn wsX7_rank (wsV RX7 138 RX7 yX7_endsIn wsX7_endsIn) := goodIn_app (goodIn_r _ [15, 16, 17, 7] rfl rfl) ggX7_rank_X7_endsIn
set_option maxRecDepth 20000 in
theorem ggX7_rank_X7_layPaths : GoodIn wsX7_rank wsX7_layPaths := goodIn_r _ [35, 23, 36, 37, 3, 38, 39, 40, 41, 7, 42, 43, 24, 25, 26, 27, 28, 29, 30, 31, 44, 45, 46, 47, 48, 49, 50, 51, 52, 53, 54, 55, 56, 57, 58, 59, 60, 61] rfl rfl
set_option maxRecDepth 20000 in
theorem gX7_rank_X7_layPaths : GoodIn wsX7_rank (wsV RX7 144 RX7 yX7_layPaths wsX7_layPaths) := goodIn_app (goodIn_r _ [32, 33, 34, 7] rfl rfl) ggX7_rank_X7_layPaths
set_option maxRecDepth 20000 in
theorem ggX7_rank_X7_moveOf : GoodIn wsX7_rank wsX7_moveOf := goodIn_r _ [42, 43, 24, 25, 26, 7, 27, 23, 28, 29, 30, 31, 44, 45, 46, 47, 36, 48, 49, 50, 51, 52, 53, 54, 55, 56, 57, 58, 59, 60, 61] rfl rfl
set_option maxRecDepth 20000 in
theorem gX7_rank_X7_moveOf : GoodIn wsX7_rank (wsV RX7 120 RX7 yX7_moveOf wsX7_moveOf) := goodIn_app (goodIn_r _ [39, 40, 41, 7] rfl rfl) ggX7_rank_X7_moveOf
theorem dX7_rank_0 : decode cX7_rank 0 = .ok (.aload_n 0, 1) := by decide +kernel
theorem dX7_rank_1 : decode cX7_rank 1 = .ok (.iload_n 1, 1) := by decide +kernel
theorem dX7_rank_2 : decode cX7_rank 2 = .ok (.invokevirtual 131, 3) := by decide +kernel
theorem dX7_rank_5 : decode cX7_rank 5 = .ok (.istore_n 2, 1) := by decide +kernel
theorem dX7_rank_6 : decode cX7_rank 6 = .ok (.iload_n 2, 1) := by decide +kernel
theorem dX7_rank_7 : decode cX7_rank 7 = .ok (.ifCond .ge 5, 3) := by decide +kernel
theorem dX7_rank_10 : decode cX7_rank 10 = .ok (.iload_n 2, 1) := by decide +kernel
theorem dX7_rank_11 : decode cX7_rank 11 = .ok (.ireturn, 1) := by decide +kernel
theorem dX7_rank_12 : decode cX7_rank 12 = .ok (.aload_n 0, 1) := by decide +kernel
theorem dX7_rank_13 : decode cX7_rank 13 = .ok (.getfield 26, 3) := by decide +kernel
theorem dX7_rank_16 : decode cX7_rank 16 = .ok (.iload_n 1, 1) := by decide +kernel
theorem dX7_rank_17 : decode cX7_rank 17 = .ok (.iaload, 1) := by decide +kernel
theorem dX7_rank_18 : decode cX7_rank 18 = .ok (.ifCond .eq 20, 3) := by decide +kernel
theorem dX7_rank_21 : decode cX7_rank 21 = .ok (.aload_n 0, 1) := by decide +kernel
theorem dX7_rank_22 : decode cX7_rank 22 = .ok (.iload_n 1, 1) := by decide +kernel
theorem dX7_rank_23 : decode cX7_rank 23 = .ok (.iconst 0, 1) := by decide +kernel
theorem dX7_rank_24 : decode cX7_rank 24 = .ok (.aload_n 0, 1) := by decide +kernel
theorem dX7_rank_25 : decode cX7_rank 25 = .ok (.getfield 26, 3) := by decide +kernel
theorem dX7_rank_28 : decode cX7_rank 28 = .ok (.iload_n 1, 1) := by decide +kernel
theorem dX7_rank_29 : decode cX7_rank 29 = .ok (.iaload, 1) := by decide +kernel
theorem dX7_rank_30 : decode cX7_rank 30 = .ok (.invokevirtual 138, 3) := by decide +kernel
theorem dX7_rank_33 : decode cX7_rank 33 = .ok (.lconst 0, 1) := by decide +kernel
theorem dX7_rank_34 : decode cX7_rank 34 = .ok (.lcmp, 1) := by decide +kernel
theorem dX7_rank_35 : decode cX7_rank 35 = .ok (.ifCond .ne 6, 3) := by decide +kernel
theorem dX7_rank_38 : decode cX7_rank 38 = .ok (.bipush (-4), 2) := by decide +kernel
theorem dX7_rank_40 : decode cX7_rank 40 = .ok (.ireturn, 1) := by decide +kernel
theorem dX7_rank_41 : decode cX7_rank 41 = .ok (.aload_n 0, 1) := by decide +kernel
theorem dX7_rank_42 : decode cX7_rank 42 = .ok (.invokevirtual 144, 3) := by decide +kernel
theorem dX7_rank_45 : decode cX7_rank 45 = .ok (.iconst 0, 1) := by decide +kernel
theorem dX7_rank_46 : decode cX7_rank 46 = .ok (.istore_n 3, 1) := by decide +kernel
theorem dX7_rank_47 : decode cX7_rank 47 = .ok (.iconst 0, 1) := by decide +kernel
theorem dX7_rank_48 : decode cX7_rank 48 = .ok (.istore 4, 2) := by decide +kernel
theorem dX7_rank_50 : decode cX7_rank 50 = .ok (.iconst 0, 1) := by decide +kernel
theorem dX7_rank_51 : decode cX7_rank 51 = .ok (.istore 5, 2) := by decide +kernel
theorem dX7_rank_53 : decode cX7_rank 53 = .ok (.iload 5, 2) := by decide +kernel
theorem dX7_rank_55 : decode cX7_rank 55 = .ok (.aload_n 0, 1) := by decide +kernel
theorem dX7_rank_56 : decode cX7_rank 56 = .ok (.getfield 26, 3) := by decide +kernel
theorem dX7_rank_59 : decode cX7_rank 59 = .ok (.iload_n 1, 1) := by decide +kernel
theorem dX7_rank_60 : decode cX7_rank 60 = .ok (.iaload, 1) := by decide +kernel
theorem dX7_rank_61 : decode cX7_rank 61 = .ok (.if_icmp .ge 96, 3) := by decide +kernel
theorem dX7_rank_64 : decode cX7_rank 64 = .ok (.aload_n 0, 1) := by decide +kernel
theorem dX7_rank_65 : decode cX7_rank 65 = .ok (.getfield 29, 3) := by decide +kernel
theorem dX7_rank_68 : decode cX7_rank 68 = .ok (.bipush 64, 2) := by decide +kernel
theorem dX7_rank_70 : decode cX7_rank 70 = .ok (.iload_n 1, 1) := by decide +kernel
theorem dX7_rank_71 : decode cX7_rank 71 = .ok (.imul, 1) := by decide +kernel
theorem dX7_rank_72 : decode cX7_rank 72 = .ok (.iload 5, 2) := by decide +kernel
theorem dX7_rank_74 : decode cX7_rank 74 = .ok (.iadd, 1) := by decide +kernel
theorem dX7_rank_75 : decode cX7_rank 75 = .ok (.iaload, 1) := by decide +kernel
theorem dX7_rank_76 : decode cX7_rank 76 = .ok (.bipush 97, 2) := by decide +kernel
theorem dX7_rank_78 : decode cX7_rank 78 = .ok (.isub, 1) := by decide +kernel
theorem dX7_rank_79 : decode cX7_rank 79 = .ok (.istore 6, 2) := by decide +kernel
theorem dX7_rank_81 : decode cX7_rank 81 = .ok (.iconst 0, 1) := by decide +kernel
theorem dX7_rank_82 : decode cX7_rank 82 = .ok (.istore 7, 2) := by decide +kernel
theorem dX7_rank_84 : decode cX7_rank 84 = .ok (.iload 7, 2) := by decide +kernel
theorem dX7_rank_86 : decode cX7_rank 86 = .ok (.iload 6, 2) := by decide +kernel
theorem dX7_rank_88 : decode cX7_rank 88 = .ok (.if_icmp .ge 40, 3) := by decide +kernel
theorem dX7_rank_91 : decode cX7_rank 91 = .ok (.aload_n 0, 1) := by decide +kernel
theorem dX7_rank_92 : decode cX7_rank 92 = .ok (.iload 4, 2) := by decide +kernel
theorem dX7_rank_94 : decode cX7_rank 94 = .ok (.iload 7, 2) := by decide +kernel
theorem dX7_rank_96 : decode cX7_rank 96 = .ok (.invokevirtual 120, 3) := by decide +kernel
theorem dX7_rank_99 : decode cX7_rank 99 = .ok (.istore 8, 2) := by decide +kernel
theorem dX7_rank_101 : decode cX7_rank 101 = .ok (.iload_n 3, 1) := by decide +kernel
theorem dX7_rank_102 : decode cX7_rank 102 = .ok (.iload 8, 2) := by decide +kernel
theorem dX7_rank_104 : decode cX7_rank 104 = .ok (.bipush (-4), 2) := by decide +kernel
theorem dX7_rank_106 : decode cX7_rank 106 = .ok (.if_icmp .ne 7, 3) := by decide +kernel
theorem dX7_rank_109 : decode cX7_rank 109 = .ok (.iconst 0, 1) := by decide +kernel
theorem dX7_rank_110 : decode cX7_rank 110 = .ok (.goto 10, 3) := by decide +kernel
theorem dX7_rank_113 : decode cX7_rank 113 = .ok (.aload_n 0, 1) := by decide +kernel
theorem dX7_rank_114 : decode cX7_rank 114 = .ok (.getfield 32, 3) := by decide +kernel
theorem dX7_rank_117 : decode cX7_rank 117 = .ok (.iload 8, 2) := by decide +kernel
theorem dX7_rank_119 : decode cX7_rank 119 = .ok (.iaload, 1) := by decide +kernel
theorem dX7_rank_120 : decode cX7_rank 120 = .ok (.iadd, 1) := by decide +kernel
theorem dX7_rank_121 : decode cX7_rank 121 = .ok (.istore_n 3, 1) := by decide +kernel
theorem dX7_rank_122 : decode cX7_rank 122 = .ok (.iinc 7 1, 3) := by decide +kernel
theorem dX7_rank_125 : decode cX7_rank 125 = .ok (.goto (-41), 3) := by decide +kernel
theorem dX7_rank_128 : decode cX7_rank 128 = .ok (.iload_n 3, 1) := by decide +kernel
theorem dX7_rank_129 : decode cX7_rank 129 = .ok (.iload 5, 2) := by decide +kernel
theorem dX7_rank_131 : decode cX7_rank 131 = .ok (.ifCond .le 7, 3) := by decide +kernel
theorem dX7_rank_134 : decode cX7_rank 134 = .ok (.iconst 1, 1) := by decide +kernel
theorem dX7_rank_135 : decode cX7_rank 135 = .ok (.goto 4, 3) := by decide +kernel
theorem dX7_rank_138 : decode cX7_rank 138 = .ok (.iconst 0, 1) := by decide +kernel
theorem dX7_rank_139 : decode cX7_rank 139 = .ok (.iadd, 1) := by decide +kernel
theorem dX7_rank_140 : decode cX7_rank 140 = .ok (.istore_n 3, 1) := by decide +kernel
theorem dX7_rank_141 : decode cX7_rank 141 = .ok (.aload_n 0, 1) := by decide +kernel
theorem dX7_rank_142 : decode cX7_rank 142 = .ok (.iload 4, 2) := by decide +kernel
theorem dX7_rank_144 : decode cX7_rank 144 = .ok (.iload 6, 2) := by decide +kernel
theorem dX7_rank_146 : decode cX7_rank 146 = .ok (.invokevirtual 120, 3) := by decide +kernel
theorem dX7_rank_149 : decode cX7_rank 149 = .ok (.istore 4, 2) := by decide +kernel
theorem dX7_rank_151 : decode cX7_rank 151 = .ok (.iinc 5 1, 3) := by decide +kernel
theorem dX7_rank_154 : decode cX7_rank 154 = .ok (.goto (-101), 3) := by decide +kernel
theorem dX7_rank_157 : decode cX7_rank 157 = .ok (.iload_n 3, 1) := by decide +kernel
theorem dX7_rank_158 : decode cX7_rank 158 = .ok (.ireturn, 1) := by decide +kernel
set_option maxRecDepth 20000 in
theorem ggX7_unlikeOf_X7_alikeAt : GoodIn wsX7_unlikeOf wsX7_alikeAt := goodIn_r _ [5, 6, 7, 8, 9, 10, 11, 12, 13, 14, 15, 16, 17, 18, 19, 20] rfl rfl
set_option maxRecDepth 20000 in
theorem gX7_unlikeOf_X7_alikeAt : GoodIn wsX7_unlikeOf (wsV RX7 62 RX7 yX7_alikeAt wsX7_alikeAt) := goodIn_app (goodIn_r _ [1, 2, 3, 4] rfl rfl) ggX7_unlikeOf_X7_alikeAt
theorem dX7_unlikeOf_0 : decode cX7_unlikeOf 0 = .ok (.iconst 0, 1) := by decide +kernel
theorem dX7_unlikeOf_1 : decode cX7_unlikeOf 1 = .ok (.istore_n 3, 1) := by decide +kernel
theorem dX7_unlikeOf_2 : decode cX7_unlikeOf 2 = .ok (.iload_n 1, 1) := by decide +kernel
theorem dX7_unlikeOf_3 : decode cX7_unlikeOf 3 = .ok (.istore 4, 2) := by decide +kernel
theorem dX7_unlikeOf_5 : decode cX7_unlikeOf 5 = .ok (.iload 4, 2) := by decide +kernel
theorem dX7_unlikeOf_7 : decode cX7_unlikeOf 7 = .ok (.iload_n 2, 1) := by decide +kernel
theorem dX7_unlikeOf_8 : decode cX7_unlikeOf 8 = .ok (.if_icmp .gt 65, 3) := by decide +kernel
theorem dX7_unlikeOf_11 : decode cX7_unlikeOf 11 = .ok (.iconst 1, 1) := by decide +kernel
theorem dX7_unlikeOf_12 : decode cX7_unlikeOf 12 = .ok (.istore 5, 2) := by decide +kernel
theorem dX7_unlikeOf_14 : decode cX7_unlikeOf 14 = .ok (.iload_n 1, 1) := by decide +kernel
theorem dX7_unlikeOf_15 : decode cX7_unlikeOf 15 = .ok (.istore 6, 2) := by decide +kernel
theorem dX7_unlikeOf_17 : decode cX7_unlikeOf 17 = .ok (.iload 6, 2) := by decide +kernel
theorem dX7_unlikeOf_19 : decode cX7_unlikeOf 19 = .ok (.iload 4, 2) := by decide +kernel
theorem dX7_unlikeOf_21 : decode cX7_unlikeOf 21 = .ok (.if_icmp .ge 33, 3) := by decide +kernel
theorem dX7_unlikeOf_24 : decode cX7_unlikeOf 24 = .ok (.iload 5, 2) := by decide +kernel
theorem dX7_unlikeOf_26 : decode cX7_unlikeOf 26 = .ok (.ifCond .eq 28, 3) := by decide +kernel
theorem dX7_unlikeOf_29 : decode cX7_unlikeOf 29 = .ok (.aload_n 0, 1) := by decide +kernel
theorem dX7_unlikeOf_30 : decode cX7_unlikeOf 30 = .ok (.iload 4, 2) := by decide +kernel
theorem dX7_unlikeOf_32 : decode cX7_unlikeOf 32 = .ok (.iload 6, 2) := by decide +kernel
theorem dX7_unlikeOf_34 : decode cX7_unlikeOf 34 = .ok (.invokevirtual 62, 3) := by decide +kernel
theorem dX7_unlikeOf_37 : decode cX7_unlikeOf 37 = .ok (.iload_n 1, 1) := by decide +kernel
theorem dX7_unlikeOf_38 : decode cX7_unlikeOf 38 = .ok (.if_icmp .ge 7, 3) := by decide +kernel
theorem dX7_unlikeOf_41 : decode cX7_unlikeOf 41 = .ok (.iconst 1, 1) := by decide +kernel
theorem dX7_unlikeOf_42 : decode cX7_unlikeOf 42 = .ok (.goto 4, 3) := by decide +kernel
theorem dX7_unlikeOf_45 : decode cX7_unlikeOf 45 = .ok (.iconst 0, 1) := by decide +kernel
theorem dX7_unlikeOf_46 : decode cX7_unlikeOf 46 = .ok (.istore 5, 2) := by decide +kernel
theorem dX7_unlikeOf_48 : decode cX7_unlikeOf 48 = .ok (.iinc 6 1, 3) := by decide +kernel
theorem dX7_unlikeOf_51 : decode cX7_unlikeOf 51 = .ok (.goto (-34), 3) := by decide +kernel
theorem dX7_unlikeOf_54 : decode cX7_unlikeOf 54 = .ok (.iload_n 3, 1) := by decide +kernel
theorem dX7_unlikeOf_55 : decode cX7_unlikeOf 55 = .ok (.iload 5, 2) := by decide +kernel
theorem dX7_unlikeOf_57 : decode cX7_unlikeOf 57 = .ok (.ifCond .eq 7, 3) := by decide +kernel
theorem dX7_unlikeOf_60 : decode cX7_unlikeOf 60 = .ok (.iconst 1, 1) := by decide +kernel
theorem dX7_unlikeOf_61 : decode cX7_unlikeOf 61 = .ok (.goto 4, 3) := by decide +kernel
theorem dX7_unlikeOf_64 : decode cX7_unlikeOf 64 = .ok (.iconst 0, 1) := by decide +kernel
theorem dX7_unlikeOf_65 : decode cX7_unlikeOf 65 = .ok (.iadd, 1) := by decide +kernel
theorem dX7_unlikeOf_66 : decode cX7_unlikeOf 66 = .ok (.istore_n 3, 1) := by decide +kernel
theorem dX7_unlikeOf_67 : decode cX7_unlikeOf 67 = .ok (.iinc 4 1, 3) := by decide +kernel
theorem dX7_unlikeOf_70 : decode cX7_unlikeOf 70 = .ok (.goto (-65), 3) := by decide +kernel
theorem dX7_unlikeOf_73 : decode cX7_unlikeOf 73 = .ok (.iload_n 3, 1) := by decide +kernel
theorem dX7_unlikeOf_74 : decode cX7_unlikeOf 74 = .ok (.ireturn, 1) := by decide +kernel
theorem dX7_power_0 : decode cX7_power 0 = .ok (.lconst 1, 1) := by decide +kernel
theorem dX7_power_1 : decode cX7_power 1 = .ok (.lstore_n 2, 1) := by decide +kernel
theorem dX7_power_2 : decode cX7_power 2 = .ok (.iconst 0, 1) := by decide +kernel
theorem dX7_power_3 : decode cX7_power 3 = .ok (.istore 4, 2) := by decide +kernel
theorem dX7_power_5 : decode cX7_power 5 = .ok (.iload 4, 2) := by decide +kernel
theorem dX7_power_7 : decode cX7_power 7 = .ok (.iload_n 1, 1) := by decide +kernel
theorem dX7_power_8 : decode cX7_power 8 = .ok (.if_icmp .ge 25, 3) := by decide +kernel
theorem dX7_power_11 : decode cX7_power 11 = .ok (.lload_n 2, 1) := by decide +kernel
theorem dX7_power_12 : decode cX7_power 12 = .ok (.ldc2_w 147, 3) := by decide +kernel
theorem dX7_power_15 : decode cX7_power 15 = .ok (.lcmp, 1) := by decide +kernel
theorem dX7_power_16 : decode cX7_power 16 = .ok (.ifCond .ge 17, 3) := by decide +kernel
theorem dX7_power_19 : decode cX7_power 19 = .ok (.lload_n 2, 1) := by decide +kernel
theorem dX7_power_20 : decode cX7_power 20 = .ok (.aload_n 0, 1) := by decide +kernel
theorem dX7_power_21 : decode cX7_power 21 = .ok (.getfield 52, 3) := by decide +kernel
theorem dX7_power_24 : decode cX7_power 24 = .ok (.i2l, 1) := by decide +kernel
theorem dX7_power_25 : decode cX7_power 25 = .ok (.lmul, 1) := by decide +kernel
theorem dX7_power_26 : decode cX7_power 26 = .ok (.lstore_n 2, 1) := by decide +kernel
theorem dX7_power_27 : decode cX7_power 27 = .ok (.iinc 4 1, 3) := by decide +kernel
theorem dX7_power_30 : decode cX7_power 30 = .ok (.goto (-25), 3) := by decide +kernel
theorem dX7_power_33 : decode cX7_power 33 = .ok (.lload_n 2, 1) := by decide +kernel
theorem dX7_power_34 : decode cX7_power 34 = .ok (.lreturn, 1) := by decide +kernel
set_option maxRecDepth 20000 in
theorem ggX7_absent_X7_isSheet : GoodIn wsX7_absent wsX7_isSheet := goodIn_r _ [8, 9, 10, 7, 11] rfl rfl
set_option maxRecDepth 20000 in
theorem gX7_absent_X7_isSheet : GoodIn wsX7_absent (va_wsS RX7 127 yX7_isSheet wsX7_isSheet) := goodIn_app (goodIn_r _ [5, 6, 7] rfl rfl) ggX7_absent_X7_isSheet
set_option maxRecDepth 20000 in
theorem ggX7_absent_X7_unlikeOf : GoodIn wsX7_absent wsX7_unlikeOf := goodIn_r _ [15, 16, 17, 18, 7, 19, 20, 41, 42, 43, 44, 45, 46, 47, 48, 49, 50, 51, 52, 53, 54] rfl rfl
set_option maxRecDepth 20000 in
theorem gX7_absent_X7_unlikeOf : GoodIn wsX7_absent (wsV RX7 149 RX7 yX7_unlikeOf wsX7_unlikeOf) := goodIn_app (goodIn_r _ [12, 13, 14, 7] rfl rfl) ggX7_absent_X7_unlikeOf
set_option maxRecDepth 20000 in
theorem ggX7_absent_X7_power : GoodIn wsX7_absent wsX7_power := goodIn_r _ [24, 25, 4, 41, 42, 43, 44, 45, 46, 47, 48, 49, 50, 51, 52, 53, 54] rfl rfl
set_option maxRecDepth 20000 in
theorem gX7_absent_X7_power : GoodIn wsX7_absent (wsV RX7 152 RX7 yX7_power wsX7_power) := goodIn_app (goodIn_r _ [21, 22, 23, 7] rfl rfl) ggX7_absent_X7_power
set_option maxRecDepth 20000 in
theorem ggX7_absent_X7_endsIn : GoodIn wsX7_absent wsX7_endsIn := goodIn_r _ [29, 3, 30, 31, 32, 7, 33, 1, 34, 35, 36, 37, 20, 38, 39, 40, 41, 42, 43, 44, 45, 46, 47, 48, 49, 50, 51, 52, 53, 54] rfl rfl
set_option maxRecDepth 20000 in
theorem gX7_absent_X7_endsIn : GoodIn wsX7_absent (wsV RX7 138 RX7 yX7_endsIn wsX7_endsIn) := goodIn_app (goodIn_r _ [26, 27, 28, 7] rfl rfl) ggX7_absent_X7_endsIn
theorem dX7_absent_0 : decode cX7_absent 0 = .ok (.iload_n 1, 1) := by decide +kernel
theorem dX7_absent_1 : decode cX7_absent 1 = .ok (.invokestatic 127, 3) := by decide +kernel
theorem dX7_absent_4 : decode cX7_absent 4 = .ok (.ifCond .ne 5, 3) := by decide +kernel
theorem dX7_absent_7 : decode cX7_absent 7 = .ok (.iconst (-1), 1) := by decide +kernel
theorem dX7_absent_8 : decode cX7_absent 8 = .ok (.ireturn, 1) := by decide +kernel
theorem dX7_absent_9 : decode cX7_absent 9 = .ok (.iconst 1, 1) := by decide +kernel
theorem dX7_absent_10 : decode cX7_absent 10 = .ok (.istore_n 2, 1) := by decide +kernel
theorem dX7_absent_11 : decode cX7_absent 11 = .ok (.aload_n 0, 1) := by decide +kernel
theorem dX7_absent_12 : decode cX7_absent 12 = .ok (.iload_n 2, 1) := by decide +kernel
theorem dX7_absent_13 : decode cX7_absent 13 = .ok (.aload_n 0, 1) := by decide +kernel
theorem dX7_absent_14 : decode cX7_absent 14 = .ok (.getfield 56, 3) := by decide +kernel
theorem dX7_absent_17 : decode cX7_absent 17 = .ok (.invokevirtual 149, 3) := by decide +kernel
theorem dX7_absent_20 : decode cX7_absent 20 = .ok (.i2l, 1) := by decide +kernel
theorem dX7_absent_21 : decode cX7_absent 21 = .ok (.aload_n 0, 1) := by decide +kernel
theorem dX7_absent_22 : decode cX7_absent 22 = .ok (.iload_n 2, 1) := by decide +kernel
theorem dX7_absent_23 : decode cX7_absent 23 = .ok (.invokevirtual 152, 3) := by decide +kernel
theorem dX7_absent_26 : decode cX7_absent 26 = .ok (.lcmp, 1) := by decide +kernel
theorem dX7_absent_27 : decode cX7_absent 27 = .ok (.ifCond .ne 9, 3) := by decide +kernel
theorem dX7_absent_30 : decode cX7_absent 30 = .ok (.iinc 2 1, 3) := by decide +kernel
theorem dX7_absent_33 : decode cX7_absent 33 = .ok (.goto (-22), 3) := by decide +kernel
theorem dX7_absent_36 : decode cX7_absent 36 = .ok (.aload_n 0, 1) := by decide +kernel
theorem dX7_absent_37 : decode cX7_absent 37 = .ok (.getfield 26, 3) := by decide +kernel
theorem dX7_absent_40 : decode cX7_absent 40 = .ok (.iload_n 1, 1) := by decide +kernel
theorem dX7_absent_41 : decode cX7_absent 41 = .ok (.iload_n 2, 1) := by decide +kernel
theorem dX7_absent_42 : decode cX7_absent 42 = .ok (.iastore, 1) := by decide +kernel
theorem dX7_absent_43 : decode cX7_absent 43 = .ok (.iconst 0, 1) := by decide +kernel
theorem dX7_absent_44 : decode cX7_absent 44 = .ok (.istore_n 3, 1) := by decide +kernel
theorem dX7_absent_45 : decode cX7_absent 45 = .ok (.iload_n 3, 1) := by decide +kernel
theorem dX7_absent_46 : decode cX7_absent 46 = .ok (.i2l, 1) := by decide +kernel
theorem dX7_absent_47 : decode cX7_absent 47 = .ok (.aload_n 0, 1) := by decide +kernel
theorem dX7_absent_48 : decode cX7_absent 48 = .ok (.iload_n 2, 1) := by decide +kernel
theorem dX7_absent_49 : decode cX7_absent 49 = .ok (.invokevirtual 152, 3) := by decide +kernel
theorem dX7_absent_52 : decode cX7_absent 52 = .ok (.lcmp, 1) := by decide +kernel
theorem dX7_absent_53 : decode cX7_absent 53 = .ok (.ifCond .ge 73, 3) := by decide +kernel
theorem dX7_absent_56 : decode cX7_absent 56 = .ok (.iload_n 3, 1) := by decide +kernel
theorem dX7_absent_57 : decode cX7_absent 57 = .ok (.istore 4, 2) := by decide +kernel
theorem dX7_absent_59 : decode cX7_absent 59 = .ok (.iload_n 2, 1) := by decide +kernel
theorem dX7_absent_60 : decode cX7_absent 60 = .ok (.iconst 1, 1) := by decide +kernel
theorem dX7_absent_61 : decode cX7_absent 61 = .ok (.isub, 1) := by decide +kernel
theorem dX7_absent_62 : decode cX7_absent 62 = .ok (.istore 5, 2) := by decide +kernel
theorem dX7_absent_64 : decode cX7_absent 64 = .ok (.iload 5, 2) := by decide +kernel
theorem dX7_absent_66 : decode cX7_absent 66 = .ok (.ifCond .lt 40, 3) := by decide +kernel
theorem dX7_absent_69 : decode cX7_absent 69 = .ok (.aload_n 0, 1) := by decide +kernel
theorem dX7_absent_70 : decode cX7_absent 70 = .ok (.getfield 29, 3) := by decide +kernel
theorem dX7_absent_73 : decode cX7_absent 73 = .ok (.bipush 64, 2) := by decide +kernel
theorem dX7_absent_75 : decode cX7_absent 75 = .ok (.iload_n 1, 1) := by decide +kernel
theorem dX7_absent_76 : decode cX7_absent 76 = .ok (.imul, 1) := by decide +kernel
theorem dX7_absent_77 : decode cX7_absent 77 = .ok (.iload 5, 2) := by decide +kernel
theorem dX7_absent_79 : decode cX7_absent 79 = .ok (.iadd, 1) := by decide +kernel
theorem dX7_absent_80 : decode cX7_absent 80 = .ok (.bipush 97, 2) := by decide +kernel
theorem dX7_absent_82 : decode cX7_absent 82 = .ok (.iload 4, 2) := by decide +kernel
theorem dX7_absent_84 : decode cX7_absent 84 = .ok (.aload_n 0, 1) := by decide +kernel
theorem dX7_absent_85 : decode cX7_absent 85 = .ok (.getfield 52, 3) := by decide +kernel
theorem dX7_absent_88 : decode cX7_absent 88 = .ok (.irem, 1) := by decide +kernel
theorem dX7_absent_89 : decode cX7_absent 89 = .ok (.iadd, 1) := by decide +kernel
theorem dX7_absent_90 : decode cX7_absent 90 = .ok (.iastore, 1) := by decide +kernel
theorem dX7_absent_91 : decode cX7_absent 91 = .ok (.iload 4, 2) := by decide +kernel
theorem dX7_absent_93 : decode cX7_absent 93 = .ok (.aload_n 0, 1) := by decide +kernel
theorem dX7_absent_94 : decode cX7_absent 94 = .ok (.getfield 52, 3) := by decide +kernel
theorem dX7_absent_97 : decode cX7_absent 97 = .ok (.idiv, 1) := by decide +kernel
theorem dX7_absent_98 : decode cX7_absent 98 = .ok (.istore 4, 2) := by decide +kernel
theorem dX7_absent_100 : decode cX7_absent 100 = .ok (.iinc 5 (-1), 3) := by decide +kernel
theorem dX7_absent_103 : decode cX7_absent 103 = .ok (.goto (-39), 3) := by decide +kernel
theorem dX7_absent_106 : decode cX7_absent 106 = .ok (.aload_n 0, 1) := by decide +kernel
theorem dX7_absent_107 : decode cX7_absent 107 = .ok (.iload_n 1, 1) := by decide +kernel
theorem dX7_absent_108 : decode cX7_absent 108 = .ok (.iconst 0, 1) := by decide +kernel
theorem dX7_absent_109 : decode cX7_absent 109 = .ok (.iload_n 2, 1) := by decide +kernel
theorem dX7_absent_110 : decode cX7_absent 110 = .ok (.invokevirtual 138, 3) := by decide +kernel
theorem dX7_absent_113 : decode cX7_absent 113 = .ok (.lconst 0, 1) := by decide +kernel
theorem dX7_absent_114 : decode cX7_absent 114 = .ok (.lcmp, 1) := by decide +kernel
theorem dX7_absent_115 : decode cX7_absent 115 = .ok (.ifCond .ne 5, 3) := by decide +kernel
theorem dX7_absent_118 : decode cX7_absent 118 = .ok (.iload_n 2, 1) := by decide +kernel
theorem dX7_absent_119 : decode cX7_absent 119 = .ok (.ireturn, 1) := by decide +kernel
theorem dX7_absent_120 : decode cX7_absent 120 = .ok (.iinc 3 1, 3) := by decide +kernel
theorem dX7_absent_123 : decode cX7_absent 123 = .ok (.goto (-78), 3) := by decide +kernel
theorem dX7_absent_126 : decode cX7_absent 126 = .ok (.iload_n 2, 1) := by decide +kernel
theorem dX7_absent_127 : decode cX7_absent 127 = .ok (.ireturn, 1) := by decide +kernel
set_option maxRecDepth 20000 in
theorem ggX7_missing_X7_in : GoodIn wsX7_missing wsX7_in := goodIn_r _ [6] rfl rfl
set_option maxRecDepth 20000 in
theorem gX7_missing_X7_in : GoodIn wsX7_missing (va_wsS RX7 85 yX7_in wsX7_in) := goodIn_app (goodIn_r _ [3, 4, 5] rfl rfl) ggX7_missing_X7_in
set_option maxRecDepth 20000 in
theorem ggX7_missing_X7_power : GoodIn wsX7_missing wsX7_power := goodIn_r _ [10, 11, 12, 22, 23, 24, 25, 26, 27, 28, 29, 30, 31, 32, 33, 34, 35] rfl rfl
set_option maxRecDepth 20000 in
theorem gX7_missing_X7_power : GoodIn wsX7_missing (wsV RX7 152 RX7 yX7_power wsX7_power) := goodIn_app (goodIn_r _ [7, 8, 9, 5] rfl rfl) ggX7_missing_X7_power
set_option maxRecDepth 20000 in
theorem ggX7_missing_X7_unlikeOf : GoodIn wsX7_missing wsX7_unlikeOf := goodIn_r _ [16, 17, 18, 19, 5, 20, 21, 22, 23, 24, 25, 26, 27, 28, 29, 30, 31, 32, 33, 34, 35] rfl rfl
set_option maxRecDepth 20000 in
theorem gX7_missing_X7_unlikeOf : GoodIn wsX7_missing (wsV RX7 149 RX7 yX7_unlikeOf wsX7_unlikeOf) := goodIn_app (goodIn_r _ [13, 14, 15, 5] rfl rfl) ggX7_missing_X7_unlikeOf
theorem dX7_missing_0 : decode cX7_missing 0 = .ok (.iload_n 1, 1) := by decide +kernel
theorem dX7_missing_1 : decode cX7_missing 1 = .ok (.iconst 0, 1) := by decide +kernel
theorem dX7_missing_2 : decode cX7_missing 2 = .ok (.bipush 60, 2) := by decide +kernel
theorem dX7_missing_4 : decode cX7_missing 4 = .ok (.invokestatic 85, 3) := by decide +kernel
theorem dX7_missing_7 : decode cX7_missing 7 = .ok (.ifCond .ne 5, 3) := by decide +kernel
theorem dX7_missing_10 : decode cX7_missing 10 = .ok (.iconst (-1), 1) := by decide +kernel
theorem dX7_missing_11 : decode cX7_missing 11 = .ok (.ireturn, 1) := by decide +kernel
theorem dX7_missing_12 : decode cX7_missing 12 = .ok (.aload_n 0, 1) := by decide +kernel
theorem dX7_missing_13 : decode cX7_missing 13 = .ok (.iload_n 1, 1) := by decide +kernel
theorem dX7_missing_14 : decode cX7_missing 14 = .ok (.invokevirtual 152, 3) := by decide +kernel
theorem dX7_missing_17 : decode cX7_missing 17 = .ok (.ldc2_w 102, 3) := by decide +kernel
theorem dX7_missing_20 : decode cX7_missing 20 = .ok (.lcmp, 1) := by decide +kernel
theorem dX7_missing_21 : decode cX7_missing 21 = .ok (.ifCond .le 8, 3) := by decide +kernel
theorem dX7_missing_24 : decode cX7_missing 24 = .ok (.bipush (-13), 2) := by decide +kernel
theorem dX7_missing_26 : decode cX7_missing 26 = .ok (.goto 28, 3) := by decide +kernel
theorem dX7_missing_29 : decode cX7_missing 29 = .ok (.iload_n 1, 1) := by decide +kernel
theorem dX7_missing_30 : decode cX7_missing 30 = .ok (.ifCond .ne 7, 3) := by decide +kernel
theorem dX7_missing_33 : decode cX7_missing 33 = .ok (.iconst 0, 1) := by decide +kernel
theorem dX7_missing_34 : decode cX7_missing 34 = .ok (.goto 20, 3) := by decide +kernel
theorem dX7_missing_37 : decode cX7_missing 37 = .ok (.aload_n 0, 1) := by decide +kernel
theorem dX7_missing_38 : decode cX7_missing 38 = .ok (.iload_n 1, 1) := by decide +kernel
theorem dX7_missing_39 : decode cX7_missing 39 = .ok (.invokevirtual 152, 3) := by decide +kernel
theorem dX7_missing_42 : decode cX7_missing 42 = .ok (.aload_n 0, 1) := by decide +kernel
theorem dX7_missing_43 : decode cX7_missing 43 = .ok (.iload_n 1, 1) := by decide +kernel
theorem dX7_missing_44 : decode cX7_missing 44 = .ok (.aload_n 0, 1) := by decide +kernel
theorem dX7_missing_45 : decode cX7_missing 45 = .ok (.getfield 56, 3) := by decide +kernel
theorem dX7_missing_48 : decode cX7_missing 48 = .ok (.invokevirtual 149, 3) := by decide +kernel
theorem dX7_missing_51 : decode cX7_missing 51 = .ok (.i2l, 1) := by decide +kernel
theorem dX7_missing_52 : decode cX7_missing 52 = .ok (.lsub, 1) := by decide +kernel
theorem dX7_missing_53 : decode cX7_missing 53 = .ok (.l2i, 1) := by decide +kernel
theorem dX7_missing_54 : decode cX7_missing 54 = .ok (.ireturn, 1) := by decide +kernel
theorem dX7_isAhead_0 : decode cX7_isAhead 0 = .ok (.iload_n 3, 1) := by decide +kernel
theorem dX7_isAhead_1 : decode cX7_isAhead 1 = .ok (.istore 4, 2) := by decide +kernel
theorem dX7_isAhead_3 : decode cX7_isAhead 3 = .ok (.iload 4, 2) := by decide +kernel
theorem dX7_isAhead_5 : decode cX7_isAhead 5 = .ok (.ifCond .le 30, 3) := by decide +kernel
theorem dX7_isAhead_8 : decode cX7_isAhead 8 = .ok (.aload_n 0, 1) := by decide +kernel
theorem dX7_isAhead_9 : decode cX7_isAhead 9 = .ok (.getfield 7, 3) := by decide +kernel
theorem dX7_isAhead_12 : decode cX7_isAhead 12 = .ok (.iload_n 1, 1) := by decide +kernel
theorem dX7_isAhead_13 : decode cX7_isAhead 13 = .ok (.iload 4, 2) := by decide +kernel
theorem dX7_isAhead_15 : decode cX7_isAhead 15 = .ok (.isub, 1) := by decide +kernel
theorem dX7_isAhead_16 : decode cX7_isAhead 16 = .ok (.iaload, 1) := by decide +kernel
theorem dX7_isAhead_17 : decode cX7_isAhead 17 = .ok (.aload_n 0, 1) := by decide +kernel
theorem dX7_isAhead_18 : decode cX7_isAhead 18 = .ok (.getfield 7, 3) := by decide +kernel
theorem dX7_isAhead_21 : decode cX7_isAhead 21 = .ok (.iload_n 2, 1) := by decide +kernel
theorem dX7_isAhead_22 : decode cX7_isAhead 22 = .ok (.iload 4, 2) := by decide +kernel
theorem dX7_isAhead_24 : decode cX7_isAhead 24 = .ok (.isub, 1) := by decide +kernel
theorem dX7_isAhead_25 : decode cX7_isAhead 25 = .ok (.iaload, 1) := by decide +kernel
theorem dX7_isAhead_26 : decode cX7_isAhead 26 = .ok (.if_icmp .ne 9, 3) := by decide +kernel
theorem dX7_isAhead_29 : decode cX7_isAhead 29 = .ok (.iinc 4 (-1), 3) := by decide +kernel
theorem dX7_isAhead_32 : decode cX7_isAhead 32 = .ok (.goto (-29), 3) := by decide +kernel
theorem dX7_isAhead_35 : decode cX7_isAhead 35 = .ok (.iload 4, 2) := by decide +kernel
theorem dX7_isAhead_37 : decode cX7_isAhead 37 = .ok (.ifCond .le 28, 3) := by decide +kernel
theorem dX7_isAhead_40 : decode cX7_isAhead 40 = .ok (.aload_n 0, 1) := by decide +kernel
theorem dX7_isAhead_41 : decode cX7_isAhead 41 = .ok (.getfield 7, 3) := by decide +kernel
theorem dX7_isAhead_44 : decode cX7_isAhead 44 = .ok (.iload_n 1, 1) := by decide +kernel
theorem dX7_isAhead_45 : decode cX7_isAhead 45 = .ok (.iload 4, 2) := by decide +kernel
theorem dX7_isAhead_47 : decode cX7_isAhead 47 = .ok (.isub, 1) := by decide +kernel
theorem dX7_isAhead_48 : decode cX7_isAhead 48 = .ok (.iaload, 1) := by decide +kernel
theorem dX7_isAhead_49 : decode cX7_isAhead 49 = .ok (.aload_n 0, 1) := by decide +kernel
theorem dX7_isAhead_50 : decode cX7_isAhead 50 = .ok (.getfield 7, 3) := by decide +kernel
theorem dX7_isAhead_53 : decode cX7_isAhead 53 = .ok (.iload_n 2, 1) := by decide +kernel
theorem dX7_isAhead_54 : decode cX7_isAhead 54 = .ok (.iload 4, 2) := by decide +kernel
theorem dX7_isAhead_56 : decode cX7_isAhead 56 = .ok (.isub, 1) := by decide +kernel
theorem dX7_isAhead_57 : decode cX7_isAhead 57 = .ok (.iaload, 1) := by decide +kernel
theorem dX7_isAhead_58 : decode cX7_isAhead 58 = .ok (.if_icmp .ge 7, 3) := by decide +kernel
theorem dX7_isAhead_61 : decode cX7_isAhead 61 = .ok (.iconst 1, 1) := by decide +kernel
theorem dX7_isAhead_62 : decode cX7_isAhead 62 = .ok (.goto 4, 3) := by decide +kernel
theorem dX7_isAhead_65 : decode cX7_isAhead 65 = .ok (.iconst 0, 1) := by decide +kernel
theorem dX7_isAhead_66 : decode cX7_isAhead 66 = .ok (.ireturn, 1) := by decide +kernel
set_option maxRecDepth 20000 in
theorem ggX7_often_X7_isSheet : GoodIn wsX7_often wsX7_isSheet := goodIn_r _ [8, 9, 10, 7, 11] rfl rfl
set_option maxRecDepth 20000 in
theorem gX7_often_X7_isSheet : GoodIn wsX7_often (va_wsS RX7 127 yX7_isSheet wsX7_isSheet) := goodIn_app (goodIn_r _ [5, 6, 7] rfl rfl) ggX7_often_X7_isSheet
set_option maxRecDepth 20000 in
theorem ggX7_often_X7_bits : GoodIn wsX7_often wsX7_bits := goodIn_r _ [14] rfl rfl
set_option maxRecDepth 20000 in
theorem gX7_often_X7_bits : GoodIn wsX7_often (va_wsS RX7 113 yX7_bits wsX7_bits) := goodIn_app (goodIn_r _ [12, 13, 7] rfl rfl) ggX7_often_X7_bits
set_option maxRecDepth 20000 in
theorem ggX7_often_X7_least : GoodIn wsX7_often wsX7_least := goodIn_r _ [17, 18, 19, 7, 20] rfl rfl
set_option maxRecDepth 20000 in
theorem gX7_often_X7_least : GoodIn wsX7_often (va_wsS RX7 78 yX7_least wsX7_least) := goodIn_app (goodIn_r _ [15, 16, 7] rfl rfl) ggX7_often_X7_least
set_option maxRecDepth 20000 in
theorem ggX7_often_X7_isAhead : GoodIn wsX7_often wsX7_isAhead := goodIn_r _ [24, 25, 32, 33, 34, 35, 36, 37, 38, 39, 40, 41, 42, 43, 44, 45] rfl rfl
set_option maxRecDepth 20000 in
theorem gX7_often_X7_isAhead : GoodIn wsX7_often (wsV RX7 156 RX7 yX7_isAhead wsX7_isAhead) := goodIn_app (goodIn_r _ [21, 22, 23, 7] rfl rfl) ggX7_often_X7_isAhead
set_option maxRecDepth 20000 in
theorem ggX7_often_X7_toSheet : GoodIn wsX7_often wsX7_toSheet := goodIn_r _ [29, 30, 31, 25, 32, 33, 34, 35, 36, 37, 38, 39, 40, 41, 42, 43, 44, 45] rfl rfl
set_option maxRecDepth 20000 in
theorem gX7_often_X7_toSheet : GoodIn wsX7_often (wsV RX7 159 RX7 yX7_toSheet wsX7_toSheet) := goodIn_app (goodIn_r _ [26, 27, 28, 7] rfl rfl) ggX7_often_X7_toSheet
theorem dX7_often_0 : decode cX7_often 0 = .ok (.iload_n 1, 1) := by decide +kernel
theorem dX7_often_1 : decode cX7_often 1 = .ok (.iconst 1, 1) := by decide +kernel
theorem dX7_often_2 : decode cX7_often 2 = .ok (.if_icmp .lt 10, 3) := by decide +kernel
theorem dX7_often_5 : decode cX7_often 5 = .ok (.iload_n 2, 1) := by decide +kernel
theorem dX7_often_6 : decode cX7_often 6 = .ok (.invokestatic 127, 3) := by decide +kernel
theorem dX7_often_9 : decode cX7_often 9 = .ok (.ifCond .ne 5, 3) := by decide +kernel
theorem dX7_often_12 : decode cX7_often 12 = .ok (.iconst (-1), 1) := by decide +kernel
theorem dX7_often_13 : decode cX7_often 13 = .ok (.ireturn, 1) := by decide +kernel
theorem dX7_often_14 : decode cX7_often 14 = .ok (.iload_n 1, 1) := by decide +kernel
theorem dX7_often_15 : decode cX7_often 15 = .ok (.aload_n 0, 1) := by decide +kernel
theorem dX7_often_16 : decode cX7_often 16 = .ok (.getfield 56, 3) := by decide +kernel
theorem dX7_often_19 : decode cX7_often 19 = .ok (.iconst 1, 1) := by decide +kernel
theorem dX7_often_20 : decode cX7_often 20 = .ok (.iadd, 1) := by decide +kernel
theorem dX7_often_21 : decode cX7_often 21 = .ok (.if_icmp .le 6, 3) := by decide +kernel
theorem dX7_often_24 : decode cX7_often 24 = .ok (.bipush (-4), 2) := by decide +kernel
theorem dX7_often_26 : decode cX7_often 26 = .ok (.ireturn, 1) := by decide +kernel
theorem dX7_often_27 : decode cX7_often 27 = .ok (.iconst 0, 1) := by decide +kernel
theorem dX7_often_28 : decode cX7_often 28 = .ok (.istore_n 3, 1) := by decide +kernel
theorem dX7_often_29 : decode cX7_often 29 = .ok (.iconst 1, 1) := by decide +kernel
theorem dX7_often_30 : decode cX7_often 30 = .ok (.istore 4, 2) := by decide +kernel
theorem dX7_often_32 : decode cX7_often 32 = .ok (.iload 4, 2) := by decide +kernel
theorem dX7_often_34 : decode cX7_often 34 = .ok (.aload_n 0, 1) := by decide +kernel
theorem dX7_often_35 : decode cX7_often 35 = .ok (.getfield 59, 3) := by decide +kernel
theorem dX7_often_38 : decode cX7_often 38 = .ok (.if_icmp .ge 119, 3) := by decide +kernel
theorem dX7_often_41 : decode cX7_often 41 = .ok (.aload_n 0, 1) := by decide +kernel
theorem dX7_often_42 : decode cX7_often 42 = .ok (.getfield 22, 3) := by decide +kernel
theorem dX7_often_45 : decode cX7_often 45 = .ok (.iload 4, 2) := by decide +kernel
theorem dX7_often_47 : decode cX7_often 47 = .ok (.laload, 1) := by decide +kernel
theorem dX7_often_48 : decode cX7_often 48 = .ok (.invokestatic 113, 3) := by decide +kernel
theorem dX7_often_51 : decode cX7_often 51 = .ok (.iload_n 1, 1) := by decide +kernel
theorem dX7_often_52 : decode cX7_often 52 = .ok (.if_icmp .lt 7, 3) := by decide +kernel
theorem dX7_often_55 : decode cX7_often 55 = .ok (.iconst 1, 1) := by decide +kernel
theorem dX7_often_56 : decode cX7_often 56 = .ok (.goto 4, 3) := by decide +kernel
theorem dX7_often_59 : decode cX7_often 59 = .ok (.iconst 0, 1) := by decide +kernel
theorem dX7_often_60 : decode cX7_often 60 = .ok (.istore 5, 2) := by decide +kernel
theorem dX7_often_62 : decode cX7_often 62 = .ok (.aload_n 0, 1) := by decide +kernel
theorem dX7_often_63 : decode cX7_often 63 = .ok (.getfield 13, 3) := by decide +kernel
theorem dX7_often_66 : decode cX7_often 66 = .ok (.iload 4, 2) := by decide +kernel
theorem dX7_often_68 : decode cX7_often 68 = .ok (.iaload, 1) := by decide +kernel
theorem dX7_often_69 : decode cX7_often 69 = .ok (.aload_n 0, 1) := by decide +kernel
theorem dX7_often_70 : decode cX7_often 70 = .ok (.getfield 13, 3) := by decide +kernel
theorem dX7_often_73 : decode cX7_often 73 = .ok (.iload_n 3, 1) := by decide +kernel
theorem dX7_often_74 : decode cX7_often 74 = .ok (.iaload, 1) := by decide +kernel
theorem dX7_often_75 : decode cX7_often 75 = .ok (.if_icmp .ne 40, 3) := by decide +kernel
theorem dX7_often_78 : decode cX7_often 78 = .ok (.aload_n 0, 1) := by decide +kernel
theorem dX7_often_79 : decode cX7_often 79 = .ok (.aload_n 0, 1) := by decide +kernel
theorem dX7_often_80 : decode cX7_often 80 = .ok (.getfield 22, 3) := by decide +kernel
theorem dX7_often_83 : decode cX7_often 83 = .ok (.iload 4, 2) := by decide +kernel
theorem dX7_often_85 : decode cX7_often 85 = .ok (.laload, 1) := by decide +kernel
theorem dX7_often_86 : decode cX7_often 86 = .ok (.invokestatic 78, 3) := by decide +kernel
theorem dX7_often_89 : decode cX7_often 89 = .ok (.aload_n 0, 1) := by decide +kernel
theorem dX7_often_90 : decode cX7_often 90 = .ok (.getfield 22, 3) := by decide +kernel
theorem dX7_often_93 : decode cX7_often 93 = .ok (.iload_n 3, 1) := by decide +kernel
theorem dX7_often_94 : decode cX7_often 94 = .ok (.laload, 1) := by decide +kernel
theorem dX7_often_95 : decode cX7_often 95 = .ok (.invokestatic 78, 3) := by decide +kernel
theorem dX7_often_98 : decode cX7_often 98 = .ok (.aload_n 0, 1) := by decide +kernel
theorem dX7_often_99 : decode cX7_often 99 = .ok (.getfield 13, 3) := by decide +kernel
theorem dX7_often_102 : decode cX7_often 102 = .ok (.iload 4, 2) := by decide +kernel
theorem dX7_often_104 : decode cX7_often 104 = .ok (.iaload, 1) := by decide +kernel
theorem dX7_often_105 : decode cX7_often 105 = .ok (.invokevirtual 156, 3) := by decide +kernel
theorem dX7_often_108 : decode cX7_often 108 = .ok (.ifCond .eq 7, 3) := by decide +kernel
theorem dX7_often_111 : decode cX7_often 111 = .ok (.iconst 1, 1) := by decide +kernel
theorem dX7_often_112 : decode cX7_often 112 = .ok (.goto 4, 3) := by decide +kernel
theorem dX7_often_115 : decode cX7_often 115 = .ok (.iconst 0, 1) := by decide +kernel
theorem dX7_often_116 : decode cX7_often 116 = .ok (.istore 6, 2) := by decide +kernel
theorem dX7_often_118 : decode cX7_often 118 = .ok (.iload 5, 2) := by decide +kernel
theorem dX7_often_120 : decode cX7_often 120 = .ok (.ifCond .eq 29, 3) := by decide +kernel
theorem dX7_often_123 : decode cX7_often 123 = .ok (.aload_n 0, 1) := by decide +kernel
theorem dX7_often_124 : decode cX7_often 124 = .ok (.getfield 13, 3) := by decide +kernel
theorem dX7_often_127 : decode cX7_often 127 = .ok (.iload 4, 2) := by decide +kernel
theorem dX7_often_129 : decode cX7_often 129 = .ok (.iaload, 1) := by decide +kernel
theorem dX7_often_130 : decode cX7_often 130 = .ok (.aload_n 0, 1) := by decide +kernel
theorem dX7_often_131 : decode cX7_often 131 = .ok (.getfield 13, 3) := by decide +kernel
theorem dX7_often_134 : decode cX7_often 134 = .ok (.iload_n 3, 1) := by decide +kernel
theorem dX7_often_135 : decode cX7_often 135 = .ok (.iaload, 1) := by decide +kernel
theorem dX7_often_136 : decode cX7_often 136 = .ok (.if_icmp .gt 8, 3) := by decide +kernel
theorem dX7_often_139 : decode cX7_often 139 = .ok (.iload 6, 2) := by decide +kernel
theorem dX7_often_141 : decode cX7_often 141 = .ok (.ifCond .eq 8, 3) := by decide +kernel
theorem dX7_often_144 : decode cX7_often 144 = .ok (.iload 4, 2) := by decide +kernel
theorem dX7_often_146 : decode cX7_often 146 = .ok (.goto 4, 3) := by decide +kernel
theorem dX7_often_149 : decode cX7_often 149 = .ok (.iload_n 3, 1) := by decide +kernel
theorem dX7_often_150 : decode cX7_often 150 = .ok (.istore_n 3, 1) := by decide +kernel
theorem dX7_often_151 : decode cX7_often 151 = .ok (.iinc 4 1, 3) := by decide +kernel
theorem dX7_often_154 : decode cX7_often 154 = .ok (.goto (-122), 3) := by decide +kernel
theorem dX7_often_157 : decode cX7_often 157 = .ok (.aload_n 0, 1) := by decide +kernel
theorem dX7_often_158 : decode cX7_often 158 = .ok (.aload_n 0, 1) := by decide +kernel
theorem dX7_often_159 : decode cX7_often 159 = .ok (.getfield 22, 3) := by decide +kernel
theorem dX7_often_162 : decode cX7_often 162 = .ok (.iload_n 3, 1) := by decide +kernel
theorem dX7_often_163 : decode cX7_often 163 = .ok (.laload, 1) := by decide +kernel
theorem dX7_often_164 : decode cX7_often 164 = .ok (.invokestatic 78, 3) := by decide +kernel
theorem dX7_often_167 : decode cX7_often 167 = .ok (.aload_n 0, 1) := by decide +kernel
theorem dX7_often_168 : decode cX7_often 168 = .ok (.getfield 13, 3) := by decide +kernel
theorem dX7_often_171 : decode cX7_often 171 = .ok (.iload_n 3, 1) := by decide +kernel
theorem dX7_often_172 : decode cX7_often 172 = .ok (.iaload, 1) := by decide +kernel
theorem dX7_often_173 : decode cX7_often 173 = .ok (.iload_n 2, 1) := by decide +kernel
theorem dX7_often_174 : decode cX7_often 174 = .ok (.invokevirtual 159, 3) := by decide +kernel
theorem dX7_often_177 : decode cX7_often 177 = .ok (.ireturn, 1) := by decide +kernel
set_option maxRecDepth 20000 in
theorem ggX7_twice_X7_in : GoodIn wsX7_twice wsX7_in := goodIn_r _ [5] rfl rfl
set_option maxRecDepth 20000 in
theorem gX7_twice_X7_in : GoodIn wsX7_twice (va_wsS RX7 85 yX7_in wsX7_in) := goodIn_app (goodIn_r _ [2, 3, 4] rfl rfl) ggX7_twice_X7_in
set_option maxRecDepth 20000 in
theorem ggX7_twice_X7_againAt : GoodIn wsX7_twice wsX7_againAt := goodIn_r _ [9, 10, 11, 12, 4, 13, 14, 15, 16, 17, 18, 19, 20, 21, 22, 23, 24, 25, 26, 27, 28] rfl rfl
set_option maxRecDepth 20000 in
theorem gX7_twice_X7_againAt : GoodIn wsX7_twice (wsV RX7 66 RX7 yX7_againAt wsX7_againAt) := goodIn_app (goodIn_r _ [6, 7, 8, 4] rfl rfl) ggX7_twice_X7_againAt
theorem dX7_twice_0 : decode cX7_twice 0 = .ok (.iload_n 1, 1) := by decide +kernel
theorem dX7_twice_1 : decode cX7_twice 1 = .ok (.iconst 1, 1) := by decide +kernel
theorem dX7_twice_2 : decode cX7_twice 2 = .ok (.bipush 60, 2) := by decide +kernel
theorem dX7_twice_4 : decode cX7_twice 4 = .ok (.invokestatic 85, 3) := by decide +kernel
theorem dX7_twice_7 : decode cX7_twice 7 = .ok (.ifCond .ne 5, 3) := by decide +kernel
theorem dX7_twice_10 : decode cX7_twice 10 = .ok (.iconst (-1), 1) := by decide +kernel
theorem dX7_twice_11 : decode cX7_twice 11 = .ok (.ireturn, 1) := by decide +kernel
theorem dX7_twice_12 : decode cX7_twice 12 = .ok (.iload_n 1, 1) := by decide +kernel
theorem dX7_twice_13 : decode cX7_twice 13 = .ok (.iconst 1, 1) := by decide +kernel
theorem dX7_twice_14 : decode cX7_twice 14 = .ok (.iadd, 1) := by decide +kernel
theorem dX7_twice_15 : decode cX7_twice 15 = .ok (.istore_n 2, 1) := by decide +kernel
theorem dX7_twice_16 : decode cX7_twice 16 = .ok (.iload_n 2, 1) := by decide +kernel
theorem dX7_twice_17 : decode cX7_twice 17 = .ok (.aload_n 0, 1) := by decide +kernel
theorem dX7_twice_18 : decode cX7_twice 18 = .ok (.getfield 56, 3) := by decide +kernel
theorem dX7_twice_21 : decode cX7_twice 21 = .ok (.if_icmp .gt 20, 3) := by decide +kernel
theorem dX7_twice_24 : decode cX7_twice 24 = .ok (.aload_n 0, 1) := by decide +kernel
theorem dX7_twice_25 : decode cX7_twice 25 = .ok (.iload_n 2, 1) := by decide +kernel
theorem dX7_twice_26 : decode cX7_twice 26 = .ok (.invokevirtual 66, 3) := by decide +kernel
theorem dX7_twice_29 : decode cX7_twice 29 = .ok (.iload_n 1, 1) := by decide +kernel
theorem dX7_twice_30 : decode cX7_twice 30 = .ok (.if_icmp .lt 5, 3) := by decide +kernel
theorem dX7_twice_33 : decode cX7_twice 33 = .ok (.iload_n 2, 1) := by decide +kernel
theorem dX7_twice_34 : decode cX7_twice 34 = .ok (.ireturn, 1) := by decide +kernel
theorem dX7_twice_35 : decode cX7_twice 35 = .ok (.iinc 2 1, 3) := by decide +kernel
theorem dX7_twice_38 : decode cX7_twice 38 = .ok (.goto (-22), 3) := by decide +kernel
theorem dX7_twice_41 : decode cX7_twice 41 = .ok (.bipush (-4), 2) := by decide +kernel
theorem dX7_twice_43 : decode cX7_twice 43 = .ok (.ireturn, 1) := by decide +kernel
set_option maxRecDepth 20000 in
theorem ggX7_unlike_X7_in : GoodIn wsX7_unlike wsX7_in := goodIn_r _ [5] rfl rfl
set_option maxRecDepth 20000 in
theorem gX7_unlike_X7_in : GoodIn wsX7_unlike (va_wsS RX7 85 yX7_in wsX7_in) := goodIn_app (goodIn_r _ [2, 3, 4] rfl rfl) ggX7_unlike_X7_in
set_option maxRecDepth 20000 in
theorem ggX7_unlike_X7_unlikeOf : GoodIn wsX7_unlike wsX7_unlikeOf := goodIn_r _ [9, 10, 11, 12, 4, 13, 14, 15, 16, 17, 18, 19, 20, 21, 22, 23, 24, 25, 26, 27, 28] rfl rfl
set_option maxRecDepth 20000 in
theorem gX7_unlike_X7_unlikeOf : GoodIn wsX7_unlike (wsV RX7 149 RX7 yX7_unlikeOf wsX7_unlikeOf) := goodIn_app (goodIn_r _ [6, 7, 8, 4] rfl rfl) ggX7_unlike_X7_unlikeOf
theorem dX7_unlike_0 : decode cX7_unlike 0 = .ok (.iload_n 1, 1) := by decide +kernel
theorem dX7_unlike_1 : decode cX7_unlike 1 = .ok (.iconst 0, 1) := by decide +kernel
theorem dX7_unlike_2 : decode cX7_unlike 2 = .ok (.aload_n 0, 1) := by decide +kernel
theorem dX7_unlike_3 : decode cX7_unlike 3 = .ok (.getfield 56, 3) := by decide +kernel
theorem dX7_unlike_6 : decode cX7_unlike 6 = .ok (.invokestatic 85, 3) := by decide +kernel
theorem dX7_unlike_9 : decode cX7_unlike 9 = .ok (.ifCond .ne 5, 3) := by decide +kernel
theorem dX7_unlike_12 : decode cX7_unlike 12 = .ok (.iconst (-1), 1) := by decide +kernel
theorem dX7_unlike_13 : decode cX7_unlike 13 = .ok (.ireturn, 1) := by decide +kernel
theorem dX7_unlike_14 : decode cX7_unlike 14 = .ok (.iconst 0, 1) := by decide +kernel
theorem dX7_unlike_15 : decode cX7_unlike 15 = .ok (.istore_n 2, 1) := by decide +kernel
theorem dX7_unlike_16 : decode cX7_unlike 16 = .ok (.iconst 1, 1) := by decide +kernel
theorem dX7_unlike_17 : decode cX7_unlike 17 = .ok (.istore_n 3, 1) := by decide +kernel
theorem dX7_unlike_18 : decode cX7_unlike 18 = .ok (.iload_n 3, 1) := by decide +kernel
theorem dX7_unlike_19 : decode cX7_unlike 19 = .ok (.iload_n 1, 1) := by decide +kernel
theorem dX7_unlike_20 : decode cX7_unlike 20 = .ok (.if_icmp .gt 18, 3) := by decide +kernel
theorem dX7_unlike_23 : decode cX7_unlike 23 = .ok (.iload_n 2, 1) := by decide +kernel
theorem dX7_unlike_24 : decode cX7_unlike 24 = .ok (.aload_n 0, 1) := by decide +kernel
theorem dX7_unlike_25 : decode cX7_unlike 25 = .ok (.iload_n 3, 1) := by decide +kernel
theorem dX7_unlike_26 : decode cX7_unlike 26 = .ok (.iload_n 1, 1) := by decide +kernel
theorem dX7_unlike_27 : decode cX7_unlike 27 = .ok (.invokevirtual 149, 3) := by decide +kernel
theorem dX7_unlike_30 : decode cX7_unlike 30 = .ok (.iadd, 1) := by decide +kernel
theorem dX7_unlike_31 : decode cX7_unlike 31 = .ok (.istore_n 2, 1) := by decide +kernel
theorem dX7_unlike_32 : decode cX7_unlike 32 = .ok (.iinc 3 1, 3) := by decide +kernel
theorem dX7_unlike_35 : decode cX7_unlike 35 = .ok (.goto (-17), 3) := by decide +kernel
theorem dX7_unlike_38 : decode cX7_unlike 38 = .ok (.iload_n 2, 1) := by decide +kernel
theorem dX7_unlike_39 : decode cX7_unlike 39 = .ok (.ireturn, 1) := by decide +kernel
set_option maxRecDepth 20000 in
theorem ggX7_single_X7_isSheet : GoodIn wsX7_single wsX7_isSheet := goodIn_r _ [7, 8, 9, 6, 10] rfl rfl
set_option maxRecDepth 20000 in
theorem gX7_single_X7_isSheet : GoodIn wsX7_single (va_wsS RX7 127 yX7_isSheet wsX7_isSheet) := goodIn_app (goodIn_r _ [4, 5, 6] rfl rfl) ggX7_single_X7_isSheet
set_option maxRecDepth 20000 in
theorem ggX7_single_X7_bits : GoodIn wsX7_single wsX7_bits := goodIn_r _ [13] rfl rfl
set_option maxRecDepth 20000 in
theorem gX7_single_X7_bits : GoodIn wsX7_single (va_wsS RX7 113 yX7_bits wsX7_bits) := goodIn_app (goodIn_r _ [11, 12, 6] rfl rfl) ggX7_single_X7_bits
set_option maxRecDepth 20000 in
theorem ggX7_single_X7_shortest : GoodIn wsX7_single wsX7_shortest := goodIn_r _ [17, 18, 19, 20, 21, 6, 22, 2, 3, 40, 41, 42, 43, 44, 45, 46, 47, 48, 49, 50, 51, 52, 53] rfl rfl
set_option maxRecDepth 20000 in
theorem gX7_single_X7_shortest : GoodIn wsX7_single (wsV RX7 110 RX7 yX7_shortest wsX7_shortest) := goodIn_app (goodIn_r _ [14, 15, 16, 6] rfl rfl) ggX7_single_X7_shortest
set_option maxRecDepth 20000 in
theorem ggX7_single_X7_least : GoodIn wsX7_single wsX7_least := goodIn_r _ [25, 26, 27, 6, 28] rfl rfl
set_option maxRecDepth 20000 in
theorem gX7_single_X7_least : GoodIn wsX7_single (va_wsS RX7 78 yX7_least wsX7_least) := goodIn_app (goodIn_r _ [23, 24, 6] rfl rfl) ggX7_single_X7_least
set_option maxRecDepth 20000 in
theorem ggX7_single_X7_isAhead : GoodIn wsX7_single wsX7_isAhead := goodIn_r _ [32, 33, 40, 41, 42, 43, 44, 45, 46, 47, 48, 49, 50, 51, 52, 53] rfl rfl
set_option maxRecDepth 20000 in
theorem gX7_single_X7_isAhead : GoodIn wsX7_single (wsV RX7 156 RX7 yX7_isAhead wsX7_isAhead) := goodIn_app (goodIn_r _ [29, 30, 31, 6] rfl rfl) ggX7_single_X7_isAhead
set_option maxRecDepth 20000 in
theorem ggX7_single_X7_toSheet : GoodIn wsX7_single wsX7_toSheet := goodIn_r _ [37, 38, 39, 33, 40, 41, 42, 43, 44, 45, 46, 47, 48, 49, 50, 51, 52, 53] rfl rfl
set_option maxRecDepth 20000 in
theorem gX7_single_X7_toSheet : GoodIn wsX7_single (wsV RX7 159 RX7 yX7_toSheet wsX7_toSheet) := goodIn_app (goodIn_r _ [34, 35, 36, 6] rfl rfl) ggX7_single_X7_toSheet
theorem dX7_single_0 : decode cX7_single 0 = .ok (.iload_n 1, 1) := by decide +kernel
theorem dX7_single_1 : decode cX7_single 1 = .ok (.invokestatic 127, 3) := by decide +kernel
theorem dX7_single_4 : decode cX7_single 4 = .ok (.ifCond .ne 5, 3) := by decide +kernel
theorem dX7_single_7 : decode cX7_single 7 = .ok (.iconst (-1), 1) := by decide +kernel
theorem dX7_single_8 : decode cX7_single 8 = .ok (.ireturn, 1) := by decide +kernel
theorem dX7_single_9 : decode cX7_single 9 = .ok (.iconst 0, 1) := by decide +kernel
theorem dX7_single_10 : decode cX7_single 10 = .ok (.istore_n 2, 1) := by decide +kernel
theorem dX7_single_11 : decode cX7_single 11 = .ok (.aload_n 0, 1) := by decide +kernel
theorem dX7_single_12 : decode cX7_single 12 = .ok (.getfield 56, 3) := by decide +kernel
theorem dX7_single_15 : decode cX7_single 15 = .ok (.iconst 1, 1) := by decide +kernel
theorem dX7_single_16 : decode cX7_single 16 = .ok (.iadd, 1) := by decide +kernel
theorem dX7_single_17 : decode cX7_single 17 = .ok (.istore_n 3, 1) := by decide +kernel
theorem dX7_single_18 : decode cX7_single 18 = .ok (.iconst 0, 1) := by decide +kernel
theorem dX7_single_19 : decode cX7_single 19 = .ok (.istore 4, 2) := by decide +kernel
theorem dX7_single_21 : decode cX7_single 21 = .ok (.iload 4, 2) := by decide +kernel
theorem dX7_single_23 : decode cX7_single 23 = .ok (.aload_n 0, 1) := by decide +kernel
theorem dX7_single_24 : decode cX7_single 24 = .ok (.getfield 59, 3) := by decide +kernel
theorem dX7_single_27 : decode cX7_single 27 = .ok (.if_icmp .ge 102, 3) := by decide +kernel
theorem dX7_single_30 : decode cX7_single 30 = .ok (.aload_n 0, 1) := by decide +kernel
theorem dX7_single_31 : decode cX7_single 31 = .ok (.getfield 22, 3) := by decide +kernel
theorem dX7_single_34 : decode cX7_single 34 = .ok (.iload 4, 2) := by decide +kernel
theorem dX7_single_36 : decode cX7_single 36 = .ok (.laload, 1) := by decide +kernel
theorem dX7_single_37 : decode cX7_single 37 = .ok (.invokestatic 113, 3) := by decide +kernel
theorem dX7_single_40 : decode cX7_single 40 = .ok (.iconst 1, 1) := by decide +kernel
theorem dX7_single_41 : decode cX7_single 41 = .ok (.if_icmp .ne 82, 3) := by decide +kernel
theorem dX7_single_44 : decode cX7_single 44 = .ok (.aload_n 0, 1) := by decide +kernel
theorem dX7_single_45 : decode cX7_single 45 = .ok (.iload 4, 2) := by decide +kernel
theorem dX7_single_47 : decode cX7_single 47 = .ok (.invokevirtual 110, 3) := by decide +kernel
theorem dX7_single_50 : decode cX7_single 50 = .ok (.istore 5, 2) := by decide +kernel
theorem dX7_single_52 : decode cX7_single 52 = .ok (.iload 5, 2) := by decide +kernel
theorem dX7_single_54 : decode cX7_single 54 = .ok (.iload_n 3, 1) := by decide +kernel
theorem dX7_single_55 : decode cX7_single 55 = .ok (.if_icmp .lt 37, 3) := by decide +kernel
theorem dX7_single_58 : decode cX7_single 58 = .ok (.iload 5, 2) := by decide +kernel
theorem dX7_single_60 : decode cX7_single 60 = .ok (.iload_n 3, 1) := by decide +kernel
theorem dX7_single_61 : decode cX7_single 61 = .ok (.if_icmp .ne 35, 3) := by decide +kernel
theorem dX7_single_64 : decode cX7_single 64 = .ok (.aload_n 0, 1) := by decide +kernel
theorem dX7_single_65 : decode cX7_single 65 = .ok (.aload_n 0, 1) := by decide +kernel
theorem dX7_single_66 : decode cX7_single 66 = .ok (.getfield 22, 3) := by decide +kernel
theorem dX7_single_69 : decode cX7_single 69 = .ok (.iload 4, 2) := by decide +kernel
theorem dX7_single_71 : decode cX7_single 71 = .ok (.laload, 1) := by decide +kernel
theorem dX7_single_72 : decode cX7_single 72 = .ok (.invokestatic 78, 3) := by decide +kernel
theorem dX7_single_75 : decode cX7_single 75 = .ok (.aload_n 0, 1) := by decide +kernel
theorem dX7_single_76 : decode cX7_single 76 = .ok (.getfield 22, 3) := by decide +kernel
theorem dX7_single_79 : decode cX7_single 79 = .ok (.iload_n 2, 1) := by decide +kernel
theorem dX7_single_80 : decode cX7_single 80 = .ok (.laload, 1) := by decide +kernel
theorem dX7_single_81 : decode cX7_single 81 = .ok (.invokestatic 78, 3) := by decide +kernel
theorem dX7_single_84 : decode cX7_single 84 = .ok (.iload 5, 2) := by decide +kernel
theorem dX7_single_86 : decode cX7_single 86 = .ok (.invokevirtual 156, 3) := by decide +kernel
theorem dX7_single_89 : decode cX7_single 89 = .ok (.ifCond .eq 7, 3) := by decide +kernel
theorem dX7_single_92 : decode cX7_single 92 = .ok (.iconst 1, 1) := by decide +kernel
theorem dX7_single_93 : decode cX7_single 93 = .ok (.goto 4, 3) := by decide +kernel
theorem dX7_single_96 : decode cX7_single 96 = .ok (.iconst 0, 1) := by decide +kernel
theorem dX7_single_97 : decode cX7_single 97 = .ok (.istore 6, 2) := by decide +kernel
theorem dX7_single_99 : decode cX7_single 99 = .ok (.iload 6, 2) := by decide +kernel
theorem dX7_single_101 : decode cX7_single 101 = .ok (.ifCond .eq 8, 3) := by decide +kernel
theorem dX7_single_104 : decode cX7_single 104 = .ok (.iload 4, 2) := by decide +kernel
theorem dX7_single_106 : decode cX7_single 106 = .ok (.goto 4, 3) := by decide +kernel
theorem dX7_single_109 : decode cX7_single 109 = .ok (.iload_n 2, 1) := by decide +kernel
theorem dX7_single_110 : decode cX7_single 110 = .ok (.istore_n 2, 1) := by decide +kernel
theorem dX7_single_111 : decode cX7_single 111 = .ok (.iload 6, 2) := by decide +kernel
theorem dX7_single_113 : decode cX7_single 113 = .ok (.ifCond .eq 8, 3) := by decide +kernel
theorem dX7_single_116 : decode cX7_single 116 = .ok (.iload 5, 2) := by decide +kernel
theorem dX7_single_118 : decode cX7_single 118 = .ok (.goto 4, 3) := by decide +kernel
theorem dX7_single_121 : decode cX7_single 121 = .ok (.iload_n 3, 1) := by decide +kernel
theorem dX7_single_122 : decode cX7_single 122 = .ok (.istore_n 3, 1) := by decide +kernel
theorem dX7_single_123 : decode cX7_single 123 = .ok (.iinc 4 1, 3) := by decide +kernel
theorem dX7_single_126 : decode cX7_single 126 = .ok (.goto (-105), 3) := by decide +kernel
theorem dX7_single_129 : decode cX7_single 129 = .ok (.aload_n 0, 1) := by decide +kernel
theorem dX7_single_130 : decode cX7_single 130 = .ok (.aload_n 0, 1) := by decide +kernel
theorem dX7_single_131 : decode cX7_single 131 = .ok (.getfield 22, 3) := by decide +kernel
theorem dX7_single_134 : decode cX7_single 134 = .ok (.iload_n 2, 1) := by decide +kernel
theorem dX7_single_135 : decode cX7_single 135 = .ok (.laload, 1) := by decide +kernel
theorem dX7_single_136 : decode cX7_single 136 = .ok (.invokestatic 78, 3) := by decide +kernel
theorem dX7_single_139 : decode cX7_single 139 = .ok (.iload_n 3, 1) := by decide +kernel
theorem dX7_single_140 : decode cX7_single 140 = .ok (.iload_n 1, 1) := by decide +kernel
theorem dX7_single_141 : decode cX7_single 141 = .ok (.invokevirtual 159, 3) := by decide +kernel
theorem dX7_single_144 : decode cX7_single 144 = .ok (.ireturn, 1) := by decide +kernel
set_option maxRecDepth 20000 in
theorem ggX7_gapOf_X7_has : GoodIn wsX7_gapOf wsX7_has := goodIn_r _ [4] rfl rfl
set_option maxRecDepth 20000 in
theorem gX7_gapOf_X7_has : GoodIn wsX7_gapOf (va_wsS RX7 48 yX7_has wsX7_has) := goodIn_app (goodIn_r _ [1, 2, 3] rfl rfl) ggX7_gapOf_X7_has
theorem dX7_gapOf_0 : decode cX7_gapOf 0 = .ok (.bipush (-4), 2) := by decide +kernel
theorem dX7_gapOf_2 : decode cX7_gapOf 2 = .ok (.istore_n 2, 1) := by decide +kernel
theorem dX7_gapOf_3 : decode cX7_gapOf 3 = .ok (.bipush (-4), 2) := by decide +kernel
theorem dX7_gapOf_5 : decode cX7_gapOf 5 = .ok (.istore_n 3, 1) := by decide +kernel
theorem dX7_gapOf_6 : decode cX7_gapOf 6 = .ok (.iconst 0, 1) := by decide +kernel
theorem dX7_gapOf_7 : decode cX7_gapOf 7 = .ok (.istore 4, 2) := by decide +kernel
theorem dX7_gapOf_9 : decode cX7_gapOf 9 = .ok (.iload 4, 2) := by decide +kernel
theorem dX7_gapOf_11 : decode cX7_gapOf 11 = .ok (.bipush 60, 2) := by decide +kernel
theorem dX7_gapOf_13 : decode cX7_gapOf 13 = .ok (.if_icmp .gt 44, 3) := by decide +kernel
theorem dX7_gapOf_16 : decode cX7_gapOf 16 = .ok (.lload_n 0, 1) := by decide +kernel
theorem dX7_gapOf_17 : decode cX7_gapOf 17 = .ok (.iload 4, 2) := by decide +kernel
theorem dX7_gapOf_19 : decode cX7_gapOf 19 = .ok (.invokestatic 48, 3) := by decide +kernel
theorem dX7_gapOf_22 : decode cX7_gapOf 22 = .ok (.ifCond .eq 29, 3) := by decide +kernel
theorem dX7_gapOf_25 : decode cX7_gapOf 25 = .ok (.iload_n 2, 1) := by decide +kernel
theorem dX7_gapOf_26 : decode cX7_gapOf 26 = .ok (.bipush (-4), 2) := by decide +kernel
theorem dX7_gapOf_28 : decode cX7_gapOf 28 = .ok (.if_icmp .eq 18, 3) := by decide +kernel
theorem dX7_gapOf_31 : decode cX7_gapOf 31 = .ok (.iload 4, 2) := by decide +kernel
theorem dX7_gapOf_33 : decode cX7_gapOf 33 = .ok (.iload_n 2, 1) := by decide +kernel
theorem dX7_gapOf_34 : decode cX7_gapOf 34 = .ok (.isub, 1) := by decide +kernel
theorem dX7_gapOf_35 : decode cX7_gapOf 35 = .ok (.iload_n 3, 1) := by decide +kernel
theorem dX7_gapOf_36 : decode cX7_gapOf 36 = .ok (.if_icmp .le 10, 3) := by decide +kernel
theorem dX7_gapOf_39 : decode cX7_gapOf 39 = .ok (.iload 4, 2) := by decide +kernel
theorem dX7_gapOf_41 : decode cX7_gapOf 41 = .ok (.iload_n 2, 1) := by decide +kernel
theorem dX7_gapOf_42 : decode cX7_gapOf 42 = .ok (.isub, 1) := by decide +kernel
theorem dX7_gapOf_43 : decode cX7_gapOf 43 = .ok (.goto 4, 3) := by decide +kernel
theorem dX7_gapOf_46 : decode cX7_gapOf 46 = .ok (.iload_n 3, 1) := by decide +kernel
theorem dX7_gapOf_47 : decode cX7_gapOf 47 = .ok (.istore_n 3, 1) := by decide +kernel
theorem dX7_gapOf_48 : decode cX7_gapOf 48 = .ok (.iload 4, 2) := by decide +kernel
theorem dX7_gapOf_50 : decode cX7_gapOf 50 = .ok (.istore_n 2, 1) := by decide +kernel
theorem dX7_gapOf_51 : decode cX7_gapOf 51 = .ok (.iinc 4 1, 3) := by decide +kernel
theorem dX7_gapOf_54 : decode cX7_gapOf 54 = .ok (.goto (-45), 3) := by decide +kernel
theorem dX7_gapOf_57 : decode cX7_gapOf 57 = .ok (.iload_n 3, 1) := by decide +kernel
theorem dX7_gapOf_58 : decode cX7_gapOf 58 = .ok (.ireturn, 1) := by decide +kernel
set_option maxRecDepth 20000 in
theorem ggX7_gap_X7_need : GoodIn wsX7_gap wsX7_need := goodIn_r _ [6, 1, 7, 8, 5, 9, 10, 11, 12, 34, 35, 36, 37, 38, 39, 40, 41, 42, 43, 44, 45, 46, 47] rfl rfl
set_option maxRecDepth 20000 in
theorem gX7_gap_X7_need : GoodIn wsX7_gap (wsV RX7 131 RX7 yX7_need wsX7_need) := goodIn_app (goodIn_r _ [2, 3, 4, 5] rfl rfl) ggX7_gap_X7_need
set_option maxRecDepth 20000 in
theorem ggX7_gap_X7_endsIn : GoodIn wsX7_gap wsX7_endsIn := goodIn_r _ [16, 17, 18, 19, 20, 5, 21, 22, 23, 24, 25, 26, 27, 28, 29, 30, 34, 35, 36, 37, 38, 39, 40, 41, 42, 43, 44, 45, 46, 47] rfl rfl
set_option maxRecDepth 20000 in
theorem gX7_gap_X7_endsIn : GoodIn wsX7_gap (wsV RX7 138 RX7 yX7_endsIn wsX7_endsIn) := goodIn_app (goodIn_r _ [13, 14, 15, 5] rfl rfl) ggX7_gap_X7_endsIn
set_option maxRecDepth 20000 in
theorem ggX7_gap_X7_gapOf : GoodIn wsX7_gap wsX7_gapOf := goodIn_r _ [33, 28, 29, 5, 30] rfl rfl
set_option maxRecDepth 20000 in
theorem gX7_gap_X7_gapOf : GoodIn wsX7_gap (va_wsS RX7 163 yX7_gapOf wsX7_gapOf) := goodIn_app (goodIn_r _ [31, 32, 5] rfl rfl) ggX7_gap_X7_gapOf
theorem dX7_gap_0 : decode cX7_gap 0 = .ok (.aload_n 0, 1) := by decide +kernel
theorem dX7_gap_1 : decode cX7_gap 1 = .ok (.iload_n 1, 1) := by decide +kernel
theorem dX7_gap_2 : decode cX7_gap 2 = .ok (.invokevirtual 131, 3) := by decide +kernel
theorem dX7_gap_5 : decode cX7_gap 5 = .ok (.istore_n 2, 1) := by decide +kernel
theorem dX7_gap_6 : decode cX7_gap 6 = .ok (.iload_n 2, 1) := by decide +kernel
theorem dX7_gap_7 : decode cX7_gap 7 = .ok (.ifCond .ge 7, 3) := by decide +kernel
theorem dX7_gap_10 : decode cX7_gap 10 = .ok (.iload_n 2, 1) := by decide +kernel
theorem dX7_gap_11 : decode cX7_gap 11 = .ok (.goto 18, 3) := by decide +kernel
theorem dX7_gap_14 : decode cX7_gap 14 = .ok (.aload_n 0, 1) := by decide +kernel
theorem dX7_gap_15 : decode cX7_gap 15 = .ok (.iload_n 1, 1) := by decide +kernel
theorem dX7_gap_16 : decode cX7_gap 16 = .ok (.iconst 0, 1) := by decide +kernel
theorem dX7_gap_17 : decode cX7_gap 17 = .ok (.aload_n 0, 1) := by decide +kernel
theorem dX7_gap_18 : decode cX7_gap 18 = .ok (.getfield 26, 3) := by decide +kernel
theorem dX7_gap_21 : decode cX7_gap 21 = .ok (.iload_n 1, 1) := by decide +kernel
theorem dX7_gap_22 : decode cX7_gap 22 = .ok (.iaload, 1) := by decide +kernel
theorem dX7_gap_23 : decode cX7_gap 23 = .ok (.invokevirtual 138, 3) := by decide +kernel
theorem dX7_gap_26 : decode cX7_gap 26 = .ok (.invokestatic 163, 3) := by decide +kernel
theorem dX7_gap_29 : decode cX7_gap 29 = .ok (.ireturn, 1) := by decide +kernel
set_option maxRecDepth 20000 in
theorem ggX7_isBorder_X7_alikeAt : GoodIn wsX7_isBorder wsX7_alikeAt := goodIn_r _ [6, 7, 8, 9, 10, 11, 12, 13, 14, 15, 16, 17, 18, 19, 20, 21] rfl rfl
set_option maxRecDepth 20000 in
theorem gX7_isBorder_X7_alikeAt : GoodIn wsX7_isBorder (wsV RX7 62 RX7 yX7_alikeAt wsX7_alikeAt) := goodIn_app (goodIn_r _ [2, 3, 4, 5] rfl rfl) ggX7_isBorder_X7_alikeAt
theorem dX7_isBorder_0 : decode cX7_isBorder 0 = .ok (.aload_n 0, 1) := by decide +kernel
theorem dX7_isBorder_1 : decode cX7_isBorder 1 = .ok (.aload_n 0, 1) := by decide +kernel
theorem dX7_isBorder_2 : decode cX7_isBorder 2 = .ok (.getfield 56, 3) := by decide +kernel
theorem dX7_isBorder_5 : decode cX7_isBorder 5 = .ok (.iload_n 1, 1) := by decide +kernel
theorem dX7_isBorder_6 : decode cX7_isBorder 6 = .ok (.invokevirtual 62, 3) := by decide +kernel
theorem dX7_isBorder_9 : decode cX7_isBorder 9 = .ok (.iload_n 1, 1) := by decide +kernel
theorem dX7_isBorder_10 : decode cX7_isBorder 10 = .ok (.if_icmp .ne 7, 3) := by decide +kernel
theorem dX7_isBorder_13 : decode cX7_isBorder 13 = .ok (.iconst 1, 1) := by decide +kernel
theorem dX7_isBorder_14 : decode cX7_isBorder 14 = .ok (.goto 4, 3) := by decide +kernel
theorem dX7_isBorder_17 : decode cX7_isBorder 17 = .ok (.iconst 0, 1) := by decide +kernel
theorem dX7_isBorder_18 : decode cX7_isBorder 18 = .ok (.ireturn, 1) := by decide +kernel
set_option maxRecDepth 20000 in
theorem ggX7_cover_X7_isBorder : GoodIn wsX7_cover wsX7_isBorder := goodIn_r _ [6, 1, 7, 8, 9, 5, 10, 11, 22, 23, 24, 25, 26, 27, 28, 29, 30, 31, 32, 33, 34, 35] rfl rfl
set_option maxRecDepth 20000 in
theorem gX7_cover_X7_isBorder : GoodIn wsX7_cover (wsV RX7 166 RX7 yX7_isBorder wsX7_isBorder) := goodIn_app (goodIn_r _ [2, 3, 4, 5] rfl rfl) ggX7_cover_X7_isBorder
set_option maxRecDepth 20000 in
theorem ggX7_cover_X7_endsOf : GoodIn wsX7_cover wsX7_endsOf := goodIn_r _ [15, 7, 8, 9, 5, 10, 11, 22, 23, 24, 25, 26, 27, 28, 29, 30, 31, 32, 33, 34, 35] rfl rfl
set_option maxRecDepth 20000 in
theorem gX7_cover_X7_endsOf : GoodIn wsX7_cover (wsV RX7 70 RX7 yX7_endsOf wsX7_endsOf) := goodIn_app (goodIn_r _ [12, 13, 14, 5] rfl rfl) ggX7_cover_X7_endsOf
set_option maxRecDepth 20000 in
theorem ggX7_cover_X7_gapOf : GoodIn wsX7_cover wsX7_gapOf := goodIn_r _ [18, 19, 20, 5, 21] rfl rfl
set_option maxRecDepth 20000 in
theorem gX7_cover_X7_gapOf : GoodIn wsX7_cover (va_wsS RX7 163 yX7_gapOf wsX7_gapOf) := goodIn_app (goodIn_r _ [16, 17, 5] rfl rfl) ggX7_cover_X7_gapOf
theorem dX7_cover_0 : decode cX7_cover 0 = .ok (.iconst 1, 1) := by decide +kernel
theorem dX7_cover_1 : decode cX7_cover 1 = .ok (.istore_n 1, 1) := by decide +kernel
theorem dX7_cover_2 : decode cX7_cover 2 = .ok (.iload_n 1, 1) := by decide +kernel
theorem dX7_cover_3 : decode cX7_cover 3 = .ok (.aload_n 0, 1) := by decide +kernel
theorem dX7_cover_4 : decode cX7_cover 4 = .ok (.getfield 56, 3) := by decide +kernel
theorem dX7_cover_7 : decode cX7_cover 7 = .ok (.if_icmp .gt 36, 3) := by decide +kernel
theorem dX7_cover_10 : decode cX7_cover 10 = .ok (.aload_n 0, 1) := by decide +kernel
theorem dX7_cover_11 : decode cX7_cover 11 = .ok (.iload_n 1, 1) := by decide +kernel
theorem dX7_cover_12 : decode cX7_cover 12 = .ok (.invokevirtual 166, 3) := by decide +kernel
theorem dX7_cover_15 : decode cX7_cover 15 = .ok (.ifCond .eq 22, 3) := by decide +kernel
theorem dX7_cover_18 : decode cX7_cover 18 = .ok (.aload_n 0, 1) := by decide +kernel
theorem dX7_cover_19 : decode cX7_cover 19 = .ok (.iload_n 1, 1) := by decide +kernel
theorem dX7_cover_20 : decode cX7_cover 20 = .ok (.iload_n 1, 1) := by decide +kernel
theorem dX7_cover_21 : decode cX7_cover 21 = .ok (.aload_n 0, 1) := by decide +kernel
theorem dX7_cover_22 : decode cX7_cover 22 = .ok (.getfield 56, 3) := by decide +kernel
theorem dX7_cover_25 : decode cX7_cover 25 = .ok (.invokevirtual 70, 3) := by decide +kernel
theorem dX7_cover_28 : decode cX7_cover 28 = .ok (.invokestatic 163, 3) := by decide +kernel
theorem dX7_cover_31 : decode cX7_cover 31 = .ok (.iload_n 1, 1) := by decide +kernel
theorem dX7_cover_32 : decode cX7_cover 32 = .ok (.if_icmp .gt 5, 3) := by decide +kernel
theorem dX7_cover_35 : decode cX7_cover 35 = .ok (.iload_n 1, 1) := by decide +kernel
theorem dX7_cover_36 : decode cX7_cover 36 = .ok (.ireturn, 1) := by decide +kernel
theorem dX7_cover_37 : decode cX7_cover 37 = .ok (.iinc 1 1, 3) := by decide +kernel
theorem dX7_cover_40 : decode cX7_cover 40 = .ok (.goto (-38), 3) := by decide +kernel
theorem dX7_cover_43 : decode cX7_cover 43 = .ok (.bipush (-4), 2) := by decide +kernel
theorem dX7_cover_45 : decode cX7_cover 45 = .ok (.ireturn, 1) := by decide +kernel
set_option maxRecDepth 20000 in
theorem ggX7_partEnd_X7_againAt : GoodIn wsX7_partEnd wsX7_againAt := goodIn_r _ [6, 7, 8, 9, 5, 10, 11, 12, 13, 14, 15, 16, 17, 18, 19, 20, 21, 22, 23, 24, 25] rfl rfl
set_option maxRecDepth 20000 in
theorem gX7_partEnd_X7_againAt : GoodIn wsX7_partEnd (wsV RX7 66 RX7 yX7_againAt wsX7_againAt) := goodIn_app (goodIn_r _ [2, 3, 4, 5] rfl rfl) ggX7_partEnd_X7_againAt
theorem dX7_partEnd_0 : decode cX7_partEnd 0 = .ok (.iload_n 1, 1) := by decide +kernel
theorem dX7_partEnd_1 : decode cX7_partEnd 1 = .ok (.iconst 1, 1) := by decide +kernel
theorem dX7_partEnd_2 : decode cX7_partEnd 2 = .ok (.iadd, 1) := by decide +kernel
theorem dX7_partEnd_3 : decode cX7_partEnd 3 = .ok (.istore_n 2, 1) := by decide +kernel
theorem dX7_partEnd_4 : decode cX7_partEnd 4 = .ok (.iload_n 2, 1) := by decide +kernel
theorem dX7_partEnd_5 : decode cX7_partEnd 5 = .ok (.aload_n 0, 1) := by decide +kernel
theorem dX7_partEnd_6 : decode cX7_partEnd 6 = .ok (.getfield 56, 3) := by decide +kernel
theorem dX7_partEnd_9 : decode cX7_partEnd 9 = .ok (.if_icmp .ge 24, 3) := by decide +kernel
theorem dX7_partEnd_12 : decode cX7_partEnd 12 = .ok (.aload_n 0, 1) := by decide +kernel
theorem dX7_partEnd_13 : decode cX7_partEnd 13 = .ok (.iload_n 2, 1) := by decide +kernel
theorem dX7_partEnd_14 : decode cX7_partEnd 14 = .ok (.iconst 1, 1) := by decide +kernel
theorem dX7_partEnd_15 : decode cX7_partEnd 15 = .ok (.iadd, 1) := by decide +kernel
theorem dX7_partEnd_16 : decode cX7_partEnd 16 = .ok (.invokevirtual 66, 3) := by decide +kernel
theorem dX7_partEnd_19 : decode cX7_partEnd 19 = .ok (.iload_n 2, 1) := by decide +kernel
theorem dX7_partEnd_20 : decode cX7_partEnd 20 = .ok (.iconst 1, 1) := by decide +kernel
theorem dX7_partEnd_21 : decode cX7_partEnd 21 = .ok (.iadd, 1) := by decide +kernel
theorem dX7_partEnd_22 : decode cX7_partEnd 22 = .ok (.iload_n 1, 1) := by decide +kernel
theorem dX7_partEnd_23 : decode cX7_partEnd 23 = .ok (.isub, 1) := by decide +kernel
theorem dX7_partEnd_24 : decode cX7_partEnd 24 = .ok (.if_icmp .lt 9, 3) := by decide +kernel
theorem dX7_partEnd_27 : decode cX7_partEnd 27 = .ok (.iinc 2 1, 3) := by decide +kernel
theorem dX7_partEnd_30 : decode cX7_partEnd 30 = .ok (.goto (-26), 3) := by decide +kernel
theorem dX7_partEnd_33 : decode cX7_partEnd 33 = .ok (.iload_n 2, 1) := by decide +kernel
theorem dX7_partEnd_34 : decode cX7_partEnd 34 = .ok (.ireturn, 1) := by decide +kernel
set_option maxRecDepth 20000 in
theorem ggX7_partMany_X7_partEnd : GoodIn wsX7_partMany wsX7_partEnd := goodIn_r _ [6, 1, 7, 8, 9, 5, 10, 11, 12, 13, 14, 15, 16, 17, 18, 19, 20, 21, 22, 23, 24, 25, 26, 27, 28, 29] rfl rfl
set_option maxRecDepth 20000 in
theorem gX7_partMany_X7_partEnd : GoodIn wsX7_partMany (wsV RX7 169 RX7 yX7_partEnd wsX7_partEnd) := goodIn_app (goodIn_r _ [2, 3, 4, 5] rfl rfl) ggX7_partMany_X7_partEnd
theorem dX7_partMany_0 : decode cX7_partMany 0 = .ok (.iconst 0, 1) := by decide +kernel
theorem dX7_partMany_1 : decode cX7_partMany 1 = .ok (.istore_n 1, 1) := by decide +kernel
theorem dX7_partMany_2 : decode cX7_partMany 2 = .ok (.iconst 0, 1) := by decide +kernel
theorem dX7_partMany_3 : decode cX7_partMany 3 = .ok (.istore_n 2, 1) := by decide +kernel
theorem dX7_partMany_4 : decode cX7_partMany 4 = .ok (.iload_n 2, 1) := by decide +kernel
theorem dX7_partMany_5 : decode cX7_partMany 5 = .ok (.aload_n 0, 1) := by decide +kernel
theorem dX7_partMany_6 : decode cX7_partMany 6 = .ok (.getfield 56, 3) := by decide +kernel
theorem dX7_partMany_9 : decode cX7_partMany 9 = .ok (.if_icmp .ge 15, 3) := by decide +kernel
theorem dX7_partMany_12 : decode cX7_partMany 12 = .ok (.iinc 1 1, 3) := by decide +kernel
theorem dX7_partMany_15 : decode cX7_partMany 15 = .ok (.aload_n 0, 1) := by decide +kernel
theorem dX7_partMany_16 : decode cX7_partMany 16 = .ok (.iload_n 2, 1) := by decide +kernel
theorem dX7_partMany_17 : decode cX7_partMany 17 = .ok (.invokevirtual 169, 3) := by decide +kernel
theorem dX7_partMany_20 : decode cX7_partMany 20 = .ok (.istore_n 2, 1) := by decide +kernel
theorem dX7_partMany_21 : decode cX7_partMany 21 = .ok (.goto (-17), 3) := by decide +kernel
theorem dX7_partMany_24 : decode cX7_partMany 24 = .ok (.iload_n 1, 1) := by decide +kernel
theorem dX7_partMany_25 : decode cX7_partMany 25 = .ok (.ireturn, 1) := by decide +kernel
set_option maxRecDepth 20000 in
theorem ggX7_part_X7_partMany : GoodIn wsX7_part wsX7_partMany := goodIn_r _ [5, 6, 7, 8, 9, 4, 10, 11, 12, 13, 14, 15, 16, 17, 18, 19, 20, 21, 22, 23, 24, 25, 26, 27, 28, 29, 30, 31, 32, 33] rfl rfl
set_option maxRecDepth 20000 in
theorem gX7_part_X7_partMany : GoodIn wsX7_part (wsV RX7 172 RX7 yX7_partMany wsX7_partMany) := goodIn_app (goodIn_r _ [1, 2, 3, 4] rfl rfl) ggX7_part_X7_partMany
set_option maxRecDepth 20000 in
theorem ggX7_part_X7_partEnd : GoodIn wsX7_part wsX7_partEnd := goodIn_r _ [10, 6, 11, 12, 13, 4, 14, 15, 16, 17, 18, 19, 20, 21, 22, 23, 24, 25, 26, 27, 28, 29, 30, 31, 32, 33] rfl rfl
set_option maxRecDepth 20000 in
theorem gX7_part_X7_partEnd : GoodIn wsX7_part (wsV RX7 169 RX7 yX7_partEnd wsX7_partEnd) := goodIn_app (goodIn_r _ [7, 8, 9, 4] rfl rfl) ggX7_part_X7_partEnd
theorem dX7_part_0 : decode cX7_part 0 = .ok (.iload_n 1, 1) := by decide +kernel
theorem dX7_part_1 : decode cX7_part 1 = .ok (.ifCond .ge 5, 3) := by decide +kernel
theorem dX7_part_4 : decode cX7_part 4 = .ok (.iconst (-1), 1) := by decide +kernel
theorem dX7_part_5 : decode cX7_part 5 = .ok (.ireturn, 1) := by decide +kernel
theorem dX7_part_6 : decode cX7_part 6 = .ok (.iload_n 1, 1) := by decide +kernel
theorem dX7_part_7 : decode cX7_part 7 = .ok (.aload_n 0, 1) := by decide +kernel
theorem dX7_part_8 : decode cX7_part 8 = .ok (.invokevirtual 172, 3) := by decide +kernel
theorem dX7_part_11 : decode cX7_part 11 = .ok (.if_icmp .lt 6, 3) := by decide +kernel
theorem dX7_part_14 : decode cX7_part 14 = .ok (.bipush (-4), 2) := by decide +kernel
theorem dX7_part_16 : decode cX7_part 16 = .ok (.ireturn, 1) := by decide +kernel
theorem dX7_part_17 : decode cX7_part 17 = .ok (.iconst 0, 1) := by decide +kernel
theorem dX7_part_18 : decode cX7_part 18 = .ok (.istore_n 2, 1) := by decide +kernel
theorem dX7_part_19 : decode cX7_part 19 = .ok (.iconst 0, 1) := by decide +kernel
theorem dX7_part_20 : decode cX7_part 20 = .ok (.istore_n 3, 1) := by decide +kernel
theorem dX7_part_21 : decode cX7_part 21 = .ok (.iload_n 3, 1) := by decide +kernel
theorem dX7_part_22 : decode cX7_part 22 = .ok (.iload_n 1, 1) := by decide +kernel
theorem dX7_part_23 : decode cX7_part 23 = .ok (.if_icmp .ge 15, 3) := by decide +kernel
theorem dX7_part_26 : decode cX7_part 26 = .ok (.aload_n 0, 1) := by decide +kernel
theorem dX7_part_27 : decode cX7_part 27 = .ok (.iload_n 2, 1) := by decide +kernel
theorem dX7_part_28 : decode cX7_part 28 = .ok (.invokevirtual 169, 3) := by decide +kernel
theorem dX7_part_31 : decode cX7_part 31 = .ok (.istore_n 2, 1) := by decide +kernel
theorem dX7_part_32 : decode cX7_part 32 = .ok (.iinc 3 1, 3) := by decide +kernel
theorem dX7_part_35 : decode cX7_part 35 = .ok (.goto (-14), 3) := by decide +kernel
theorem dX7_part_38 : decode cX7_part 38 = .ok (.iload_n 2, 1) := by decide +kernel
theorem dX7_part_39 : decode cX7_part 39 = .ok (.ireturn, 1) := by decide +kernel
set_option maxRecDepth 20000 in
theorem ggX7_common_X7_in : GoodIn wsX7_common wsX7_in := goodIn_r _ [5] rfl rfl
set_option maxRecDepth 20000 in
theorem gX7_common_X7_in : GoodIn wsX7_common (va_wsS RX7 85 yX7_in wsX7_in) := goodIn_app (goodIn_r _ [2, 3, 4] rfl rfl) ggX7_common_X7_in
set_option maxRecDepth 20000 in
theorem ggX7_common_X7_need : GoodIn wsX7_common wsX7_need := goodIn_r _ [9, 1, 10, 11, 4, 12, 2, 3, 5, 31, 32, 33, 34, 35, 36, 37, 38, 39, 40, 41, 42, 43, 44] rfl rfl
set_option maxRecDepth 20000 in
theorem gX7_common_X7_need : GoodIn wsX7_common (wsV RX7 131 RX7 yX7_need wsX7_need) := goodIn_app (goodIn_r _ [6, 7, 8, 4] rfl rfl) ggX7_common_X7_need
set_option maxRecDepth 20000 in
theorem ggX7_common_X7_endsIn : GoodIn wsX7_common wsX7_endsIn := goodIn_r _ [16, 17, 18, 19, 20, 4, 21, 22, 23, 24, 25, 26, 27, 28, 29, 30, 31, 32, 33, 34, 35, 36, 37, 38, 39, 40, 41, 42, 43, 44] rfl rfl
set_option maxRecDepth 20000 in
theorem gX7_common_X7_endsIn : GoodIn wsX7_common (wsV RX7 138 RX7 yX7_endsIn wsX7_endsIn) := goodIn_app (goodIn_r _ [13, 14, 15, 4] rfl rfl) ggX7_common_X7_endsIn
theorem dX7_common_0 : decode cX7_common 0 = .ok (.iload_n 2, 1) := by decide +kernel
theorem dX7_common_1 : decode cX7_common 1 = .ok (.iconst 0, 1) := by decide +kernel
theorem dX7_common_2 : decode cX7_common 2 = .ok (.iconst 1, 1) := by decide +kernel
theorem dX7_common_3 : decode cX7_common 3 = .ok (.invokestatic 85, 3) := by decide +kernel
theorem dX7_common_6 : decode cX7_common 6 = .ok (.ifCond .eq 11, 3) := by decide +kernel
theorem dX7_common_9 : decode cX7_common 9 = .ok (.aload_n 0, 1) := by decide +kernel
theorem dX7_common_10 : decode cX7_common 10 = .ok (.iload_n 1, 1) := by decide +kernel
theorem dX7_common_11 : decode cX7_common 11 = .ok (.invokevirtual 131, 3) := by decide +kernel
theorem dX7_common_14 : decode cX7_common 14 = .ok (.goto 4, 3) := by decide +kernel
theorem dX7_common_17 : decode cX7_common 17 = .ok (.iconst (-1), 1) := by decide +kernel
theorem dX7_common_18 : decode cX7_common 18 = .ok (.istore_n 3, 1) := by decide +kernel
theorem dX7_common_19 : decode cX7_common 19 = .ok (.iload_n 3, 1) := by decide +kernel
theorem dX7_common_20 : decode cX7_common 20 = .ok (.ifCond .ge 5, 3) := by decide +kernel
theorem dX7_common_23 : decode cX7_common 23 = .ok (.iload_n 3, 1) := by decide +kernel
theorem dX7_common_24 : decode cX7_common 24 = .ok (.ireturn, 1) := by decide +kernel
theorem dX7_common_25 : decode cX7_common 25 = .ok (.iconst 0, 1) := by decide +kernel
theorem dX7_common_26 : decode cX7_common 26 = .ok (.istore 4, 2) := by decide +kernel
theorem dX7_common_28 : decode cX7_common 28 = .ok (.iconst 0, 1) := by decide +kernel
theorem dX7_common_29 : decode cX7_common 29 = .ok (.istore 5, 2) := by decide +kernel
theorem dX7_common_31 : decode cX7_common 31 = .ok (.iconst 0, 1) := by decide +kernel
theorem dX7_common_32 : decode cX7_common 32 = .ok (.istore 6, 2) := by decide +kernel
theorem dX7_common_34 : decode cX7_common 34 = .ok (.iload 6, 2) := by decide +kernel
theorem dX7_common_36 : decode cX7_common 36 = .ok (.aload_n 0, 1) := by decide +kernel
theorem dX7_common_37 : decode cX7_common 37 = .ok (.getfield 26, 3) := by decide +kernel
theorem dX7_common_40 : decode cX7_common 40 = .ok (.iload_n 1, 1) := by decide +kernel
theorem dX7_common_41 : decode cX7_common 41 = .ok (.iaload, 1) := by decide +kernel
theorem dX7_common_42 : decode cX7_common 42 = .ok (.if_icmp .ge 87, 3) := by decide +kernel
theorem dX7_common_45 : decode cX7_common 45 = .ok (.iload 6, 2) := by decide +kernel
theorem dX7_common_47 : decode cX7_common 47 = .ok (.iload 4, 2) := by decide +kernel
theorem dX7_common_49 : decode cX7_common 49 = .ok (.iadd, 1) := by decide +kernel
theorem dX7_common_50 : decode cX7_common 50 = .ok (.iconst 1, 1) := by decide +kernel
theorem dX7_common_51 : decode cX7_common 51 = .ok (.iadd, 1) := by decide +kernel
theorem dX7_common_52 : decode cX7_common 52 = .ok (.istore 7, 2) := by decide +kernel
theorem dX7_common_54 : decode cX7_common 54 = .ok (.iload 7, 2) := by decide +kernel
theorem dX7_common_56 : decode cX7_common 56 = .ok (.aload_n 0, 1) := by decide +kernel
theorem dX7_common_57 : decode cX7_common 57 = .ok (.getfield 26, 3) := by decide +kernel
theorem dX7_common_60 : decode cX7_common 60 = .ok (.iload_n 1, 1) := by decide +kernel
theorem dX7_common_61 : decode cX7_common 61 = .ok (.iaload, 1) := by decide +kernel
theorem dX7_common_62 : decode cX7_common 62 = .ok (.if_icmp .gt 61, 3) := by decide +kernel
theorem dX7_common_65 : decode cX7_common 65 = .ok (.aload_n 0, 1) := by decide +kernel
theorem dX7_common_66 : decode cX7_common 66 = .ok (.iload_n 1, 1) := by decide +kernel
theorem dX7_common_67 : decode cX7_common 67 = .ok (.iload 6, 2) := by decide +kernel
theorem dX7_common_69 : decode cX7_common 69 = .ok (.iload 7, 2) := by decide +kernel
theorem dX7_common_71 : decode cX7_common 71 = .ok (.invokevirtual 138, 3) := by decide +kernel
theorem dX7_common_74 : decode cX7_common 74 = .ok (.lconst 0, 1) := by decide +kernel
theorem dX7_common_75 : decode cX7_common 75 = .ok (.lcmp, 1) := by decide +kernel
theorem dX7_common_76 : decode cX7_common 76 = .ok (.ifCond .eq 7, 3) := by decide +kernel
theorem dX7_common_79 : decode cX7_common 79 = .ok (.iconst 1, 1) := by decide +kernel
theorem dX7_common_80 : decode cX7_common 80 = .ok (.goto 4, 3) := by decide +kernel
theorem dX7_common_83 : decode cX7_common 83 = .ok (.iconst 0, 1) := by decide +kernel
theorem dX7_common_84 : decode cX7_common 84 = .ok (.istore 8, 2) := by decide +kernel
theorem dX7_common_86 : decode cX7_common 86 = .ok (.iload 8, 2) := by decide +kernel
theorem dX7_common_88 : decode cX7_common 88 = .ok (.ifCond .eq 8, 3) := by decide +kernel
theorem dX7_common_91 : decode cX7_common 91 = .ok (.iload 6, 2) := by decide +kernel
theorem dX7_common_93 : decode cX7_common 93 = .ok (.goto 5, 3) := by decide +kernel
theorem dX7_common_96 : decode cX7_common 96 = .ok (.iload 5, 2) := by decide +kernel
theorem dX7_common_98 : decode cX7_common 98 = .ok (.istore 5, 2) := by decide +kernel
theorem dX7_common_100 : decode cX7_common 100 = .ok (.iload 8, 2) := by decide +kernel
theorem dX7_common_102 : decode cX7_common 102 = .ok (.ifCond .eq 11, 3) := by decide +kernel
theorem dX7_common_105 : decode cX7_common 105 = .ok (.iload 7, 2) := by decide +kernel
theorem dX7_common_107 : decode cX7_common 107 = .ok (.iload 6, 2) := by decide +kernel
theorem dX7_common_109 : decode cX7_common 109 = .ok (.isub, 1) := by decide +kernel
theorem dX7_common_110 : decode cX7_common 110 = .ok (.goto 5, 3) := by decide +kernel
theorem dX7_common_113 : decode cX7_common 113 = .ok (.iload 4, 2) := by decide +kernel
theorem dX7_common_115 : decode cX7_common 115 = .ok (.istore 4, 2) := by decide +kernel
theorem dX7_common_117 : decode cX7_common 117 = .ok (.iinc 7 1, 3) := by decide +kernel
theorem dX7_common_120 : decode cX7_common 120 = .ok (.goto (-66), 3) := by decide +kernel
theorem dX7_common_123 : decode cX7_common 123 = .ok (.iinc 6 1, 3) := by decide +kernel
theorem dX7_common_126 : decode cX7_common 126 = .ok (.goto (-92), 3) := by decide +kernel
theorem dX7_common_129 : decode cX7_common 129 = .ok (.iload_n 2, 1) := by decide +kernel
theorem dX7_common_130 : decode cX7_common 130 = .ok (.ifCond .ne 8, 3) := by decide +kernel
theorem dX7_common_133 : decode cX7_common 133 = .ok (.iload 4, 2) := by decide +kernel
theorem dX7_common_135 : decode cX7_common 135 = .ok (.goto 5, 3) := by decide +kernel
theorem dX7_common_138 : decode cX7_common 138 = .ok (.iload 5, 2) := by decide +kernel
theorem dX7_common_140 : decode cX7_common 140 = .ok (.ireturn, 1) := by decide +kernel
set_option maxRecDepth 20000 in
theorem ggX7_border_X7_isBorder : GoodIn wsX7_border wsX7_isBorder := goodIn_r _ [6, 1, 7, 8, 9, 5, 10, 11, 12, 13, 14, 15, 16, 17, 18, 19, 20, 21, 22, 23, 24, 25] rfl rfl
set_option maxRecDepth 20000 in
theorem gX7_border_X7_isBorder : GoodIn wsX7_border (wsV RX7 166 RX7 yX7_isBorder wsX7_isBorder) := goodIn_app (goodIn_r _ [2, 3, 4, 5] rfl rfl) ggX7_border_X7_isBorder
theorem dX7_border_0 : decode cX7_border 0 = .ok (.iload_n 1, 1) := by decide +kernel
theorem dX7_border_1 : decode cX7_border 1 = .ok (.ifCond .ge 5, 3) := by decide +kernel
theorem dX7_border_4 : decode cX7_border 4 = .ok (.iconst (-1), 1) := by decide +kernel
theorem dX7_border_5 : decode cX7_border 5 = .ok (.ireturn, 1) := by decide +kernel
theorem dX7_border_6 : decode cX7_border 6 = .ok (.iload_n 1, 1) := by decide +kernel
theorem dX7_border_7 : decode cX7_border 7 = .ok (.istore_n 2, 1) := by decide +kernel
theorem dX7_border_8 : decode cX7_border 8 = .ok (.aload_n 0, 1) := by decide +kernel
theorem dX7_border_9 : decode cX7_border 9 = .ok (.getfield 56, 3) := by decide +kernel
theorem dX7_border_12 : decode cX7_border 12 = .ok (.iconst 1, 1) := by decide +kernel
theorem dX7_border_13 : decode cX7_border 13 = .ok (.isub, 1) := by decide +kernel
theorem dX7_border_14 : decode cX7_border 14 = .ok (.istore_n 3, 1) := by decide +kernel
theorem dX7_border_15 : decode cX7_border 15 = .ok (.iload_n 3, 1) := by decide +kernel
theorem dX7_border_16 : decode cX7_border 16 = .ok (.ifCond .le 26, 3) := by decide +kernel
theorem dX7_border_19 : decode cX7_border 19 = .ok (.aload_n 0, 1) := by decide +kernel
theorem dX7_border_20 : decode cX7_border 20 = .ok (.iload_n 3, 1) := by decide +kernel
theorem dX7_border_21 : decode cX7_border 21 = .ok (.invokevirtual 166, 3) := by decide +kernel
theorem dX7_border_24 : decode cX7_border 24 = .ok (.ifCond .eq 12, 3) := by decide +kernel
theorem dX7_border_27 : decode cX7_border 27 = .ok (.iload_n 2, 1) := by decide +kernel
theorem dX7_border_28 : decode cX7_border 28 = .ok (.ifCond .ne 5, 3) := by decide +kernel
theorem dX7_border_31 : decode cX7_border 31 = .ok (.iload_n 3, 1) := by decide +kernel
theorem dX7_border_32 : decode cX7_border 32 = .ok (.ireturn, 1) := by decide +kernel
theorem dX7_border_33 : decode cX7_border 33 = .ok (.iinc 2 (-1), 3) := by decide +kernel
theorem dX7_border_36 : decode cX7_border 36 = .ok (.iinc 3 (-1), 3) := by decide +kernel
theorem dX7_border_39 : decode cX7_border 39 = .ok (.goto (-24), 3) := by decide +kernel
theorem dX7_border_42 : decode cX7_border 42 = .ok (.bipush (-4), 2) := by decide +kernel
theorem dX7_border_44 : decode cX7_border 44 = .ok (.ireturn, 1) := by decide +kernel
set_option maxRecDepth 20000 in
theorem ggX7_period_X7_isBorder : GoodIn wsX7_period wsX7_isBorder := goodIn_r _ [6, 1, 7, 8, 9, 5, 10, 11, 12, 13, 14, 15, 16, 17, 18, 19, 20, 21, 22, 23, 24, 25] rfl rfl
set_option maxRecDepth 20000 in
theorem gX7_period_X7_isBorder : GoodIn wsX7_period (wsV RX7 166 RX7 yX7_isBorder wsX7_isBorder) := goodIn_app (goodIn_r _ [2, 3, 4, 5] rfl rfl) ggX7_period_X7_isBorder
theorem dX7_period_0 : decode cX7_period 0 = .ok (.aload_n 0, 1) := by decide +kernel
theorem dX7_period_1 : decode cX7_period 1 = .ok (.getfield 56, 3) := by decide +kernel
theorem dX7_period_4 : decode cX7_period 4 = .ok (.iconst 1, 1) := by decide +kernel
theorem dX7_period_5 : decode cX7_period 5 = .ok (.isub, 1) := by decide +kernel
theorem dX7_period_6 : decode cX7_period 6 = .ok (.istore_n 1, 1) := by decide +kernel
theorem dX7_period_7 : decode cX7_period 7 = .ok (.iload_n 1, 1) := by decide +kernel
theorem dX7_period_8 : decode cX7_period 8 = .ok (.ifCond .le 17, 3) := by decide +kernel
theorem dX7_period_11 : decode cX7_period 11 = .ok (.aload_n 0, 1) := by decide +kernel
theorem dX7_period_12 : decode cX7_period 12 = .ok (.iload_n 1, 1) := by decide +kernel
theorem dX7_period_13 : decode cX7_period 13 = .ok (.invokevirtual 166, 3) := by decide +kernel
theorem dX7_period_16 : decode cX7_period 16 = .ok (.ifCond .ne 9, 3) := by decide +kernel
theorem dX7_period_19 : decode cX7_period 19 = .ok (.iinc 1 (-1), 3) := by decide +kernel
theorem dX7_period_22 : decode cX7_period 22 = .ok (.goto (-15), 3) := by decide +kernel
theorem dX7_period_25 : decode cX7_period 25 = .ok (.aload_n 0, 1) := by decide +kernel
theorem dX7_period_26 : decode cX7_period 26 = .ok (.getfield 56, 3) := by decide +kernel
theorem dX7_period_29 : decode cX7_period 29 = .ok (.ifCond .ne 8, 3) := by decide +kernel
theorem dX7_period_32 : decode cX7_period 32 = .ok (.bipush (-4), 2) := by decide +kernel
theorem dX7_period_34 : decode cX7_period 34 = .ok (.goto 9, 3) := by decide +kernel
theorem dX7_period_37 : decode cX7_period 37 = .ok (.aload_n 0, 1) := by decide +kernel
theorem dX7_period_38 : decode cX7_period 38 = .ok (.getfield 56, 3) := by decide +kernel
theorem dX7_period_41 : decode cX7_period 41 = .ok (.iload_n 1, 1) := by decide +kernel
theorem dX7_period_42 : decode cX7_period 42 = .ok (.isub, 1) := by decide +kernel
theorem dX7_period_43 : decode cX7_period 43 = .ok (.ireturn, 1) := by decide +kernel
set_option maxRecDepth 20000 in
theorem ggX7_next_X7_in : GoodIn wsX7_next wsX7_in := goodIn_r _ [6] rfl rfl
set_option maxRecDepth 20000 in
theorem gX7_next_X7_in : GoodIn wsX7_next (va_wsS RX7 85 yX7_in wsX7_in) := goodIn_app (goodIn_r _ [3, 4, 5] rfl rfl) ggX7_next_X7_in
set_option maxRecDepth 20000 in
theorem ggX7_next_X7_endsOf : GoodIn wsX7_next wsX7_endsOf := goodIn_r _ [10, 11, 12, 13, 5, 14, 15, 26, 27, 28, 29, 30, 31, 32, 33, 34, 35, 36, 37, 38, 39] rfl rfl
set_option maxRecDepth 20000 in
theorem gX7_next_X7_endsOf : GoodIn wsX7_next (wsV RX7 70 RX7 yX7_endsOf wsX7_endsOf) := goodIn_app (goodIn_r _ [7, 8, 9, 5] rfl rfl) ggX7_next_X7_endsOf
set_option maxRecDepth 20000 in
theorem ggX7_next_X7_behind : GoodIn wsX7_next wsX7_behind := goodIn_r _ [19, 1, 15, 20, 21, 5, 22, 26, 27, 28, 29, 30, 31, 32, 33, 34, 35, 36, 37, 38, 39] rfl rfl
set_option maxRecDepth 20000 in
theorem gX7_next_X7_behind : GoodIn wsX7_next (wsV RX7 116 RX7 yX7_behind wsX7_behind) := goodIn_app (goodIn_r _ [16, 17, 18, 5] rfl rfl) ggX7_next_X7_behind
set_option maxRecDepth 20000 in
theorem ggX7_next_X7_bits : GoodIn wsX7_next wsX7_bits := goodIn_r _ [25] rfl rfl
set_option maxRecDepth 20000 in
theorem gX7_next_X7_bits : GoodIn wsX7_next (va_wsS RX7 113 yX7_bits wsX7_bits) := goodIn_app (goodIn_r _ [23, 24, 5] rfl rfl) ggX7_next_X7_bits
theorem dX7_next_0 : decode cX7_next 0 = .ok (.iload_n 1, 1) := by decide +kernel
theorem dX7_next_1 : decode cX7_next 1 = .ok (.iconst 0, 1) := by decide +kernel
theorem dX7_next_2 : decode cX7_next 2 = .ok (.aload_n 0, 1) := by decide +kernel
theorem dX7_next_3 : decode cX7_next 3 = .ok (.getfield 56, 3) := by decide +kernel
theorem dX7_next_6 : decode cX7_next 6 = .ok (.invokestatic 85, 3) := by decide +kernel
theorem dX7_next_9 : decode cX7_next 9 = .ok (.ifCond .ne 5, 3) := by decide +kernel
theorem dX7_next_12 : decode cX7_next 12 = .ok (.iconst (-1), 1) := by decide +kernel
theorem dX7_next_13 : decode cX7_next 13 = .ok (.ireturn, 1) := by decide +kernel
theorem dX7_next_14 : decode cX7_next 14 = .ok (.aload_n 0, 1) := by decide +kernel
theorem dX7_next_15 : decode cX7_next 15 = .ok (.aload_n 0, 1) := by decide +kernel
theorem dX7_next_16 : decode cX7_next 16 = .ok (.getfield 56, 3) := by decide +kernel
theorem dX7_next_19 : decode cX7_next 19 = .ok (.iload_n 1, 1) := by decide +kernel
theorem dX7_next_20 : decode cX7_next 20 = .ok (.aload_n 0, 1) := by decide +kernel
theorem dX7_next_21 : decode cX7_next 21 = .ok (.getfield 56, 3) := by decide +kernel
theorem dX7_next_24 : decode cX7_next 24 = .ok (.invokevirtual 70, 3) := by decide +kernel
theorem dX7_next_27 : decode cX7_next 27 = .ok (.lstore_n 2, 1) := by decide +kernel
theorem dX7_next_28 : decode cX7_next 28 = .ok (.bipush (-4), 2) := by decide +kernel
theorem dX7_next_30 : decode cX7_next 30 = .ok (.istore 4, 2) := by decide +kernel
theorem dX7_next_32 : decode cX7_next 32 = .ok (.iconst 0, 1) := by decide +kernel
theorem dX7_next_33 : decode cX7_next 33 = .ok (.istore 5, 2) := by decide +kernel
theorem dX7_next_35 : decode cX7_next 35 = .ok (.iconst 0, 1) := by decide +kernel
theorem dX7_next_36 : decode cX7_next 36 = .ok (.istore 6, 2) := by decide +kernel
theorem dX7_next_38 : decode cX7_next 38 = .ok (.iload 6, 2) := by decide +kernel
theorem dX7_next_40 : decode cX7_next 40 = .ok (.aload_n 0, 1) := by decide +kernel
theorem dX7_next_41 : decode cX7_next 41 = .ok (.getfield 52, 3) := by decide +kernel
theorem dX7_next_44 : decode cX7_next 44 = .ok (.if_icmp .ge 53, 3) := by decide +kernel
theorem dX7_next_47 : decode cX7_next 47 = .ok (.aload_n 0, 1) := by decide +kernel
theorem dX7_next_48 : decode cX7_next 48 = .ok (.lload_n 2, 1) := by decide +kernel
theorem dX7_next_49 : decode cX7_next 49 = .ok (.iload 6, 2) := by decide +kernel
theorem dX7_next_51 : decode cX7_next 51 = .ok (.invokevirtual 116, 3) := by decide +kernel
theorem dX7_next_54 : decode cX7_next 54 = .ok (.invokestatic 113, 3) := by decide +kernel
theorem dX7_next_57 : decode cX7_next 57 = .ok (.istore 7, 2) := by decide +kernel
theorem dX7_next_59 : decode cX7_next 59 = .ok (.iload 7, 2) := by decide +kernel
theorem dX7_next_61 : decode cX7_next 61 = .ok (.iload 5, 2) := by decide +kernel
theorem dX7_next_63 : decode cX7_next 63 = .ok (.if_icmp .le 8, 3) := by decide +kernel
theorem dX7_next_66 : decode cX7_next 66 = .ok (.iload 6, 2) := by decide +kernel
theorem dX7_next_68 : decode cX7_next 68 = .ok (.goto 5, 3) := by decide +kernel
theorem dX7_next_71 : decode cX7_next 71 = .ok (.iload 4, 2) := by decide +kernel
theorem dX7_next_73 : decode cX7_next 73 = .ok (.istore 4, 2) := by decide +kernel
theorem dX7_next_75 : decode cX7_next 75 = .ok (.iload 7, 2) := by decide +kernel
theorem dX7_next_77 : decode cX7_next 77 = .ok (.iload 5, 2) := by decide +kernel
theorem dX7_next_79 : decode cX7_next 79 = .ok (.if_icmp .le 8, 3) := by decide +kernel
theorem dX7_next_82 : decode cX7_next 82 = .ok (.iload 7, 2) := by decide +kernel
theorem dX7_next_84 : decode cX7_next 84 = .ok (.goto 5, 3) := by decide +kernel
theorem dX7_next_87 : decode cX7_next 87 = .ok (.iload 5, 2) := by decide +kernel
theorem dX7_next_89 : decode cX7_next 89 = .ok (.istore 5, 2) := by decide +kernel
theorem dX7_next_91 : decode cX7_next 91 = .ok (.iinc 6 1, 3) := by decide +kernel
theorem dX7_next_94 : decode cX7_next 94 = .ok (.goto (-56), 3) := by decide +kernel
theorem dX7_next_97 : decode cX7_next 97 = .ok (.iload 4, 2) := by decide +kernel
theorem dX7_next_99 : decode cX7_next 99 = .ok (.ireturn, 1) := by decide +kernel
set_option maxRecDepth 20000 in
theorem ggX7_worth_X7_in : GoodIn wsX7_worth wsX7_in := goodIn_r _ [6] rfl rfl
set_option maxRecDepth 20000 in
theorem gX7_worth_X7_in : GoodIn wsX7_worth (va_wsS RX7 85 yX7_in wsX7_in) := goodIn_app (goodIn_r _ [3, 4, 5] rfl rfl) ggX7_worth_X7_in
set_option maxRecDepth 20000 in
theorem ggX7_worth_X7_unlikeOf : GoodIn wsX7_worth wsX7_unlikeOf := goodIn_r _ [10, 11, 12, 13, 5, 14, 15, 16, 17, 18, 19, 20, 21, 22, 23, 24, 25, 26, 27, 28, 29] rfl rfl
set_option maxRecDepth 20000 in
theorem gX7_worth_X7_unlikeOf : GoodIn wsX7_worth (wsV RX7 149 RX7 yX7_unlikeOf wsX7_unlikeOf) := goodIn_app (goodIn_r _ [7, 8, 9, 5] rfl rfl) ggX7_worth_X7_unlikeOf
theorem dX7_worth_0 : decode cX7_worth 0 = .ok (.iload_n 1, 1) := by decide +kernel
theorem dX7_worth_1 : decode cX7_worth 1 = .ok (.iconst 1, 1) := by decide +kernel
theorem dX7_worth_2 : decode cX7_worth 2 = .ok (.bipush 9, 2) := by decide +kernel
theorem dX7_worth_4 : decode cX7_worth 4 = .ok (.invokestatic 85, 3) := by decide +kernel
theorem dX7_worth_7 : decode cX7_worth 7 = .ok (.ifCond .ne 5, 3) := by decide +kernel
theorem dX7_worth_10 : decode cX7_worth 10 = .ok (.iconst (-1), 1) := by decide +kernel
theorem dX7_worth_11 : decode cX7_worth 11 = .ok (.ireturn, 1) := by decide +kernel
theorem dX7_worth_12 : decode cX7_worth 12 = .ok (.lconst 0, 1) := by decide +kernel
theorem dX7_worth_13 : decode cX7_worth 13 = .ok (.lstore_n 2, 1) := by decide +kernel
theorem dX7_worth_14 : decode cX7_worth 14 = .ok (.lconst 1, 1) := by decide +kernel
theorem dX7_worth_15 : decode cX7_worth 15 = .ok (.lstore 4, 2) := by decide +kernel
theorem dX7_worth_17 : decode cX7_worth 17 = .ok (.iconst 1, 1) := by decide +kernel
theorem dX7_worth_18 : decode cX7_worth 18 = .ok (.istore 6, 2) := by decide +kernel
theorem dX7_worth_20 : decode cX7_worth 20 = .ok (.iload 6, 2) := by decide +kernel
theorem dX7_worth_22 : decode cX7_worth 22 = .ok (.aload_n 0, 1) := by decide +kernel
theorem dX7_worth_23 : decode cX7_worth 23 = .ok (.getfield 56, 3) := by decide +kernel
theorem dX7_worth_26 : decode cX7_worth 26 = .ok (.if_icmp .gt 58, 3) := by decide +kernel
theorem dX7_worth_29 : decode cX7_worth 29 = .ok (.lload 4, 2) := by decide +kernel
theorem dX7_worth_31 : decode cX7_worth 31 = .ok (.ldc2_w 102, 3) := by decide +kernel
theorem dX7_worth_34 : decode cX7_worth 34 = .ok (.lcmp, 1) := by decide +kernel
theorem dX7_worth_35 : decode cX7_worth 35 = .ok (.ifCond .le 8, 3) := by decide +kernel
theorem dX7_worth_38 : decode cX7_worth 38 = .ok (.lload 4, 2) := by decide +kernel
theorem dX7_worth_40 : decode cX7_worth 40 = .ok (.goto 8, 3) := by decide +kernel
theorem dX7_worth_43 : decode cX7_worth 43 = .ok (.lload 4, 2) := by decide +kernel
theorem dX7_worth_45 : decode cX7_worth 45 = .ok (.iload_n 1, 1) := by decide +kernel
theorem dX7_worth_46 : decode cX7_worth 46 = .ok (.i2l, 1) := by decide +kernel
theorem dX7_worth_47 : decode cX7_worth 47 = .ok (.lmul, 1) := by decide +kernel
theorem dX7_worth_48 : decode cX7_worth 48 = .ok (.lstore 4, 2) := by decide +kernel
theorem dX7_worth_50 : decode cX7_worth 50 = .ok (.lload_n 2, 1) := by decide +kernel
theorem dX7_worth_51 : decode cX7_worth 51 = .ok (.lload 4, 2) := by decide +kernel
theorem dX7_worth_53 : decode cX7_worth 53 = .ok (.aload_n 0, 1) := by decide +kernel
theorem dX7_worth_54 : decode cX7_worth 54 = .ok (.iload 6, 2) := by decide +kernel
theorem dX7_worth_56 : decode cX7_worth 56 = .ok (.aload_n 0, 1) := by decide +kernel
theorem dX7_worth_57 : decode cX7_worth 57 = .ok (.getfield 56, 3) := by decide +kernel
theorem dX7_worth_60 : decode cX7_worth 60 = .ok (.invokevirtual 149, 3) := by decide +kernel
theorem dX7_worth_63 : decode cX7_worth 63 = .ok (.i2l, 1) := by decide +kernel
theorem dX7_worth_64 : decode cX7_worth 64 = .ok (.lmul, 1) := by decide +kernel
theorem dX7_worth_65 : decode cX7_worth 65 = .ok (.ladd, 1) := by decide +kernel
theorem dX7_worth_66 : decode cX7_worth 66 = .ok (.lstore_n 2, 1) := by decide +kernel
theorem dX7_worth_67 : decode cX7_worth 67 = .ok (.lload_n 2, 1) := by decide +kernel
theorem dX7_worth_68 : decode cX7_worth 68 = .ok (.ldc2_w 102, 3) := by decide +kernel
theorem dX7_worth_71 : decode cX7_worth 71 = .ok (.lcmp, 1) := by decide +kernel
theorem dX7_worth_72 : decode cX7_worth 72 = .ok (.ifCond .le 6, 3) := by decide +kernel
theorem dX7_worth_75 : decode cX7_worth 75 = .ok (.bipush (-13), 2) := by decide +kernel
theorem dX7_worth_77 : decode cX7_worth 77 = .ok (.ireturn, 1) := by decide +kernel
theorem dX7_worth_78 : decode cX7_worth 78 = .ok (.iinc 6 1, 3) := by decide +kernel
theorem dX7_worth_81 : decode cX7_worth 81 = .ok (.goto (-61), 3) := by decide +kernel
theorem dX7_worth_84 : decode cX7_worth 84 = .ok (.lload_n 2, 1) := by decide +kernel
theorem dX7_worth_85 : decode cX7_worth 85 = .ok (.l2i, 1) := by decide +kernel
theorem dX7_worth_86 : decode cX7_worth 86 = .ok (.ireturn, 1) := by decide +kernel
set_option maxRecDepth 20000 in
theorem ggX7_lengths_X7_unlikeOf : GoodIn wsX7_lengths wsX7_unlikeOf := goodIn_r _ [6, 7, 8, 9, 5, 10, 11, 12, 13, 14, 15, 16, 17, 18, 19, 20, 21, 22, 23, 24, 25] rfl rfl
set_option maxRecDepth 20000 in
theorem gX7_lengths_X7_unlikeOf : GoodIn wsX7_lengths (wsV RX7 149 RX7 yX7_unlikeOf wsX7_unlikeOf) := goodIn_app (goodIn_r _ [2, 3, 4, 5] rfl rfl) ggX7_lengths_X7_unlikeOf
theorem dX7_lengths_0 : decode cX7_lengths 0 = .ok (.iconst 0, 1) := by decide +kernel
theorem dX7_lengths_1 : decode cX7_lengths 1 = .ok (.istore_n 1, 1) := by decide +kernel
theorem dX7_lengths_2 : decode cX7_lengths 2 = .ok (.iconst 1, 1) := by decide +kernel
theorem dX7_lengths_3 : decode cX7_lengths 3 = .ok (.istore_n 2, 1) := by decide +kernel
theorem dX7_lengths_4 : decode cX7_lengths 4 = .ok (.iload_n 2, 1) := by decide +kernel
theorem dX7_lengths_5 : decode cX7_lengths 5 = .ok (.aload_n 0, 1) := by decide +kernel
theorem dX7_lengths_6 : decode cX7_lengths 6 = .ok (.getfield 56, 3) := by decide +kernel
theorem dX7_lengths_9 : decode cX7_lengths 9 = .ok (.if_icmp .gt 23, 3) := by decide +kernel
theorem dX7_lengths_12 : decode cX7_lengths 12 = .ok (.iload_n 1, 1) := by decide +kernel
theorem dX7_lengths_13 : decode cX7_lengths 13 = .ok (.iload_n 2, 1) := by decide +kernel
theorem dX7_lengths_14 : decode cX7_lengths 14 = .ok (.aload_n 0, 1) := by decide +kernel
theorem dX7_lengths_15 : decode cX7_lengths 15 = .ok (.iload_n 2, 1) := by decide +kernel
theorem dX7_lengths_16 : decode cX7_lengths 16 = .ok (.aload_n 0, 1) := by decide +kernel
theorem dX7_lengths_17 : decode cX7_lengths 17 = .ok (.getfield 56, 3) := by decide +kernel
theorem dX7_lengths_20 : decode cX7_lengths 20 = .ok (.invokevirtual 149, 3) := by decide +kernel
theorem dX7_lengths_23 : decode cX7_lengths 23 = .ok (.imul, 1) := by decide +kernel
theorem dX7_lengths_24 : decode cX7_lengths 24 = .ok (.iadd, 1) := by decide +kernel
theorem dX7_lengths_25 : decode cX7_lengths 25 = .ok (.istore_n 1, 1) := by decide +kernel
theorem dX7_lengths_26 : decode cX7_lengths 26 = .ok (.iinc 2 1, 3) := by decide +kernel
theorem dX7_lengths_29 : decode cX7_lengths 29 = .ok (.goto (-25), 3) := by decide +kernel
theorem dX7_lengths_32 : decode cX7_lengths 32 = .ok (.iload_n 1, 1) := by decide +kernel
theorem dX7_lengths_33 : decode cX7_lengths 33 = .ok (.ireturn, 1) := by decide +kernel
set_option maxRecDepth 20000 in
theorem ggX7_moves_X7_moveOf : GoodIn wsX7_moves wsX7_moveOf := goodIn_r _ [7, 8, 9, 10, 11, 6, 12, 13, 14, 15, 16, 17, 18, 19, 20, 21, 1, 22, 23, 24, 25, 26, 27, 28, 29, 30, 31, 32, 33, 34, 35] rfl rfl
set_option maxRecDepth 20000 in
theorem gX7_moves_X7_moveOf : GoodIn wsX7_moves (wsV RX7 120 RX7 yX7_moveOf wsX7_moveOf) := goodIn_app (goodIn_r _ [3, 4, 5, 6] rfl rfl) ggX7_moves_X7_moveOf
theorem dX7_moves_0 : decode cX7_moves 0 = .ok (.iconst 0, 1) := by decide +kernel
theorem dX7_moves_1 : decode cX7_moves 1 = .ok (.istore_n 1, 1) := by decide +kernel
theorem dX7_moves_2 : decode cX7_moves 2 = .ok (.iconst 0, 1) := by decide +kernel
theorem dX7_moves_3 : decode cX7_moves 3 = .ok (.istore_n 2, 1) := by decide +kernel
theorem dX7_moves_4 : decode cX7_moves 4 = .ok (.iload_n 2, 1) := by decide +kernel
theorem dX7_moves_5 : decode cX7_moves 5 = .ok (.aload_n 0, 1) := by decide +kernel
theorem dX7_moves_6 : decode cX7_moves 6 = .ok (.getfield 59, 3) := by decide +kernel
theorem dX7_moves_9 : decode cX7_moves 9 = .ok (.if_icmp .ge 44, 3) := by decide +kernel
theorem dX7_moves_12 : decode cX7_moves 12 = .ok (.iconst 0, 1) := by decide +kernel
theorem dX7_moves_13 : decode cX7_moves 13 = .ok (.istore_n 3, 1) := by decide +kernel
theorem dX7_moves_14 : decode cX7_moves 14 = .ok (.iload_n 3, 1) := by decide +kernel
theorem dX7_moves_15 : decode cX7_moves 15 = .ok (.aload_n 0, 1) := by decide +kernel
theorem dX7_moves_16 : decode cX7_moves 16 = .ok (.getfield 52, 3) := by decide +kernel
theorem dX7_moves_19 : decode cX7_moves 19 = .ok (.if_icmp .ge 28, 3) := by decide +kernel
theorem dX7_moves_22 : decode cX7_moves 22 = .ok (.iload_n 1, 1) := by decide +kernel
theorem dX7_moves_23 : decode cX7_moves 23 = .ok (.aload_n 0, 1) := by decide +kernel
theorem dX7_moves_24 : decode cX7_moves 24 = .ok (.iload_n 2, 1) := by decide +kernel
theorem dX7_moves_25 : decode cX7_moves 25 = .ok (.iload_n 3, 1) := by decide +kernel
theorem dX7_moves_26 : decode cX7_moves 26 = .ok (.invokevirtual 120, 3) := by decide +kernel
theorem dX7_moves_29 : decode cX7_moves 29 = .ok (.bipush (-4), 2) := by decide +kernel
theorem dX7_moves_31 : decode cX7_moves 31 = .ok (.if_icmp .ne 7, 3) := by decide +kernel
theorem dX7_moves_34 : decode cX7_moves 34 = .ok (.iconst 0, 1) := by decide +kernel
theorem dX7_moves_35 : decode cX7_moves 35 = .ok (.goto 4, 3) := by decide +kernel
theorem dX7_moves_38 : decode cX7_moves 38 = .ok (.iconst 1, 1) := by decide +kernel
theorem dX7_moves_39 : decode cX7_moves 39 = .ok (.iadd, 1) := by decide +kernel
theorem dX7_moves_40 : decode cX7_moves 40 = .ok (.istore_n 1, 1) := by decide +kernel
theorem dX7_moves_41 : decode cX7_moves 41 = .ok (.iinc 3 1, 3) := by decide +kernel
theorem dX7_moves_44 : decode cX7_moves 44 = .ok (.goto (-30), 3) := by decide +kernel
theorem dX7_moves_47 : decode cX7_moves 47 = .ok (.iinc 2 1, 3) := by decide +kernel
theorem dX7_moves_50 : decode cX7_moves 50 = .ok (.goto (-46), 3) := by decide +kernel
theorem dX7_moves_53 : decode cX7_moves 53 = .ok (.iload_n 1, 1) := by decide +kernel
theorem dX7_moves_54 : decode cX7_moves 54 = .ok (.ireturn, 1) := by decide +kernel
theorem dX7_clones_0 : decode cX7_clones 0 = .ok (.iconst 0, 1) := by decide +kernel
theorem dX7_clones_1 : decode cX7_clones 1 = .ok (.istore_n 1, 1) := by decide +kernel
theorem dX7_clones_2 : decode cX7_clones 2 = .ok (.iconst 0, 1) := by decide +kernel
theorem dX7_clones_3 : decode cX7_clones 3 = .ok (.istore_n 2, 1) := by decide +kernel
theorem dX7_clones_4 : decode cX7_clones 4 = .ok (.iload_n 2, 1) := by decide +kernel
theorem dX7_clones_5 : decode cX7_clones 5 = .ok (.aload_n 0, 1) := by decide +kernel
theorem dX7_clones_6 : decode cX7_clones 6 = .ok (.getfield 59, 3) := by decide +kernel
theorem dX7_clones_9 : decode cX7_clones 9 = .ok (.if_icmp .ge 28, 3) := by decide +kernel
theorem dX7_clones_12 : decode cX7_clones 12 = .ok (.iload_n 1, 1) := by decide +kernel
theorem dX7_clones_13 : decode cX7_clones 13 = .ok (.aload_n 0, 1) := by decide +kernel
theorem dX7_clones_14 : decode cX7_clones 14 = .ok (.getfield 19, 3) := by decide +kernel
theorem dX7_clones_17 : decode cX7_clones 17 = .ok (.iload_n 2, 1) := by decide +kernel
theorem dX7_clones_18 : decode cX7_clones 18 = .ok (.iaload, 1) := by decide +kernel
theorem dX7_clones_19 : decode cX7_clones 19 = .ok (.bipush (-4), 2) := by decide +kernel
theorem dX7_clones_21 : decode cX7_clones 21 = .ok (.if_icmp .ne 7, 3) := by decide +kernel
theorem dX7_clones_24 : decode cX7_clones 24 = .ok (.iconst 0, 1) := by decide +kernel
theorem dX7_clones_25 : decode cX7_clones 25 = .ok (.goto 4, 3) := by decide +kernel
theorem dX7_clones_28 : decode cX7_clones 28 = .ok (.iconst 1, 1) := by decide +kernel
theorem dX7_clones_29 : decode cX7_clones 29 = .ok (.iadd, 1) := by decide +kernel
theorem dX7_clones_30 : decode cX7_clones 30 = .ok (.istore_n 1, 1) := by decide +kernel
theorem dX7_clones_31 : decode cX7_clones 31 = .ok (.iinc 2 1, 3) := by decide +kernel
theorem dX7_clones_34 : decode cX7_clones 34 = .ok (.goto (-30), 3) := by decide +kernel
theorem dX7_clones_37 : decode cX7_clones 37 = .ok (.iload_n 1, 1) := by decide +kernel
theorem dX7_clones_38 : decode cX7_clones 38 = .ok (.ireturn, 1) := by decide +kernel
theorem dX7_sheetMany_0 : decode cX7_sheetMany 0 = .ok (.iconst 0, 1) := by decide +kernel
theorem dX7_sheetMany_1 : decode cX7_sheetMany 1 = .ok (.istore_n 1, 1) := by decide +kernel
theorem dX7_sheetMany_2 : decode cX7_sheetMany 2 = .ok (.iconst 0, 1) := by decide +kernel
theorem dX7_sheetMany_3 : decode cX7_sheetMany 3 = .ok (.istore_n 2, 1) := by decide +kernel
theorem dX7_sheetMany_4 : decode cX7_sheetMany 4 = .ok (.iload_n 2, 1) := by decide +kernel
theorem dX7_sheetMany_5 : decode cX7_sheetMany 5 = .ok (.iconst 4, 1) := by decide +kernel
theorem dX7_sheetMany_6 : decode cX7_sheetMany 6 = .ok (.if_icmp .ge 26, 3) := by decide +kernel
theorem dX7_sheetMany_9 : decode cX7_sheetMany 9 = .ok (.iload_n 1, 1) := by decide +kernel
theorem dX7_sheetMany_10 : decode cX7_sheetMany 10 = .ok (.aload_n 0, 1) := by decide +kernel
theorem dX7_sheetMany_11 : decode cX7_sheetMany 11 = .ok (.getfield 26, 3) := by decide +kernel
theorem dX7_sheetMany_14 : decode cX7_sheetMany 14 = .ok (.iload_n 2, 1) := by decide +kernel
theorem dX7_sheetMany_15 : decode cX7_sheetMany 15 = .ok (.iaload, 1) := by decide +kernel
theorem dX7_sheetMany_16 : decode cX7_sheetMany 16 = .ok (.ifCond .ge 7, 3) := by decide +kernel
theorem dX7_sheetMany_19 : decode cX7_sheetMany 19 = .ok (.iconst 0, 1) := by decide +kernel
theorem dX7_sheetMany_20 : decode cX7_sheetMany 20 = .ok (.goto 4, 3) := by decide +kernel
theorem dX7_sheetMany_23 : decode cX7_sheetMany 23 = .ok (.iconst 1, 1) := by decide +kernel
theorem dX7_sheetMany_24 : decode cX7_sheetMany 24 = .ok (.iadd, 1) := by decide +kernel
theorem dX7_sheetMany_25 : decode cX7_sheetMany 25 = .ok (.istore_n 1, 1) := by decide +kernel
theorem dX7_sheetMany_26 : decode cX7_sheetMany 26 = .ok (.iinc 2 1, 3) := by decide +kernel
theorem dX7_sheetMany_29 : decode cX7_sheetMany 29 = .ok (.goto (-25), 3) := by decide +kernel
theorem dX7_sheetMany_32 : decode cX7_sheetMany 32 = .ok (.iload_n 1, 1) := by decide +kernel
theorem dX7_sheetMany_33 : decode cX7_sheetMany 33 = .ok (.ireturn, 1) := by decide +kernel
set_option maxRecDepth 20000 in
theorem ggX7_count_X7_clones : GoodIn wsX7_count wsX7_clones := goodIn_r _ [8, 3, 9, 75, 76, 77, 78, 79, 80, 81, 82, 83, 84, 85, 86, 87, 88] rfl rfl
set_option maxRecDepth 20000 in
theorem gX7_count_X7_clones : GoodIn wsX7_count (wsV RX7 176 RX7 yX7_clones wsX7_clones) := goodIn_app (goodIn_r _ [4, 5, 6, 7] rfl rfl) ggX7_count_X7_clones
set_option maxRecDepth 20000 in
theorem ggX7_count_X7_moves : GoodIn wsX7_count wsX7_moves := goodIn_r _ [13, 3, 1, 14, 15, 16, 7, 17, 18, 19, 20, 21, 22, 2, 23, 24, 25, 26, 27, 28, 29, 30, 75, 76, 77, 78, 79, 80, 81, 82, 83, 84, 85, 86, 87, 88] rfl rfl
set_option maxRecDepth 20000 in
theorem gX7_count_X7_moves : GoodIn wsX7_count (wsV RX7 179 RX7 yX7_moves wsX7_moves) := goodIn_app (goodIn_r _ [10, 11, 12, 7] rfl rfl) ggX7_count_X7_moves
set_option maxRecDepth 20000 in
theorem ggX7_count_X7_unlike : GoodIn wsX7_count wsX7_unlike := goodIn_r _ [34, 2, 35, 36, 7, 37, 38, 39, 40, 41, 42, 43, 44, 45, 23, 75, 76, 77, 78, 79, 80, 81, 82, 83, 84, 85, 86, 87, 88] rfl rfl
set_option maxRecDepth 20000 in
theorem gX7_count_X7_unlike : GoodIn wsX7_count (wsV RX7 182 RX7 yX7_unlike wsX7_unlike) := goodIn_app (goodIn_r _ [31, 32, 33, 7] rfl rfl) ggX7_count_X7_unlike
set_option maxRecDepth 20000 in
theorem ggX7_count_X7_againAt : GoodIn wsX7_count wsX7_againAt := goodIn_r _ [49, 42, 43, 44, 7, 45, 23, 75, 76, 77, 78, 79, 80, 81, 82, 83, 84, 85, 86, 87, 88] rfl rfl
set_option maxRecDepth 20000 in
theorem gX7_count_X7_againAt : GoodIn wsX7_count (wsV RX7 66 RX7 yX7_againAt wsX7_againAt) := goodIn_app (goodIn_r _ [46, 47, 48, 7] rfl rfl) ggX7_count_X7_againAt
set_option maxRecDepth 20000 in
theorem ggX7_count_X7_period : GoodIn wsX7_count wsX7_period := goodIn_r _ [53, 2, 54, 55, 56, 7, 57, 42, 43, 44, 45, 23, 75, 76, 77, 78, 79, 80, 81, 82, 83, 84, 85, 86, 87, 88] rfl rfl
set_option maxRecDepth 20000 in
theorem gX7_count_X7_period : GoodIn wsX7_count (wsV RX7 185 RX7 yX7_period wsX7_period) := goodIn_app (goodIn_r _ [50, 51, 52, 7] rfl rfl) ggX7_count_X7_period
set_option maxRecDepth 20000 in
theorem ggX7_count_X7_lengths : GoodIn wsX7_count wsX7_lengths := goodIn_r _ [61, 2, 38, 39, 40, 7, 41, 42, 43, 44, 45, 23, 75, 76, 77, 78, 79, 80, 81, 82, 83, 84, 85, 86, 87, 88] rfl rfl
set_option maxRecDepth 20000 in
theorem gX7_count_X7_lengths : GoodIn wsX7_count (wsV RX7 188 RX7 yX7_lengths wsX7_lengths) := goodIn_app (goodIn_r _ [58, 59, 60, 7] rfl rfl) ggX7_count_X7_lengths
set_option maxRecDepth 20000 in
theorem ggX7_count_X7_sheetMany : GoodIn wsX7_count wsX7_sheetMany := goodIn_r _ [65, 66, 75, 76, 77, 78, 79, 80, 81, 82, 83, 84, 85, 86, 87, 88] rfl rfl
set_option maxRecDepth 20000 in
theorem gX7_count_X7_sheetMany : GoodIn wsX7_count (wsV RX7 191 RX7 yX7_sheetMany wsX7_sheetMany) := goodIn_app (goodIn_r _ [62, 63, 64, 7] rfl rfl) ggX7_count_X7_sheetMany
set_option maxRecDepth 20000 in
theorem ggX7_count_X7_partMany : GoodIn wsX7_count wsX7_partMany := goodIn_r _ [70, 2, 71, 72, 73, 7, 74, 46, 47, 48, 49, 42, 43, 44, 45, 23, 75, 76, 77, 78, 79, 80, 81, 82, 83, 84, 85, 86, 87, 88] rfl rfl
set_option maxRecDepth 20000 in
theorem gX7_count_X7_partMany : GoodIn wsX7_count (wsV RX7 172 RX7 yX7_partMany wsX7_partMany) := goodIn_app (goodIn_r _ [67, 68, 69, 7] rfl rfl) ggX7_count_X7_partMany
theorem dX7_count_0 : decode cX7_count 0 = .ok (.iload_n 1, 1) := by decide +kernel
theorem dX7_count_1 : decode cX7_count 1 = .ok (.tableswitch 134 0 10 #[59, 64, 69, 74, 79, 84, 93, 114, 119, 124, 129], 59) := by decide +kernel
theorem dX7_count_60 : decode cX7_count 60 = .ok (.aload_n 0, 1) := by decide +kernel
theorem dX7_count_61 : decode cX7_count 61 = .ok (.getfield 52, 3) := by decide +kernel
theorem dX7_count_64 : decode cX7_count 64 = .ok (.ireturn, 1) := by decide +kernel
theorem dX7_count_65 : decode cX7_count 65 = .ok (.aload_n 0, 1) := by decide +kernel
theorem dX7_count_66 : decode cX7_count 66 = .ok (.getfield 56, 3) := by decide +kernel
theorem dX7_count_69 : decode cX7_count 69 = .ok (.ireturn, 1) := by decide +kernel
theorem dX7_count_70 : decode cX7_count 70 = .ok (.aload_n 0, 1) := by decide +kernel
theorem dX7_count_71 : decode cX7_count 71 = .ok (.getfield 59, 3) := by decide +kernel
theorem dX7_count_74 : decode cX7_count 74 = .ok (.ireturn, 1) := by decide +kernel
theorem dX7_count_75 : decode cX7_count 75 = .ok (.aload_n 0, 1) := by decide +kernel
theorem dX7_count_76 : decode cX7_count 76 = .ok (.invokevirtual 176, 3) := by decide +kernel
theorem dX7_count_79 : decode cX7_count 79 = .ok (.ireturn, 1) := by decide +kernel
theorem dX7_count_80 : decode cX7_count 80 = .ok (.aload_n 0, 1) := by decide +kernel
theorem dX7_count_81 : decode cX7_count 81 = .ok (.invokevirtual 179, 3) := by decide +kernel
theorem dX7_count_84 : decode cX7_count 84 = .ok (.ireturn, 1) := by decide +kernel
theorem dX7_count_85 : decode cX7_count 85 = .ok (.aload_n 0, 1) := by decide +kernel
theorem dX7_count_86 : decode cX7_count 86 = .ok (.aload_n 0, 1) := by decide +kernel
theorem dX7_count_87 : decode cX7_count 87 = .ok (.getfield 56, 3) := by decide +kernel
theorem dX7_count_90 : decode cX7_count 90 = .ok (.invokevirtual 182, 3) := by decide +kernel
theorem dX7_count_93 : decode cX7_count 93 = .ok (.ireturn, 1) := by decide +kernel
theorem dX7_count_94 : decode cX7_count 94 = .ok (.aload_n 0, 1) := by decide +kernel
theorem dX7_count_95 : decode cX7_count 95 = .ok (.getfield 56, 3) := by decide +kernel
theorem dX7_count_98 : decode cX7_count 98 = .ok (.ifCond .ne 8, 3) := by decide +kernel
theorem dX7_count_101 : decode cX7_count 101 = .ok (.bipush (-4), 2) := by decide +kernel
theorem dX7_count_103 : decode cX7_count 103 = .ok (.goto 11, 3) := by decide +kernel
theorem dX7_count_106 : decode cX7_count 106 = .ok (.aload_n 0, 1) := by decide +kernel
theorem dX7_count_107 : decode cX7_count 107 = .ok (.aload_n 0, 1) := by decide +kernel
theorem dX7_count_108 : decode cX7_count 108 = .ok (.getfield 56, 3) := by decide +kernel
theorem dX7_count_111 : decode cX7_count 111 = .ok (.invokevirtual 66, 3) := by decide +kernel
theorem dX7_count_114 : decode cX7_count 114 = .ok (.ireturn, 1) := by decide +kernel
theorem dX7_count_115 : decode cX7_count 115 = .ok (.aload_n 0, 1) := by decide +kernel
theorem dX7_count_116 : decode cX7_count 116 = .ok (.invokevirtual 185, 3) := by decide +kernel
theorem dX7_count_119 : decode cX7_count 119 = .ok (.ireturn, 1) := by decide +kernel
theorem dX7_count_120 : decode cX7_count 120 = .ok (.aload_n 0, 1) := by decide +kernel
theorem dX7_count_121 : decode cX7_count 121 = .ok (.invokevirtual 188, 3) := by decide +kernel
theorem dX7_count_124 : decode cX7_count 124 = .ok (.ireturn, 1) := by decide +kernel
theorem dX7_count_125 : decode cX7_count 125 = .ok (.aload_n 0, 1) := by decide +kernel
theorem dX7_count_126 : decode cX7_count 126 = .ok (.invokevirtual 191, 3) := by decide +kernel
theorem dX7_count_129 : decode cX7_count 129 = .ok (.ireturn, 1) := by decide +kernel
theorem dX7_count_130 : decode cX7_count 130 = .ok (.aload_n 0, 1) := by decide +kernel
theorem dX7_count_131 : decode cX7_count 131 = .ok (.invokevirtual 172, 3) := by decide +kernel
theorem dX7_count_134 : decode cX7_count 134 = .ok (.ireturn, 1) := by decide +kernel
theorem dX7_count_135 : decode cX7_count 135 = .ok (.iconst (-1), 1) := by decide +kernel
theorem dX7_count_136 : decode cX7_count 136 = .ok (.ireturn, 1) := by decide +kernel
set_option maxRecDepth 20000 in
theorem ggX7_keep_X7_in : GoodIn wsX7_keep wsX7_in := goodIn_r _ [10] rfl rfl
set_option maxRecDepth 20000 in
theorem gX7_keep_X7_in : GoodIn wsX7_keep (va_wsS RX7 85 yX7_in wsX7_in) := goodIn_app (goodIn_r _ [7, 8, 9] rfl rfl) ggX7_keep_X7_in
theorem dX7_keep_0 : decode cX7_keep 0 = .ok (.iload_n 1, 1) := by decide +kernel
theorem dX7_keep_1 : decode cX7_keep 1 = .ok (.iconst 0, 1) := by decide +kernel
theorem dX7_keep_2 : decode cX7_keep 2 = .ok (.iconst 1, 1) := by decide +kernel
theorem dX7_keep_3 : decode cX7_keep 3 = .ok (.invokestatic 85, 3) := by decide +kernel
theorem dX7_keep_6 : decode cX7_keep 6 = .ok (.ifCond .ne 5, 3) := by decide +kernel
theorem dX7_keep_9 : decode cX7_keep 9 = .ok (.iconst (-1), 1) := by decide +kernel
theorem dX7_keep_10 : decode cX7_keep 10 = .ok (.ireturn, 1) := by decide +kernel
theorem dX7_keep_11 : decode cX7_keep 11 = .ok (.aload_n 0, 1) := by decide +kernel
theorem dX7_keep_12 : decode cX7_keep 12 = .ok (.getfield 35, 3) := by decide +kernel
theorem dX7_keep_15 : decode cX7_keep 15 = .ok (.iload_n 1, 1) := by decide +kernel
theorem dX7_keep_16 : decode cX7_keep 16 = .ok (.aload_n 0, 1) := by decide +kernel
theorem dX7_keep_17 : decode cX7_keep 17 = .ok (.getfield 52, 3) := by decide +kernel
theorem dX7_keep_20 : decode cX7_keep 20 = .ok (.iastore, 1) := by decide +kernel
theorem dX7_keep_21 : decode cX7_keep 21 = .ok (.aload_n 0, 1) := by decide +kernel
theorem dX7_keep_22 : decode cX7_keep 22 = .ok (.getfield 38, 3) := by decide +kernel
theorem dX7_keep_25 : decode cX7_keep 25 = .ok (.iload_n 1, 1) := by decide +kernel
theorem dX7_keep_26 : decode cX7_keep 26 = .ok (.aload_n 0, 1) := by decide +kernel
theorem dX7_keep_27 : decode cX7_keep 27 = .ok (.getfield 56, 3) := by decide +kernel
theorem dX7_keep_30 : decode cX7_keep 30 = .ok (.iastore, 1) := by decide +kernel
theorem dX7_keep_31 : decode cX7_keep 31 = .ok (.iconst 0, 1) := by decide +kernel
theorem dX7_keep_32 : decode cX7_keep 32 = .ok (.istore_n 2, 1) := by decide +kernel
theorem dX7_keep_33 : decode cX7_keep 33 = .ok (.iload_n 2, 1) := by decide +kernel
theorem dX7_keep_34 : decode cX7_keep 34 = .ok (.aload_n 0, 1) := by decide +kernel
theorem dX7_keep_35 : decode cX7_keep 35 = .ok (.getfield 56, 3) := by decide +kernel
theorem dX7_keep_38 : decode cX7_keep 38 = .ok (.if_icmp .ge 26, 3) := by decide +kernel
theorem dX7_keep_41 : decode cX7_keep 41 = .ok (.aload_n 0, 1) := by decide +kernel
theorem dX7_keep_42 : decode cX7_keep 42 = .ok (.getfield 41, 3) := by decide +kernel
theorem dX7_keep_45 : decode cX7_keep 45 = .ok (.bipush 60, 2) := by decide +kernel
theorem dX7_keep_47 : decode cX7_keep 47 = .ok (.iload_n 1, 1) := by decide +kernel
theorem dX7_keep_48 : decode cX7_keep 48 = .ok (.imul, 1) := by decide +kernel
theorem dX7_keep_49 : decode cX7_keep 49 = .ok (.iload_n 2, 1) := by decide +kernel
theorem dX7_keep_50 : decode cX7_keep 50 = .ok (.iadd, 1) := by decide +kernel
theorem dX7_keep_51 : decode cX7_keep 51 = .ok (.aload_n 0, 1) := by decide +kernel
theorem dX7_keep_52 : decode cX7_keep 52 = .ok (.getfield 7, 3) := by decide +kernel
theorem dX7_keep_55 : decode cX7_keep 55 = .ok (.iload_n 2, 1) := by decide +kernel
theorem dX7_keep_56 : decode cX7_keep 56 = .ok (.iaload, 1) := by decide +kernel
theorem dX7_keep_57 : decode cX7_keep 57 = .ok (.iastore, 1) := by decide +kernel
theorem dX7_keep_58 : decode cX7_keep 58 = .ok (.iinc 2 1, 3) := by decide +kernel
theorem dX7_keep_61 : decode cX7_keep 61 = .ok (.goto (-28), 3) := by decide +kernel
theorem dX7_keep_64 : decode cX7_keep 64 = .ok (.aload_n 0, 1) := by decide +kernel
theorem dX7_keep_65 : decode cX7_keep 65 = .ok (.getfield 56, 3) := by decide +kernel
theorem dX7_keep_68 : decode cX7_keep 68 = .ok (.ireturn, 1) := by decide +kernel
set_option maxRecDepth 20000 in
theorem ggX7_goBack_X7_in : GoodIn wsX7_goBack wsX7_in := goodIn_r _ [8] rfl rfl
set_option maxRecDepth 20000 in
theorem gX7_goBack_X7_in : GoodIn wsX7_goBack (va_wsS RX7 85 yX7_in wsX7_in) := goodIn_app (goodIn_r _ [5, 6, 7] rfl rfl) ggX7_goBack_X7_in
set_option maxRecDepth 20000 in
theorem ggX7_goBack_X7_begins : GoodIn wsX7_goBack wsX7_begins := goodIn_r _ [12, 13, 4, 14, 15, 16, 17, 18, 50, 51, 52, 53, 54, 55, 56, 57, 58, 59, 60, 61, 62, 63] rfl rfl
set_option maxRecDepth 20000 in
theorem gX7_goBack_X7_begins : GoodIn wsX7_goBack (wsV RX7 44 RX7 yX7_begins wsX7_begins) := goodIn_app (goodIn_r _ [9, 10, 11, 7] rfl rfl) ggX7_goBack_X7_begins
set_option maxRecDepth 20000 in
theorem ggX7_goBack_X7_grows : GoodIn wsX7_goBack wsX7_grows := goodIn_r _ [22, 23, 4, 14, 18, 15, 24, 25, 26, 7, 27, 28, 29, 30, 31, 32, 33, 34, 35, 36, 37, 38, 39, 40, 41, 42, 43, 44, 45, 46, 47, 48, 49, 16, 17, 50, 51, 52, 53, 54, 55, 56, 57, 58, 59, 60, 61, 62, 63] rfl rfl
set_option maxRecDepth 20000 in
theorem gX7_goBack_X7_grows : GoodIn wsX7_goBack (wsV RX7 93 RX7 yX7_grows wsX7_grows) := goodIn_app (goodIn_r _ [19, 20, 21, 7] rfl rfl) ggX7_goBack_X7_grows
theorem dX7_goBack_0 : decode cX7_goBack 0 = .ok (.iload_n 1, 1) := by decide +kernel
theorem dX7_goBack_1 : decode cX7_goBack 1 = .ok (.iconst 0, 1) := by decide +kernel
theorem dX7_goBack_2 : decode cX7_goBack 2 = .ok (.iconst 1, 1) := by decide +kernel
theorem dX7_goBack_3 : decode cX7_goBack 3 = .ok (.invokestatic 85, 3) := by decide +kernel
theorem dX7_goBack_6 : decode cX7_goBack 6 = .ok (.ifCond .ne 5, 3) := by decide +kernel
theorem dX7_goBack_9 : decode cX7_goBack 9 = .ok (.iconst (-1), 1) := by decide +kernel
theorem dX7_goBack_10 : decode cX7_goBack 10 = .ok (.ireturn, 1) := by decide +kernel
theorem dX7_goBack_11 : decode cX7_goBack 11 = .ok (.aload_n 0, 1) := by decide +kernel
theorem dX7_goBack_12 : decode cX7_goBack 12 = .ok (.getfield 35, 3) := by decide +kernel
theorem dX7_goBack_15 : decode cX7_goBack 15 = .ok (.iload_n 1, 1) := by decide +kernel
theorem dX7_goBack_16 : decode cX7_goBack 16 = .ok (.iaload, 1) := by decide +kernel
theorem dX7_goBack_17 : decode cX7_goBack 17 = .ok (.ifCond .ne 6, 3) := by decide +kernel
theorem dX7_goBack_20 : decode cX7_goBack 20 = .ok (.bipush (-2), 2) := by decide +kernel
theorem dX7_goBack_22 : decode cX7_goBack 22 = .ok (.ireturn, 1) := by decide +kernel
theorem dX7_goBack_23 : decode cX7_goBack 23 = .ok (.aload_n 0, 1) := by decide +kernel
theorem dX7_goBack_24 : decode cX7_goBack 24 = .ok (.aload_n 0, 1) := by decide +kernel
theorem dX7_goBack_25 : decode cX7_goBack 25 = .ok (.getfield 35, 3) := by decide +kernel
theorem dX7_goBack_28 : decode cX7_goBack 28 = .ok (.iload_n 1, 1) := by decide +kernel
theorem dX7_goBack_29 : decode cX7_goBack 29 = .ok (.iaload, 1) := by decide +kernel
theorem dX7_goBack_30 : decode cX7_goBack 30 = .ok (.invokevirtual 44, 3) := by decide +kernel
theorem dX7_goBack_33 : decode cX7_goBack 33 = .ok (.iconst 0, 1) := by decide +kernel
theorem dX7_goBack_34 : decode cX7_goBack 34 = .ok (.istore_n 2, 1) := by decide +kernel
theorem dX7_goBack_35 : decode cX7_goBack 35 = .ok (.iload_n 2, 1) := by decide +kernel
theorem dX7_goBack_36 : decode cX7_goBack 36 = .ok (.aload_n 0, 1) := by decide +kernel
theorem dX7_goBack_37 : decode cX7_goBack 37 = .ok (.getfield 38, 3) := by decide +kernel
theorem dX7_goBack_40 : decode cX7_goBack 40 = .ok (.iload_n 1, 1) := by decide +kernel
theorem dX7_goBack_41 : decode cX7_goBack 41 = .ok (.iaload, 1) := by decide +kernel
theorem dX7_goBack_42 : decode cX7_goBack 42 = .ok (.if_icmp .ge 24, 3) := by decide +kernel
theorem dX7_goBack_45 : decode cX7_goBack 45 = .ok (.aload_n 0, 1) := by decide +kernel
theorem dX7_goBack_46 : decode cX7_goBack 46 = .ok (.aload_n 0, 1) := by decide +kernel
theorem dX7_goBack_47 : decode cX7_goBack 47 = .ok (.getfield 41, 3) := by decide +kernel
theorem dX7_goBack_50 : decode cX7_goBack 50 = .ok (.bipush 60, 2) := by decide +kernel
theorem dX7_goBack_52 : decode cX7_goBack 52 = .ok (.iload_n 1, 1) := by decide +kernel
theorem dX7_goBack_53 : decode cX7_goBack 53 = .ok (.imul, 1) := by decide +kernel
theorem dX7_goBack_54 : decode cX7_goBack 54 = .ok (.iload_n 2, 1) := by decide +kernel
theorem dX7_goBack_55 : decode cX7_goBack 55 = .ok (.iadd, 1) := by decide +kernel
theorem dX7_goBack_56 : decode cX7_goBack 56 = .ok (.iaload, 1) := by decide +kernel
theorem dX7_goBack_57 : decode cX7_goBack 57 = .ok (.invokevirtual 93, 3) := by decide +kernel
theorem dX7_goBack_60 : decode cX7_goBack 60 = .ok (.iinc 2 1, 3) := by decide +kernel
theorem dX7_goBack_63 : decode cX7_goBack 63 = .ok (.goto (-28), 3) := by decide +kernel
theorem dX7_goBack_66 : decode cX7_goBack 66 = .ok (.aload_n 0, 1) := by decide +kernel
theorem dX7_goBack_67 : decode cX7_goBack 67 = .ok (.getfield 56, 3) := by decide +kernel
theorem dX7_goBack_70 : decode cX7_goBack 70 = .ok (.ireturn, 1) := by decide +kernel
theorem dJ13_bitCount_95d88_0 : decode cJ13_bitCount_95d88 0 = .ok (.lload_n 0, 1) := by decide +kernel
theorem dJ13_bitCount_95d88_1 : decode cJ13_bitCount_95d88 1 = .ok (.lload_n 0, 1) := by decide +kernel
theorem dJ13_bitCount_95d88_2 : decode cJ13_bitCount_95d88 2 = .ok (.iconst 1, 1) := by decide +kernel
theorem dJ13_bitCount_95d88_3 : decode cJ13_bitCount_95d88 3 = .ok (.lushr, 1) := by decide +kernel
theorem dJ13_bitCount_95d88_4 : decode cJ13_bitCount_95d88 4 = .ok (.ldc2_w 314, 3) := by decide +kernel
theorem dJ13_bitCount_95d88_7 : decode cJ13_bitCount_95d88 7 = .ok (.land, 1) := by decide +kernel
theorem dJ13_bitCount_95d88_8 : decode cJ13_bitCount_95d88 8 = .ok (.lsub, 1) := by decide +kernel
theorem dJ13_bitCount_95d88_9 : decode cJ13_bitCount_95d88 9 = .ok (.lstore_n 0, 1) := by decide +kernel
theorem dJ13_bitCount_95d88_10 : decode cJ13_bitCount_95d88 10 = .ok (.lload_n 0, 1) := by decide +kernel
theorem dJ13_bitCount_95d88_11 : decode cJ13_bitCount_95d88 11 = .ok (.ldc2_w 316, 3) := by decide +kernel
theorem dJ13_bitCount_95d88_14 : decode cJ13_bitCount_95d88 14 = .ok (.land, 1) := by decide +kernel
theorem dJ13_bitCount_95d88_15 : decode cJ13_bitCount_95d88 15 = .ok (.lload_n 0, 1) := by decide +kernel
theorem dJ13_bitCount_95d88_16 : decode cJ13_bitCount_95d88 16 = .ok (.iconst 2, 1) := by decide +kernel
theorem dJ13_bitCount_95d88_17 : decode cJ13_bitCount_95d88 17 = .ok (.lushr, 1) := by decide +kernel
theorem dJ13_bitCount_95d88_18 : decode cJ13_bitCount_95d88 18 = .ok (.ldc2_w 316, 3) := by decide +kernel
theorem dJ13_bitCount_95d88_21 : decode cJ13_bitCount_95d88 21 = .ok (.land, 1) := by decide +kernel
theorem dJ13_bitCount_95d88_22 : decode cJ13_bitCount_95d88 22 = .ok (.ladd, 1) := by decide +kernel
theorem dJ13_bitCount_95d88_23 : decode cJ13_bitCount_95d88 23 = .ok (.lstore_n 0, 1) := by decide +kernel
theorem dJ13_bitCount_95d88_24 : decode cJ13_bitCount_95d88 24 = .ok (.lload_n 0, 1) := by decide +kernel
theorem dJ13_bitCount_95d88_25 : decode cJ13_bitCount_95d88 25 = .ok (.lload_n 0, 1) := by decide +kernel
theorem dJ13_bitCount_95d88_26 : decode cJ13_bitCount_95d88 26 = .ok (.iconst 4, 1) := by decide +kernel
theorem dJ13_bitCount_95d88_27 : decode cJ13_bitCount_95d88 27 = .ok (.lushr, 1) := by decide +kernel
theorem dJ13_bitCount_95d88_28 : decode cJ13_bitCount_95d88 28 = .ok (.ladd, 1) := by decide +kernel
theorem dJ13_bitCount_95d88_29 : decode cJ13_bitCount_95d88 29 = .ok (.ldc2_w 318, 3) := by decide +kernel
theorem dJ13_bitCount_95d88_32 : decode cJ13_bitCount_95d88 32 = .ok (.land, 1) := by decide +kernel
theorem dJ13_bitCount_95d88_33 : decode cJ13_bitCount_95d88 33 = .ok (.lstore_n 0, 1) := by decide +kernel
theorem dJ13_bitCount_95d88_34 : decode cJ13_bitCount_95d88 34 = .ok (.lload_n 0, 1) := by decide +kernel
theorem dJ13_bitCount_95d88_35 : decode cJ13_bitCount_95d88 35 = .ok (.lload_n 0, 1) := by decide +kernel
theorem dJ13_bitCount_95d88_36 : decode cJ13_bitCount_95d88 36 = .ok (.bipush 8, 2) := by decide +kernel
theorem dJ13_bitCount_95d88_38 : decode cJ13_bitCount_95d88 38 = .ok (.lushr, 1) := by decide +kernel
theorem dJ13_bitCount_95d88_39 : decode cJ13_bitCount_95d88 39 = .ok (.ladd, 1) := by decide +kernel
theorem dJ13_bitCount_95d88_40 : decode cJ13_bitCount_95d88 40 = .ok (.lstore_n 0, 1) := by decide +kernel
theorem dJ13_bitCount_95d88_41 : decode cJ13_bitCount_95d88 41 = .ok (.lload_n 0, 1) := by decide +kernel
theorem dJ13_bitCount_95d88_42 : decode cJ13_bitCount_95d88 42 = .ok (.lload_n 0, 1) := by decide +kernel
theorem dJ13_bitCount_95d88_43 : decode cJ13_bitCount_95d88 43 = .ok (.bipush 16, 2) := by decide +kernel
theorem dJ13_bitCount_95d88_45 : decode cJ13_bitCount_95d88 45 = .ok (.lushr, 1) := by decide +kernel
theorem dJ13_bitCount_95d88_46 : decode cJ13_bitCount_95d88 46 = .ok (.ladd, 1) := by decide +kernel
theorem dJ13_bitCount_95d88_47 : decode cJ13_bitCount_95d88 47 = .ok (.lstore_n 0, 1) := by decide +kernel
theorem dJ13_bitCount_95d88_48 : decode cJ13_bitCount_95d88 48 = .ok (.lload_n 0, 1) := by decide +kernel
theorem dJ13_bitCount_95d88_49 : decode cJ13_bitCount_95d88 49 = .ok (.lload_n 0, 1) := by decide +kernel
theorem dJ13_bitCount_95d88_50 : decode cJ13_bitCount_95d88 50 = .ok (.bipush 32, 2) := by decide +kernel
theorem dJ13_bitCount_95d88_52 : decode cJ13_bitCount_95d88 52 = .ok (.lushr, 1) := by decide +kernel
theorem dJ13_bitCount_95d88_53 : decode cJ13_bitCount_95d88 53 = .ok (.ladd, 1) := by decide +kernel
theorem dJ13_bitCount_95d88_54 : decode cJ13_bitCount_95d88 54 = .ok (.lstore_n 0, 1) := by decide +kernel
theorem dJ13_bitCount_95d88_55 : decode cJ13_bitCount_95d88 55 = .ok (.lload_n 0, 1) := by decide +kernel
theorem dJ13_bitCount_95d88_56 : decode cJ13_bitCount_95d88 56 = .ok (.l2i, 1) := by decide +kernel
theorem dJ13_bitCount_95d88_57 : decode cJ13_bitCount_95d88 57 = .ok (.bipush 127, 2) := by decide +kernel
theorem dJ13_bitCount_95d88_59 : decode cJ13_bitCount_95d88 59 = .ok (.iand, 1) := by decide +kernel
theorem dJ13_bitCount_95d88_60 : decode cJ13_bitCount_95d88 60 = .ok (.ireturn, 1) := by decide +kernel
theorem dJ9_max_7cf53_0 : decode cJ9_max_7cf53 0 = .ok (.iload_n 0, 1) := by decide +kernel
theorem dJ9_max_7cf53_1 : decode cJ9_max_7cf53 1 = .ok (.iload_n 1, 1) := by decide +kernel
theorem dJ9_max_7cf53_2 : decode cJ9_max_7cf53 2 = .ok (.if_icmp .lt 7, 3) := by decide +kernel
theorem dJ9_max_7cf53_5 : decode cJ9_max_7cf53 5 = .ok (.iload_n 0, 1) := by decide +kernel
theorem dJ9_max_7cf53_6 : decode cJ9_max_7cf53 6 = .ok (.goto 4, 3) := by decide +kernel
theorem dJ9_max_7cf53_9 : decode cJ9_max_7cf53 9 = .ok (.iload_n 1, 1) := by decide +kernel
theorem dJ9_max_7cf53_10 : decode cJ9_max_7cf53 10 = .ok (.ireturn, 1) := by decide +kernel
theorem dJ9_min_7cf53_0 : decode cJ9_min_7cf53 0 = .ok (.iload_n 0, 1) := by decide +kernel
theorem dJ9_min_7cf53_1 : decode cJ9_min_7cf53 1 = .ok (.iload_n 1, 1) := by decide +kernel
theorem dJ9_min_7cf53_2 : decode cJ9_min_7cf53 2 = .ok (.if_icmp .gt 7, 3) := by decide +kernel
theorem dJ9_min_7cf53_5 : decode cJ9_min_7cf53 5 = .ok (.iload_n 0, 1) := by decide +kernel
theorem dJ9_min_7cf53_6 : decode cJ9_min_7cf53 6 = .ok (.goto 4, 3) := by decide +kernel
theorem dJ9_min_7cf53_9 : decode cJ9_min_7cf53 9 = .ok (.iload_n 1, 1) := by decide +kernel
theorem dJ9_min_7cf53_10 : decode cJ9_min_7cf53 10 = .ok (.ireturn, 1) := by decide +kernel
