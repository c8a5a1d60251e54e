set_option maxRecDepth 20000 in
theorem ggX7_init_X7_begins : GoodIn wsX7_init wsX7_begins := goodIn_r _ [21, 22, 23, 24, 6, 7, 8, 10, 25, 26, 27, 28, 29, 30, 31, 32, 33, 34, 35, 36, 37, 38] rfl rfl
set_option maxRecDepth 20000 in
theorem gX7_init_X7_begins : GoodIn wsX7_init (wsV RX7 44 RX7 yX7_begins wsX7_begins) := goodIn_app (goodIn_r _ [17, 18, 19, 20] rfl rfl) ggX7_init_X7_begins
theorem dX7_init_0 : decode cX7_init 0 = .ok (.aload_n 0, 1) := by decide +kernel
theorem dX7_init_1 : decode cX7_init 1 = .ok (.invokespecial 1, 3) := by decide +kernel
theorem dX7_init_4 : decode cX7_init 4 = .ok (.aload_n 0, 1) := by decide +kernel
theorem dX7_init_5 : decode cX7_init 5 = .ok (.bipush 60, 2) := by decide +kernel
theorem dX7_init_7 : decode cX7_init 7 = .ok (.newarray .int, 2) := by decide +kernel
theorem dX7_init_9 : decode cX7_init 9 = .ok (.putfield 7, 3) := by decide +kernel
theorem dX7_init_12 : decode cX7_init 12 = .ok (.aload_n 0, 1) := by decide +kernel
theorem dX7_init_13 : decode cX7_init 13 = .ok (.bipush 121, 2) := by decide +kernel
theorem dX7_init_15 : decode cX7_init 15 = .ok (.newarray .int, 2) := by decide +kernel
theorem dX7_init_17 : decode cX7_init 17 = .ok (.putfield 13, 3) := by decide +kernel
theorem dX7_init_20 : decode cX7_init 20 = .ok (.aload_n 0, 1) := by decide +kernel
theorem dX7_init_21 : decode cX7_init 21 = .ok (.bipush 121, 2) := by decide +kernel
theorem dX7_init_23 : decode cX7_init 23 = .ok (.newarray .int, 2) := by decide +kernel
theorem dX7_init_25 : decode cX7_init 25 = .ok (.putfield 16, 3) := by decide +kernel
theorem dX7_init_28 : decode cX7_init 28 = .ok (.aload_n 0, 1) := by decide +kernel
theorem dX7_init_29 : decode cX7_init 29 = .ok (.bipush 121, 2) := by decide +kernel
theorem dX7_init_31 : decode cX7_init 31 = .ok (.newarray .int, 2) := by decide +kernel
theorem dX7_init_33 : decode cX7_init 33 = .ok (.putfield 19, 3) := by decide +kernel
theorem dX7_init_36 : decode cX7_init 36 = .ok (.aload_n 0, 1) := by decide +kernel
theorem dX7_init_37 : decode cX7_init 37 = .ok (.bipush 121, 2) := by decide +kernel
theorem dX7_init_39 : decode cX7_init 39 = .ok (.newarray .long, 2) := by decide +kernel
theorem dX7_init_41 : decode cX7_init 41 = .ok (.putfield 22, 3) := by decide +kernel
theorem dX7_init_44 : decode cX7_init 44 = .ok (.aload_n 0, 1) := by decide +kernel
theorem dX7_init_45 : decode cX7_init 45 = .ok (.iconst 4, 1) := by decide +kernel
theorem dX7_init_46 : decode cX7_init 46 = .ok (.newarray .int, 2) := by decide +kernel
theorem dX7_init_48 : decode cX7_init 48 = .ok (.putfield 26, 3) := by decide +kernel
theorem dX7_init_51 : decode cX7_init 51 = .ok (.aload_n 0, 1) := by decide +kernel
theorem dX7_init_52 : decode cX7_init 52 = .ok (.sipush 256, 3) := by decide +kernel
theorem dX7_init_55 : decode cX7_init 55 = .ok (.newarray .int, 2) := by decide +kernel
theorem dX7_init_57 : decode cX7_init 57 = .ok (.putfield 29, 3) := by decide +kernel
theorem dX7_init_60 : decode cX7_init 60 = .ok (.aload_n 0, 1) := by decide +kernel
theorem dX7_init_61 : decode cX7_init 61 = .ok (.bipush 121, 2) := by decide +kernel
theorem dX7_init_63 : decode cX7_init 63 = .ok (.newarray .int, 2) := by decide +kernel
theorem dX7_init_65 : decode cX7_init 65 = .ok (.putfield 32, 3) := by decide +kernel
theorem dX7_init_68 : decode cX7_init 68 = .ok (.aload_n 0, 1) := by decide +kernel
theorem dX7_init_69 : decode cX7_init 69 = .ok (.iconst 2, 1) := by decide +kernel
theorem dX7_init_70 : decode cX7_init 70 = .ok (.newarray .int, 2) := by decide +kernel
theorem dX7_init_72 : decode cX7_init 72 = .ok (.putfield 35, 3) := by decide +kernel
theorem dX7_init_75 : decode cX7_init 75 = .ok (.aload_n 0, 1) := by decide +kernel
theorem dX7_init_76 : decode cX7_init 76 = .ok (.iconst 2, 1) := by decide +kernel
theorem dX7_init_77 : decode cX7_init 77 = .ok (.newarray .int, 2) := by decide +kernel
theorem dX7_init_79 : decode cX7_init 79 = .ok (.putfield 38, 3) := by decide +kernel
theorem dX7_init_82 : decode cX7_init 82 = .ok (.aload_n 0, 1) := by decide +kernel
theorem dX7_init_83 : decode cX7_init 83 = .ok (.bipush 120, 2) := by decide +kernel
theorem dX7_init_85 : decode cX7_init 85 = .ok (.newarray .int, 2) := by decide +kernel
theorem dX7_init_87 : decode cX7_init 87 = .ok (.putfield 41, 3) := by decide +kernel
theorem dX7_init_90 : decode cX7_init 90 = .ok (.aload_n 0, 1) := by decide +kernel
theorem dX7_init_91 : decode cX7_init 91 = .ok (.iconst 2, 1) := by decide +kernel
theorem dX7_init_92 : decode cX7_init 92 = .ok (.invokevirtual 44, 3) := by decide +kernel
theorem dX7_init_95 : decode cX7_init 95 = .ok (.iconst 0, 1) := by decide +kernel
theorem dX7_init_96 : decode cX7_init 96 = .ok (.istore_n 1, 1) := by decide +kernel
theorem dX7_init_97 : decode cX7_init 97 = .ok (.iload_n 1, 1) := by decide +kernel
theorem dX7_init_98 : decode cX7_init 98 = .ok (.iconst 4, 1) := by decide +kernel
theorem dX7_init_99 : decode cX7_init 99 = .ok (.if_icmp .ge 16, 3) := by decide +kernel
theorem dX7_init_102 : decode cX7_init 102 = .ok (.aload_n 0, 1) := by decide +kernel
theorem dX7_init_103 : decode cX7_init 103 = .ok (.getfield 26, 3) := by decide +kernel
theorem dX7_init_106 : decode cX7_init 106 = .ok (.iload_n 1, 1) := by decide +kernel
theorem dX7_init_107 : decode cX7_init 107 = .ok (.iconst (-1), 1) := by decide +kernel
theorem dX7_init_108 : decode cX7_init 108 = .ok (.iastore, 1) := by decide +kernel
theorem dX7_init_109 : decode cX7_init 109 = .ok (.iinc 1 1, 3) := by decide +kernel
theorem dX7_init_112 : decode cX7_init 112 = .ok (.goto (-15), 3) := by decide +kernel
theorem dX7_init_115 : decode cX7_init 115 = .ok (.return_, 1) := by decide +kernel
theorem dX7_in_0 : decode cX7_in 0 = .ok (.iload_n 0, 1) := by decide +kernel
theorem dX7_in_1 : decode cX7_in 1 = .ok (.iload_n 1, 1) := by decide +kernel
theorem dX7_in_2 : decode cX7_in 2 = .ok (.if_icmp .lt 12, 3) := by decide +kernel
theorem dX7_in_5 : decode cX7_in 5 = .ok (.iload_n 0, 1) := by decide +kernel
theorem dX7_in_6 : decode cX7_in 6 = .ok (.iload_n 2, 1) := by decide +kernel
theorem dX7_in_7 : decode cX7_in 7 = .ok (.if_icmp .gt 7, 3) := by decide +kernel
theorem dX7_in_10 : decode cX7_in 10 = .ok (.iconst 1, 1) := by decide +kernel
theorem dX7_in_11 : decode cX7_in 11 = .ok (.goto 4, 3) := by decide +kernel
theorem dX7_in_14 : decode cX7_in 14 = .ok (.iconst 0, 1) := by decide +kernel
theorem dX7_in_15 : decode cX7_in 15 = .ok (.ireturn, 1) := by decide +kernel
theorem dX7_has_0 : decode cX7_has 0 = .ok (.lload_n 0, 1) := by decide +kernel
theorem dX7_has_1 : decode cX7_has 1 = .ok (.iload_n 2, 1) := by decide +kernel
theorem dX7_has_2 : decode cX7_has 2 = .ok (.lshr, 1) := by decide +kernel
theorem dX7_has_3 : decode cX7_has 3 = .ok (.lconst 1, 1) := by decide +kernel
theorem dX7_has_4 : decode cX7_has 4 = .ok (.land, 1) := by decide +kernel
theorem dX7_has_5 : decode cX7_has 5 = .ok (.lconst 1, 1) := by decide +kernel
theorem dX7_has_6 : decode cX7_has 6 = .ok (.lcmp, 1) := by decide +kernel
theorem dX7_has_7 : decode cX7_has 7 = .ok (.ifCond .ne 7, 3) := by decide +kernel
theorem dX7_has_10 : decode cX7_has 10 = .ok (.iconst 1, 1) := by decide +kernel
theorem dX7_has_11 : decode cX7_has 11 = .ok (.goto 4, 3) := by decide +kernel
theorem dX7_has_14 : decode cX7_has 14 = .ok (.iconst 0, 1) := by decide +kernel
theorem dX7_has_15 : decode cX7_has 15 = .ok (.ireturn, 1) := by decide +kernel
theorem dX7_bits_0 : decode cX7_bits 0 = .ok (.iconst 0, 1) := by decide +kernel
theorem dX7_bits_1 : decode cX7_bits 1 = .ok (.istore_n 2, 1) := by decide +kernel
theorem dX7_bits_2 : decode cX7_bits 2 = .ok (.lload_n 0, 1) := by decide +kernel
theorem dX7_bits_3 : decode cX7_bits 3 = .ok (.lstore_n 3, 1) := by decide +kernel
theorem dX7_bits_4 : decode cX7_bits 4 = .ok (.lload_n 3, 1) := by decide +kernel
theorem dX7_bits_5 : decode cX7_bits 5 = .ok (.lconst 0, 1) := by decide +kernel
theorem dX7_bits_6 : decode cX7_bits 6 = .ok (.lcmp, 1) := by decide +kernel
theorem dX7_bits_7 : decode cX7_bits 7 = .ok (.ifCond .eq 15, 3) := by decide +kernel
theorem dX7_bits_10 : decode cX7_bits 10 = .ok (.iinc 2 1, 3) := by decide +kernel
theorem dX7_bits_13 : decode cX7_bits 13 = .ok (.lload_n 3, 1) := by decide +kernel
theorem dX7_bits_14 : decode cX7_bits 14 = .ok (.lload_n 3, 1) := by decide +kernel
theorem dX7_bits_15 : decode cX7_bits 15 = .ok (.lconst 1, 1) := by decide +kernel
theorem dX7_bits_16 : decode cX7_bits 16 = .ok (.lsub, 1) := by decide +kernel
theorem dX7_bits_17 : decode cX7_bits 17 = .ok (.land, 1) := by decide +kernel
theorem dX7_bits_18 : decode cX7_bits 18 = .ok (.lstore_n 3, 1) := by decide +kernel
theorem dX7_bits_19 : decode cX7_bits 19 = .ok (.goto (-15), 3) := by decide +kernel
theorem dX7_bits_22 : decode cX7_bits 22 = .ok (.iload_n 2, 1) := by decide +kernel
theorem dX7_bits_23 : decode cX7_bits 23 = .ok (.ireturn, 1) := by decide +kernel
set_option maxRecDepth 20000 in
theorem ggX7_least_X7_has : GoodIn wsX7_least wsX7_has := goodIn_r _ [4] rfl rfl
set_option maxRecDepth 20000 in
theorem gX7_least_X7_has : GoodIn wsX7_least (va_wsS RX7 48 yX7_has wsX7_has) := goodIn_app (goodIn_r _ [1, 2, 3] rfl rfl) ggX7_least_X7_has
theorem dX7_least_0 : decode cX7_least 0 = .ok (.iconst 0, 1) := by decide +kernel
theorem dX7_least_1 : decode cX7_least 1 = .ok (.istore_n 2, 1) := by decide +kernel
theorem dX7_least_2 : decode cX7_least 2 = .ok (.lload_n 0, 1) := by decide +kernel
theorem dX7_least_3 : decode cX7_least 3 = .ok (.iload_n 2, 1) := by decide +kernel
theorem dX7_least_4 : decode cX7_least 4 = .ok (.invokestatic 48, 3) := by decide +kernel
theorem dX7_least_7 : decode cX7_least 7 = .ok (.ifCond .ne 9, 3) := by decide +kernel
theorem dX7_least_10 : decode cX7_least 10 = .ok (.iinc 2 1, 3) := by decide +kernel
theorem dX7_least_13 : decode cX7_least 13 = .ok (.goto (-11), 3) := by decide +kernel
theorem dX7_least_16 : decode cX7_least 16 = .ok (.iload_n 2, 1) := by decide +kernel
theorem dX7_least_17 : decode cX7_least 17 = .ok (.ireturn, 1) := by decide +kernel
set_option maxRecDepth 20000 in
theorem ggX7_greatest_X7_has : GoodIn wsX7_greatest wsX7_has := goodIn_r _ [4] rfl rfl
set_option maxRecDepth 20000 in
theorem gX7_greatest_X7_has : GoodIn wsX7_greatest (va_wsS RX7 48 yX7_has wsX7_has) := goodIn_app (goodIn_r _ [1, 2, 3] rfl rfl) ggX7_greatest_X7_has
theorem dX7_greatest_0 : decode cX7_greatest 0 = .ok (.bipush 60, 2) := by decide +kernel
theorem dX7_greatest_2 : decode cX7_greatest 2 = .ok (.istore_n 2, 1) := by decide +kernel
theorem dX7_greatest_3 : decode cX7_greatest 3 = .ok (.lload_n 0, 1) := by decide +kernel
theorem dX7_greatest_4 : decode cX7_greatest 4 = .ok (.iload_n 2, 1) := by decide +kernel
theorem dX7_greatest_5 : decode cX7_greatest 5 = .ok (.invokestatic 48, 3) := by decide +kernel
theorem dX7_greatest_8 : decode cX7_greatest 8 = .ok (.ifCond .ne 9, 3) := by decide +kernel
theorem dX7_greatest_11 : decode cX7_greatest 11 = .ok (.iinc 2 (-1), 3) := by decide +kernel
theorem dX7_greatest_14 : decode cX7_greatest 14 = .ok (.goto (-11), 3) := by decide +kernel
theorem dX7_greatest_17 : decode cX7_greatest 17 = .ok (.iload_n 2, 1) := by decide +kernel
theorem dX7_greatest_18 : decode cX7_greatest 18 = .ok (.ireturn, 1) := by decide +kernel
theorem dX7_begins_0 : decode cX7_begins 0 = .ok (.aload_n 0, 1) := by decide +kernel
theorem dX7_begins_1 : decode cX7_begins 1 = .ok (.iload_n 1, 1) := by decide +kernel
theorem dX7_begins_2 : decode cX7_begins 2 = .ok (.putfield 52, 3) := by decide +kernel
theorem dX7_begins_5 : decode cX7_begins 5 = .ok (.aload_n 0, 1) := by decide +kernel
theorem dX7_begins_6 : decode cX7_begins 6 = .ok (.iconst 0, 1) := by decide +kernel
theorem dX7_begins_7 : decode cX7_begins 7 = .ok (.putfield 56, 3) := by decide +kernel
theorem dX7_begins_10 : decode cX7_begins 10 = .ok (.aload_n 0, 1) := by decide +kernel
theorem dX7_begins_11 : decode cX7_begins 11 = .ok (.iconst 1, 1) := by decide +kernel
theorem dX7_begins_12 : decode cX7_begins 12 = .ok (.putfield 59, 3) := by decide +kernel
theorem dX7_begins_15 : decode cX7_begins 15 = .ok (.aload_n 0, 1) := by decide +kernel
theorem dX7_begins_16 : decode cX7_begins 16 = .ok (.getfield 13, 3) := by decide +kernel
theorem dX7_begins_19 : decode cX7_begins 19 = .ok (.iconst 0, 1) := by decide +kernel
theorem dX7_begins_20 : decode cX7_begins 20 = .ok (.iconst 0, 1) := by decide +kernel
theorem dX7_begins_21 : decode cX7_begins 21 = .ok (.iastore, 1) := by decide +kernel
theorem dX7_begins_22 : decode cX7_begins 22 = .ok (.aload_n 0, 1) := by decide +kernel
theorem dX7_begins_23 : decode cX7_begins 23 = .ok (.getfield 16, 3) := by decide +kernel
theorem dX7_begins_26 : decode cX7_begins 26 = .ok (.iconst 0, 1) := by decide +kernel
theorem dX7_begins_27 : decode cX7_begins 27 = .ok (.iconst 0, 1) := by decide +kernel
theorem dX7_begins_28 : decode cX7_begins 28 = .ok (.iastore, 1) := by decide +kernel
theorem dX7_begins_29 : decode cX7_begins 29 = .ok (.aload_n 0, 1) := by decide +kernel
theorem dX7_begins_30 : decode cX7_begins 30 = .ok (.getfield 19, 3) := by decide +kernel
theorem dX7_begins_33 : decode cX7_begins 33 = .ok (.iconst 0, 1) := by decide +kernel
theorem dX7_begins_34 : decode cX7_begins 34 = .ok (.bipush (-4), 2) := by decide +kernel
theorem dX7_begins_36 : decode cX7_begins 36 = .ok (.iastore, 1) := by decide +kernel
theorem dX7_begins_37 : decode cX7_begins 37 = .ok (.aload_n 0, 1) := by decide +kernel
theorem dX7_begins_38 : decode cX7_begins 38 = .ok (.getfield 22, 3) := by decide +kernel
theorem dX7_begins_41 : decode cX7_begins 41 = .ok (.iconst 0, 1) := by decide +kernel
theorem dX7_begins_42 : decode cX7_begins 42 = .ok (.lconst 1, 1) := by decide +kernel
theorem dX7_begins_43 : decode cX7_begins 43 = .ok (.lastore, 1) := by decide +kernel
theorem dX7_begins_44 : decode cX7_begins 44 = .ok (.return_, 1) := by decide +kernel
theorem dX7_alikeAt_0 : decode cX7_alikeAt 0 = .ok (.iconst 0, 1) := by decide +kernel
theorem dX7_alikeAt_1 : decode cX7_alikeAt 1 = .ok (.istore_n 3, 1) := by decide +kernel
theorem dX7_alikeAt_2 : decode cX7_alikeAt 2 = .ok (.iload_n 3, 1) := by decide +kernel
theorem dX7_alikeAt_3 : decode cX7_alikeAt 3 = .ok (.iload_n 1, 1) := by decide +kernel
theorem dX7_alikeAt_4 : decode cX7_alikeAt 4 = .ok (.if_icmp .ge 37, 3) := by decide +kernel
theorem dX7_alikeAt_7 : decode cX7_alikeAt 7 = .ok (.iload_n 3, 1) := by decide +kernel
theorem dX7_alikeAt_8 : decode cX7_alikeAt 8 = .ok (.iload_n 2, 1) := by decide +kernel
theorem dX7_alikeAt_9 : decode cX7_alikeAt 9 = .ok (.if_icmp .ge 32, 3) := by decide +kernel
theorem dX7_alikeAt_12 : decode cX7_alikeAt 12 = .ok (.aload_n 0, 1) := by decide +kernel
theorem dX7_alikeAt_13 : decode cX7_alikeAt 13 = .ok (.getfield 7, 3) := by decide +kernel
theorem dX7_alikeAt_16 : decode cX7_alikeAt 16 = .ok (.iload_n 1, 1) := by decide +kernel
theorem dX7_alikeAt_17 : decode cX7_alikeAt 17 = .ok (.iconst 1, 1) := by decide +kernel
theorem dX7_alikeAt_18 : decode cX7_alikeAt 18 = .ok (.isub, 1) := by decide +kernel
theorem dX7_alikeAt_19 : decode cX7_alikeAt 19 = .ok (.iload_n 3, 1) := by decide +kernel
theorem dX7_alikeAt_20 : decode cX7_alikeAt 20 = .ok (.isub, 1) := by decide +kernel
theorem dX7_alikeAt_21 : decode cX7_alikeAt 21 = .ok (.iaload, 1) := by decide +kernel
theorem dX7_alikeAt_22 : decode cX7_alikeAt 22 = .ok (.aload_n 0, 1) := by decide +kernel
theorem dX7_alikeAt_23 : decode cX7_alikeAt 23 = .ok (.getfield 7, 3) := by decide +kernel
theorem dX7_alikeAt_26 : decode cX7_alikeAt 26 = .ok (.iload_n 2, 1) := by decide +kernel
theorem dX7_alikeAt_27 : decode cX7_alikeAt 27 = .ok (.iconst 1, 1) := by decide +kernel
theorem dX7_alikeAt_28 : decode cX7_alikeAt 28 = .ok (.isub, 1) := by decide +kernel
theorem dX7_alikeAt_29 : decode cX7_alikeAt 29 = .ok (.iload_n 3, 1) := by decide +kernel
theorem dX7_alikeAt_30 : decode cX7_alikeAt 30 = .ok (.isub, 1) := by decide +kernel
theorem dX7_alikeAt_31 : decode cX7_alikeAt 31 = .ok (.iaload, 1) := by decide +kernel
theorem dX7_alikeAt_32 : decode cX7_alikeAt 32 = .ok (.if_icmp .ne 9, 3) := by decide +kernel
theorem dX7_alikeAt_35 : decode cX7_alikeAt 35 = .ok (.iinc 3 1, 3) := by decide +kernel
theorem dX7_alikeAt_38 : decode cX7_alikeAt 38 = .ok (.goto (-36), 3) := by decide +kernel
theorem dX7_alikeAt_41 : decode cX7_alikeAt 41 = .ok (.iload_n 3, 1) := by decide +kernel
theorem dX7_alikeAt_42 : decode cX7_alikeAt 42 = .ok (.ireturn, 1) := by decide +kernel
set_option maxRecDepth 20000 in
theorem ggX7_againAt_X7_alikeAt : GoodIn wsX7_againAt wsX7_alikeAt := goodIn_r _ [5, 6, 7, 8, 9, 10, 11, 12, 13, 14, 15, 16, 17, 18, 19, 20] rfl rfl
set_option maxRecDepth 20000 in
theorem gX7_againAt_X7_alikeAt : GoodIn wsX7_againAt (wsV RX7 62 RX7 yX7_alikeAt wsX7_alikeAt) := goodIn_app (goodIn_r _ [1, 2, 3, 4] rfl rfl) ggX7_againAt_X7_alikeAt
theorem dX7_againAt_0 : decode cX7_againAt 0 = .ok (.iconst 0, 1) := by decide +kernel
theorem dX7_againAt_1 : decode cX7_againAt 1 = .ok (.istore_n 2, 1) := by decide +kernel
theorem dX7_againAt_2 : decode cX7_againAt 2 = .ok (.iconst 0, 1) := by decide +kernel
theorem dX7_againAt_3 : decode cX7_againAt 3 = .ok (.istore_n 3, 1) := by decide +kernel
theorem dX7_againAt_4 : decode cX7_againAt 4 = .ok (.iload_n 3, 1) := by decide +kernel
theorem dX7_againAt_5 : decode cX7_againAt 5 = .ok (.iload_n 1, 1) := by decide +kernel
theorem dX7_againAt_6 : decode cX7_againAt 6 = .ok (.if_icmp .ge 30, 3) := by decide +kernel
theorem dX7_againAt_9 : decode cX7_againAt 9 = .ok (.aload_n 0, 1) := by decide +kernel
theorem dX7_againAt_10 : decode cX7_againAt 10 = .ok (.iload_n 1, 1) := by decide +kernel
theorem dX7_againAt_11 : decode cX7_againAt 11 = .ok (.iload_n 3, 1) := by decide +kernel
theorem dX7_againAt_12 : decode cX7_againAt 12 = .ok (.invokevirtual 62, 3) := by decide +kernel
theorem dX7_againAt_15 : decode cX7_againAt 15 = .ok (.iload_n 2, 1) := by decide +kernel
theorem dX7_againAt_16 : decode cX7_againAt 16 = .ok (.if_icmp .le 12, 3) := by decide +kernel
theorem dX7_againAt_19 : decode cX7_againAt 19 = .ok (.aload_n 0, 1) := by decide +kernel
theorem dX7_againAt_20 : decode cX7_againAt 20 = .ok (.iload_n 1, 1) := by decide +kernel
theorem dX7_againAt_21 : decode cX7_againAt 21 = .ok (.iload_n 3, 1) := by decide +kernel
theorem dX7_againAt_22 : decode cX7_againAt 22 = .ok (.invokevirtual 62, 3) := by decide +kernel
theorem dX7_againAt_25 : decode cX7_againAt 25 = .ok (.goto 4, 3) := by decide +kernel
theorem dX7_againAt_28 : decode cX7_againAt 28 = .ok (.iload_n 2, 1) := by decide +kernel
theorem dX7_againAt_29 : decode cX7_againAt 29 = .ok (.istore_n 2, 1) := by decide +kernel
theorem dX7_againAt_30 : decode cX7_againAt 30 = .ok (.iinc 3 1, 3) := by decide +kernel
theorem dX7_againAt_33 : decode cX7_againAt 33 = .ok (.goto (-29), 3) := by decide +kernel
theorem dX7_againAt_36 : decode cX7_againAt 36 = .ok (.iload_n 2, 1) := by decide +kernel
theorem dX7_againAt_37 : decode cX7_againAt 37 = .ok (.ireturn, 1) := by decide +kernel
set_option maxRecDepth 20000 in
theorem ggX7_endsOf_X7_alikeAt : GoodIn wsX7_endsOf wsX7_alikeAt := goodIn_r _ [5, 6, 7, 8, 9, 10, 11, 12, 13, 14, 15, 16, 17, 18, 19, 20] rfl rfl
set_option maxRecDepth 20000 in
theorem gX7_endsOf_X7_alikeAt : GoodIn wsX7_endsOf (wsV RX7 62 RX7 yX7_alikeAt wsX7_alikeAt) := goodIn_app (goodIn_r _ [1, 2, 3, 4] rfl rfl) ggX7_endsOf_X7_alikeAt
theorem dX7_endsOf_0 : decode cX7_endsOf 0 = .ok (.lconst 0, 1) := by decide +kernel
theorem dX7_endsOf_1 : decode cX7_endsOf 1 = .ok (.lstore 4, 2) := by decide +kernel
theorem dX7_endsOf_3 : decode cX7_endsOf 3 = .ok (.iload_n 2, 1) := by decide +kernel
theorem dX7_endsOf_4 : decode cX7_endsOf 4 = .ok (.istore 6, 2) := by decide +kernel
theorem dX7_endsOf_6 : decode cX7_endsOf 6 = .ok (.iload 6, 2) := by decide +kernel
theorem dX7_endsOf_8 : decode cX7_endsOf 8 = .ok (.iload_n 3, 1) := by decide +kernel
theorem dX7_endsOf_9 : decode cX7_endsOf 9 = .ok (.if_icmp .gt 39, 3) := by decide +kernel
theorem dX7_endsOf_12 : decode cX7_endsOf 12 = .ok (.lload 4, 2) := by decide +kernel
theorem dX7_endsOf_14 : decode cX7_endsOf 14 = .ok (.iload 6, 2) := by decide +kernel
theorem dX7_endsOf_16 : decode cX7_endsOf 16 = .ok (.iload_n 1, 1) := by decide +kernel
theorem dX7_endsOf_17 : decode cX7_endsOf 17 = .ok (.if_icmp .eq 14, 3) := by decide +kernel
theorem dX7_endsOf_20 : decode cX7_endsOf 20 = .ok (.aload_n 0, 1) := by decide +kernel
theorem dX7_endsOf_21 : decode cX7_endsOf 21 = .ok (.iload_n 1, 1) := by decide +kernel
theorem dX7_endsOf_22 : decode cX7_endsOf 22 = .ok (.iload 6, 2) := by decide +kernel
theorem dX7_endsOf_24 : decode cX7_endsOf 24 = .ok (.invokevirtual 62, 3) := by decide +kernel
theorem dX7_endsOf_27 : decode cX7_endsOf 27 = .ok (.iload_n 2, 1) := by decide +kernel
theorem dX7_endsOf_28 : decode cX7_endsOf 28 = .ok (.if_icmp .lt 10, 3) := by decide +kernel
theorem dX7_endsOf_31 : decode cX7_endsOf 31 = .ok (.lconst 1, 1) := by decide +kernel
theorem dX7_endsOf_32 : decode cX7_endsOf 32 = .ok (.iload 6, 2) := by decide +kernel
theorem dX7_endsOf_34 : decode cX7_endsOf 34 = .ok (.lshl, 1) := by decide +kernel
theorem dX7_endsOf_35 : decode cX7_endsOf 35 = .ok (.goto 4, 3) := by decide +kernel
theorem dX7_endsOf_38 : decode cX7_endsOf 38 = .ok (.lconst 0, 1) := by decide +kernel
theorem dX7_endsOf_39 : decode cX7_endsOf 39 = .ok (.lor, 1) := by decide +kernel
theorem dX7_endsOf_40 : decode cX7_endsOf 40 = .ok (.lstore 4, 2) := by decide +kernel
theorem dX7_endsOf_42 : decode cX7_endsOf 42 = .ok (.iinc 6 1, 3) := by decide +kernel
theorem dX7_endsOf_45 : decode cX7_endsOf 45 = .ok (.goto (-39), 3) := by decide +kernel
theorem dX7_endsOf_48 : decode cX7_endsOf 48 = .ok (.lload 4, 2) := by decide +kernel
theorem dX7_endsOf_50 : decode cX7_endsOf 50 = .ok (.lreturn, 1) := by decide +kernel
theorem dX7_stateOf_0 : decode cX7_stateOf 0 = .ok (.bipush (-4), 2) := by decide +kernel
theorem dX7_stateOf_2 : decode cX7_stateOf 2 = .ok (.istore_n 3, 1) := by decide +kernel
theorem dX7_stateOf_3 : decode cX7_stateOf 3 = .ok (.iconst 0, 1) := by decide +kernel
theorem dX7_stateOf_4 : decode cX7_stateOf 4 = .ok (.istore 4, 2) := by decide +kernel
theorem dX7_stateOf_6 : decode cX7_stateOf 6 = .ok (.iload 4, 2) := by decide +kernel
theorem dX7_stateOf_8 : decode cX7_stateOf 8 = .ok (.aload_n 0, 1) := by decide +kernel
theorem dX7_stateOf_9 : decode cX7_stateOf 9 = .ok (.getfield 59, 3) := by decide +kernel
theorem dX7_stateOf_12 : decode cX7_stateOf 12 = .ok (.if_icmp .ge 28, 3) := by decide +kernel
theorem dX7_stateOf_15 : decode cX7_stateOf 15 = .ok (.aload_n 0, 1) := by decide +kernel
theorem dX7_stateOf_16 : decode cX7_stateOf 16 = .ok (.getfield 22, 3) := by decide +kernel
theorem dX7_stateOf_19 : decode cX7_stateOf 19 = .ok (.iload 4, 2) := by decide +kernel
theorem dX7_stateOf_21 : decode cX7_stateOf 21 = .ok (.laload, 1) := by decide +kernel
theorem dX7_stateOf_22 : decode cX7_stateOf 22 = .ok (.lload_n 1, 1) := by decide +kernel
theorem dX7_stateOf_23 : decode cX7_stateOf 23 = .ok (.lcmp, 1) := by decide +kernel
theorem dX7_stateOf_24 : decode cX7_stateOf 24 = .ok (.ifCond .ne 8, 3) := by decide +kernel
theorem dX7_stateOf_27 : decode cX7_stateOf 27 = .ok (.iload 4, 2) := by decide +kernel
theorem dX7_stateOf_29 : decode cX7_stateOf 29 = .ok (.goto 4, 3) := by decide +kernel
theorem dX7_stateOf_32 : decode cX7_stateOf 32 = .ok (.iload_n 3, 1) := by decide +kernel
theorem dX7_stateOf_33 : decode cX7_stateOf 33 = .ok (.istore_n 3, 1) := by decide +kernel
theorem dX7_stateOf_34 : decode cX7_stateOf 34 = .ok (.iinc 4 1, 3) := by decide +kernel
theorem dX7_stateOf_37 : decode cX7_stateOf 37 = .ok (.goto (-31), 3) := by decide +kernel
theorem dX7_stateOf_40 : decode cX7_stateOf 40 = .ok (.iload_n 3, 1) := by decide +kernel
theorem dX7_stateOf_41 : decode cX7_stateOf 41 = .ok (.ireturn, 1) := by decide +kernel
theorem dX7_joins_0 : decode cX7_joins 0 = .ok (.aload_n 0, 1) := by decide +kernel
theorem dX7_joins_1 : decode cX7_joins 1 = .ok (.getfield 13, 3) := by decide +kernel
theorem dX7_joins_4 : decode cX7_joins 4 = .ok (.aload_n 0, 1) := by decide +kernel
theorem dX7_joins_5 : decode cX7_joins 5 = .ok (.getfield 59, 3) := by decide +kernel
theorem dX7_joins_8 : decode cX7_joins 8 = .ok (.iload_n 1, 1) := by decide +kernel
theorem dX7_joins_9 : decode cX7_joins 9 = .ok (.iastore, 1) := by decide +kernel
theorem dX7_joins_10 : decode cX7_joins 10 = .ok (.aload_n 0, 1) := by decide +kernel
theorem dX7_joins_11 : decode cX7_joins 11 = .ok (.getfield 16, 3) := by decide +kernel
theorem dX7_joins_14 : decode cX7_joins 14 = .ok (.aload_n 0, 1) := by decide +kernel
theorem dX7_joins_15 : decode cX7_joins 15 = .ok (.getfield 59, 3) := by decide +kernel
theorem dX7_joins_18 : decode cX7_joins 18 = .ok (.aload_n 0, 1) := by decide +kernel
theorem dX7_joins_19 : decode cX7_joins 19 = .ok (.getfield 56, 3) := by decide +kernel
theorem dX7_joins_22 : decode cX7_joins 22 = .ok (.iastore, 1) := by decide +kernel
theorem dX7_joins_23 : decode cX7_joins 23 = .ok (.aload_n 0, 1) := by decide +kernel
theorem dX7_joins_24 : decode cX7_joins 24 = .ok (.getfield 19, 3) := by decide +kernel
theorem dX7_joins_27 : decode cX7_joins 27 = .ok (.aload_n 0, 1) := by decide +kernel
theorem dX7_joins_28 : decode cX7_joins 28 = .ok (.getfield 59, 3) := by decide +kernel
theorem dX7_joins_31 : decode cX7_joins 31 = .ok (.iload_n 2, 1) := by decide +kernel
theorem dX7_joins_32 : decode cX7_joins 32 = .ok (.iastore, 1) := by decide +kernel
theorem dX7_joins_33 : decode cX7_joins 33 = .ok (.aload_n 0, 1) := by decide +kernel
theorem dX7_joins_34 : decode cX7_joins 34 = .ok (.getfield 22, 3) := by decide +kernel
theorem dX7_joins_37 : decode cX7_joins 37 = .ok (.aload_n 0, 1) := by decide +kernel
theorem dX7_joins_38 : decode cX7_joins 38 = .ok (.getfield 59, 3) := by decide +kernel
theorem dX7_joins_41 : decode cX7_joins 41 = .ok (.lload_n 3, 1) := by decide +kernel
theorem dX7_joins_42 : decode cX7_joins 42 = .ok (.lastore, 1) := by decide +kernel
theorem dX7_joins_43 : decode cX7_joins 43 = .ok (.aload_n 0, 1) := by decide +kernel
theorem dX7_joins_44 : decode cX7_joins 44 = .ok (.dup, 1) := by decide +kernel
theorem dX7_joins_45 : decode cX7_joins 45 = .ok (.getfield 59, 3) := by decide +kernel
theorem dX7_joins_48 : decode cX7_joins 48 = .ok (.iconst 1, 1) := by decide +kernel
theorem dX7_joins_49 : decode cX7_joins 49 = .ok (.iadd, 1) := by decide +kernel
theorem dX7_joins_50 : decode cX7_joins 50 = .ok (.putfield 59, 3) := by decide +kernel
theorem dX7_joins_53 : decode cX7_joins 53 = .ok (.return_, 1) := by decide +kernel
set_option maxRecDepth 20000 in
theorem ggX7_grows_X7_againAt : GoodIn wsX7_grows wsX7_againAt := goodIn_r _ [10, 11, 12, 13, 9, 14, 1, 35, 36, 37, 38, 39, 40, 41, 42, 43, 44, 45, 46, 47, 48] rfl rfl
set_option maxRecDepth 20000 in
theorem gX7_grows_X7_againAt : GoodIn wsX7_grows (wsV RX7 66 RX7 yX7_againAt wsX7_againAt) := goodIn_app (goodIn_r _ [6, 7, 8, 9] rfl rfl) ggX7_grows_X7_againAt
set_option maxRecDepth 20000 in
theorem ggX7_grows_X7_endsOf : GoodIn wsX7_grows wsX7_endsOf := goodIn_r _ [18, 11, 12, 13, 9, 14, 1, 35, 36, 37, 38, 39, 40, 41, 42, 43, 44, 45, 46, 47, 48] rfl rfl
set_option maxRecDepth 20000 in
theorem gX7_grows_X7_endsOf : GoodIn wsX7_grows (wsV RX7 70 RX7 yX7_endsOf wsX7_endsOf) := goodIn_app (goodIn_r _ [15, 16, 17, 9] rfl rfl) ggX7_grows_X7_endsOf
set_option maxRecDepth 20000 in
theorem ggX7_grows_X7_stateOf : GoodIn wsX7_grows wsX7_stateOf := goodIn_r _ [22, 3, 4, 35, 36, 37, 38, 39, 40, 41, 42, 43, 44, 45, 46, 47, 48] rfl rfl
set_option maxRecDepth 20000 in
theorem gX7_grows_X7_stateOf : GoodIn wsX7_grows (wsV RX7 74 RX7 yX7_stateOf wsX7_stateOf) := goodIn_app (goodIn_r _ [19, 20, 21, 9] rfl rfl) ggX7_grows_X7_stateOf
set_option maxRecDepth 20000 in
theorem ggX7_grows_X7_least : GoodIn wsX7_grows wsX7_least := goodIn_r _ [25, 26, 27, 9, 28] rfl rfl
set_option maxRecDepth 20000 in
theorem gX7_grows_X7_least : GoodIn wsX7_grows (va_wsS RX7 78 yX7_least wsX7_least) := goodIn_app (goodIn_r _ [23, 24, 9] rfl rfl) ggX7_grows_X7_least
set_option maxRecDepth 20000 in
theorem ggX7_grows_X7_alikeAt : GoodIn wsX7_grows wsX7_alikeAt := goodIn_r _ [14, 1, 35, 36, 37, 38, 39, 40, 41, 42, 43, 44, 45, 46, 47, 48] rfl rfl
set_option maxRecDepth 20000 in
theorem gX7_grows_X7_alikeAt : GoodIn wsX7_grows (wsV RX7 62 RX7 yX7_alikeAt wsX7_alikeAt) := goodIn_app (goodIn_r _ [11, 12, 13, 9] rfl rfl) ggX7_grows_X7_alikeAt
set_option maxRecDepth 20000 in
theorem ggX7_grows_X7_joins : GoodIn wsX7_grows wsX7_joins := goodIn_r _ [32, 5, 3, 33, 2, 34, 4, 35, 36, 37, 38, 39, 40, 41, 42, 43, 44, 45, 46, 47, 48] rfl rfl
set_option maxRecDepth 20000 in
theorem gX7_grows_X7_joins : GoodIn wsX7_grows (wsV RX7 81 RX7 yX7_joins wsX7_joins) := goodIn_app (goodIn_r _ [29, 30, 31, 9] rfl rfl) ggX7_grows_X7_joins
theorem dX7_grows_0 : decode cX7_grows 0 = .ok (.aload_n 0, 1) := by decide +kernel
theorem dX7_grows_1 : decode cX7_grows 1 = .ok (.getfield 7, 3) := by decide +kernel
theorem dX7_grows_4 : decode cX7_grows 4 = .ok (.aload_n 0, 1) := by decide +kernel
theorem dX7_grows_5 : decode cX7_grows 5 = .ok (.getfield 56, 3) := by decide +kernel
theorem dX7_grows_8 : decode cX7_grows 8 = .ok (.iload_n 1, 1) := by decide +kernel
theorem dX7_grows_9 : decode cX7_grows 9 = .ok (.iastore, 1) := by decide +kernel
theorem dX7_grows_10 : decode cX7_grows 10 = .ok (.aload_n 0, 1) := by decide +kernel
theorem dX7_grows_11 : decode cX7_grows 11 = .ok (.dup, 1) := by decide +kernel
theorem dX7_grows_12 : decode cX7_grows 12 = .ok (.getfield 56, 3) := by decide +kernel
theorem dX7_grows_15 : decode cX7_grows 15 = .ok (.iconst 1, 1) := by decide +kernel
theorem dX7_grows_16 : decode cX7_grows 16 = .ok (.iadd, 1) := by decide +kernel
theorem dX7_grows_17 : decode cX7_grows 17 = .ok (.putfield 56, 3) := by decide +kernel
theorem dX7_grows_20 : decode cX7_grows 20 = .ok (.aload_n 0, 1) := by decide +kernel
theorem dX7_grows_21 : decode cX7_grows 21 = .ok (.aload_n 0, 1) := by decide +kernel
theorem dX7_grows_22 : decode cX7_grows 22 = .ok (.getfield 56, 3) := by decide +kernel
theorem dX7_grows_25 : decode cX7_grows 25 = .ok (.invokevirtual 66, 3) := by decide +kernel
theorem dX7_grows_28 : decode cX7_grows 28 = .ok (.istore_n 2, 1) := by decide +kernel
theorem dX7_grows_29 : decode cX7_grows 29 = .ok (.aload_n 0, 1) := by decide +kernel
theorem dX7_grows_30 : decode cX7_grows 30 = .ok (.aload_n 0, 1) := by decide +kernel
theorem dX7_grows_31 : decode cX7_grows 31 = .ok (.getfield 56, 3) := by decide +kernel
theorem dX7_grows_34 : decode cX7_grows 34 = .ok (.iload_n 2, 1) := by decide +kernel
theorem dX7_grows_35 : decode cX7_grows 35 = .ok (.aload_n 0, 1) := by decide +kernel
theorem dX7_grows_36 : decode cX7_grows 36 = .ok (.getfield 56, 3) := by decide +kernel
theorem dX7_grows_39 : decode cX7_grows 39 = .ok (.iconst 1, 1) := by decide +kernel
theorem dX7_grows_40 : decode cX7_grows 40 = .ok (.isub, 1) := by decide +kernel
theorem dX7_grows_41 : decode cX7_grows 41 = .ok (.invokevirtual 70, 3) := by decide +kernel
theorem dX7_grows_44 : decode cX7_grows 44 = .ok (.lstore_n 3, 1) := by decide +kernel
theorem dX7_grows_45 : decode cX7_grows 45 = .ok (.aload_n 0, 1) := by decide +kernel
theorem dX7_grows_46 : decode cX7_grows 46 = .ok (.lload_n 3, 1) := by decide +kernel
theorem dX7_grows_47 : decode cX7_grows 47 = .ok (.invokevirtual 74, 3) := by decide +kernel
theorem dX7_grows_50 : decode cX7_grows 50 = .ok (.istore 5, 2) := by decide +kernel
theorem dX7_grows_52 : decode cX7_grows 52 = .ok (.iconst 0, 1) := by decide +kernel
theorem dX7_grows_53 : decode cX7_grows 53 = .ok (.istore 6, 2) := by decide +kernel
theorem dX7_grows_55 : decode cX7_grows 55 = .ok (.iload 6, 2) := by decide +kernel
theorem dX7_grows_57 : decode cX7_grows 57 = .ok (.aload_n 0, 1) := by decide +kernel
theorem dX7_grows_58 : decode cX7_grows 58 = .ok (.getfield 59, 3) := by decide +kernel
theorem dX7_grows_61 : decode cX7_grows 61 = .ok (.if_icmp .ge 87, 3) := by decide +kernel
theorem dX7_grows_64 : decode cX7_grows 64 = .ok (.aload_n 0, 1) := by decide +kernel
theorem dX7_grows_65 : decode cX7_grows 65 = .ok (.getfield 22, 3) := by decide +kernel
theorem dX7_grows_68 : decode cX7_grows 68 = .ok (.iload 6, 2) := by decide +kernel
theorem dX7_grows_70 : decode cX7_grows 70 = .ok (.laload, 1) := by decide +kernel
theorem dX7_grows_71 : decode cX7_grows 71 = .ok (.invokestatic 78, 3) := by decide +kernel
theorem dX7_grows_74 : decode cX7_grows 74 = .ok (.istore 7, 2) := by decide +kernel
theorem dX7_grows_76 : decode cX7_grows 76 = .ok (.aload_n 0, 1) := by decide +kernel
theorem dX7_grows_77 : decode cX7_grows 77 = .ok (.getfield 13, 3) := by decide +kernel
theorem dX7_grows_80 : decode cX7_grows 80 = .ok (.iload 6, 2) := by decide +kernel
theorem dX7_grows_82 : decode cX7_grows 82 = .ok (.iaload, 1) := by decide +kernel
theorem dX7_grows_83 : decode cX7_grows 83 = .ok (.aload_n 0, 1) := by decide +kernel
theorem dX7_grows_84 : decode cX7_grows 84 = .ok (.getfield 56, 3) := by decide +kernel
theorem dX7_grows_87 : decode cX7_grows 87 = .ok (.if_icmp .gt 27, 3) := by decide +kernel
theorem dX7_grows_90 : decode cX7_grows 90 = .ok (.aload_n 0, 1) := by decide +kernel
theorem dX7_grows_91 : decode cX7_grows 91 = .ok (.iload 7, 2) := by decide +kernel
theorem dX7_grows_93 : decode cX7_grows 93 = .ok (.aload_n 0, 1) := by decide +kernel
theorem dX7_grows_94 : decode cX7_grows 94 = .ok (.getfield 56, 3) := by decide +kernel
theorem dX7_grows_97 : decode cX7_grows 97 = .ok (.invokevirtual 62, 3) := by decide +kernel
theorem dX7_grows_100 : decode cX7_grows 100 = .ok (.aload_n 0, 1) := by decide +kernel
theorem dX7_grows_101 : decode cX7_grows 101 = .ok (.getfield 13, 3) := by decide +kernel
theorem dX7_grows_104 : decode cX7_grows 104 = .ok (.iload 6, 2) := by decide +kernel
theorem dX7_grows_106 : decode cX7_grows 106 = .ok (.iaload, 1) := by decide +kernel
theorem dX7_grows_107 : decode cX7_grows 107 = .ok (.if_icmp .lt 7, 3) := by decide +kernel
theorem dX7_grows_110 : decode cX7_grows 110 = .ok (.iconst 1, 1) := by decide +kernel
theorem dX7_grows_111 : decode cX7_grows 111 = .ok (.goto 4, 3) := by decide +kernel
theorem dX7_grows_114 : decode cX7_grows 114 = .ok (.iconst 0, 1) := by decide +kernel
theorem dX7_grows_115 : decode cX7_grows 115 = .ok (.istore 8, 2) := by decide +kernel
theorem dX7_grows_117 : decode cX7_grows 117 = .ok (.aload_n 0, 1) := by decide +kernel
theorem dX7_grows_118 : decode cX7_grows 118 = .ok (.getfield 22, 3) := by decide +kernel
theorem dX7_grows_121 : decode cX7_grows 121 = .ok (.iload 6, 2) := by decide +kernel
theorem dX7_grows_123 : decode cX7_grows 123 = .ok (.dup2, 1) := by decide +kernel
theorem dX7_grows_124 : decode cX7_grows 124 = .ok (.laload, 1) := by decide +kernel
theorem dX7_grows_125 : decode cX7_grows 125 = .ok (.iload 8, 2) := by decide +kernel
theorem dX7_grows_127 : decode cX7_grows 127 = .ok (.ifCond .eq 12, 3) := by decide +kernel
theorem dX7_grows_130 : decode cX7_grows 130 = .ok (.lconst 1, 1) := by decide +kernel
theorem dX7_grows_131 : decode cX7_grows 131 = .ok (.aload_n 0, 1) := by decide +kernel
theorem dX7_grows_132 : decode cX7_grows 132 = .ok (.getfield 56, 3) := by decide +kernel
theorem dX7_grows_135 : decode cX7_grows 135 = .ok (.lshl, 1) := by decide +kernel
theorem dX7_grows_136 : decode cX7_grows 136 = .ok (.goto 4, 3) := by decide +kernel
theorem dX7_grows_139 : decode cX7_grows 139 = .ok (.lconst 0, 1) := by decide +kernel
theorem dX7_grows_140 : decode cX7_grows 140 = .ok (.lor, 1) := by decide +kernel
theorem dX7_grows_141 : decode cX7_grows 141 = .ok (.lastore, 1) := by decide +kernel
theorem dX7_grows_142 : decode cX7_grows 142 = .ok (.iinc 6 1, 3) := by decide +kernel
theorem dX7_grows_145 : decode cX7_grows 145 = .ok (.goto (-90), 3) := by decide +kernel
theorem dX7_grows_148 : decode cX7_grows 148 = .ok (.aload_n 0, 1) := by decide +kernel
theorem dX7_grows_149 : decode cX7_grows 149 = .ok (.aload_n 0, 1) := by decide +kernel
theorem dX7_grows_150 : decode cX7_grows 150 = .ok (.getfield 56, 3) := by decide +kernel
theorem dX7_grows_153 : decode cX7_grows 153 = .ok (.bipush (-4), 2) := by decide +kernel
theorem dX7_grows_155 : decode cX7_grows 155 = .ok (.lconst 1, 1) := by decide +kernel
theorem dX7_grows_156 : decode cX7_grows 156 = .ok (.aload_n 0, 1) := by decide +kernel
theorem dX7_grows_157 : decode cX7_grows 157 = .ok (.getfield 56, 3) := by decide +kernel
theorem dX7_grows_160 : decode cX7_grows 160 = .ok (.lshl, 1) := by decide +kernel
theorem dX7_grows_161 : decode cX7_grows 161 = .ok (.invokevirtual 81, 3) := by decide +kernel
theorem dX7_grows_164 : decode cX7_grows 164 = .ok (.aload_n 0, 1) := by decide +kernel
theorem dX7_grows_165 : decode cX7_grows 165 = .ok (.getfield 13, 3) := by decide +kernel
theorem dX7_grows_168 : decode cX7_grows 168 = .ok (.iload 5, 2) := by decide +kernel
theorem dX7_grows_170 : decode cX7_grows 170 = .ok (.iaload, 1) := by decide +kernel
theorem dX7_grows_171 : decode cX7_grows 171 = .ok (.iload_n 2, 1) := by decide +kernel
theorem dX7_grows_172 : decode cX7_grows 172 = .ok (.if_icmp .le 18, 3) := by decide +kernel
theorem dX7_grows_175 : decode cX7_grows 175 = .ok (.aload_n 0, 1) := by decide +kernel
theorem dX7_grows_176 : decode cX7_grows 176 = .ok (.iload_n 2, 1) := by decide +kernel
theorem dX7_grows_177 : decode cX7_grows 177 = .ok (.iload 5, 2) := by decide +kernel
theorem dX7_grows_179 : decode cX7_grows 179 = .ok (.lload_n 3, 1) := by decide +kernel
theorem dX7_grows_180 : decode cX7_grows 180 = .ok (.lconst 1, 1) := by decide +kernel
theorem dX7_grows_181 : decode cX7_grows 181 = .ok (.aload_n 0, 1) := by decide +kernel
theorem dX7_grows_182 : decode cX7_grows 182 = .ok (.getfield 56, 3) := by decide +kernel
theorem dX7_grows_185 : decode cX7_grows 185 = .ok (.lshl, 1) := by decide +kernel
theorem dX7_grows_186 : decode cX7_grows 186 = .ok (.lor, 1) := by decide +kernel
theorem dX7_grows_187 : decode cX7_grows 187 = .ok (.invokevirtual 81, 3) := by decide +kernel
theorem dX7_grows_190 : decode cX7_grows 190 = .ok (.return_, 1) := by decide +kernel
set_option maxRecDepth 20000 in
theorem ggX7_begin_X7_in : GoodIn wsX7_begin wsX7_in := goodIn_r _ [5] rfl rfl
set_option maxRecDepth 20000 in
theorem gX7_begin_X7_in : GoodIn wsX7_begin (va_wsS RX7 85 yX7_in wsX7_in) := goodIn_app (goodIn_r _ [2, 3, 4] rfl rfl) ggX7_begin_X7_in
set_option maxRecDepth 20000 in
theorem ggX7_begin_X7_begins : GoodIn wsX7_begin wsX7_begins := goodIn_r _ [9, 10, 1, 11, 12, 13, 14, 15, 16, 17, 18, 19, 20, 21, 22, 23, 24, 25, 26, 27, 28, 29] rfl rfl
set_option maxRecDepth 20000 in
theorem gX7_begin_X7_begins : GoodIn wsX7_begin (wsV RX7 44 RX7 yX7_begins wsX7_begins) := goodIn_app (goodIn_r _ [6, 7, 8, 4] rfl rfl) ggX7_begin_X7_begins
theorem dX7_begin_0 : decode cX7_begin 0 = .ok (.iload_n 1, 1) := by decide +kernel
theorem dX7_begin_1 : decode cX7_begin 1 = .ok (.iconst 1, 1) := by decide +kernel
theorem dX7_begin_2 : decode cX7_begin 2 = .ok (.iconst 5, 1) := by decide +kernel
theorem dX7_begin_3 : decode cX7_begin 3 = .ok (.invokestatic 85, 3) := by decide +kernel
theorem dX7_begin_6 : decode cX7_begin 6 = .ok (.ifCond .ne 5, 3) := by decide +kernel
theorem dX7_begin_9 : decode cX7_begin 9 = .ok (.iconst (-1), 1) := by decide +kernel
theorem dX7_begin_10 : decode cX7_begin 10 = .ok (.ireturn, 1) := by decide +kernel
theorem dX7_begin_11 : decode cX7_begin 11 = .ok (.aload_n 0, 1) := by decide +kernel
theorem dX7_begin_12 : decode cX7_begin 12 = .ok (.getfield 56, 3) := by decide +kernel
theorem dX7_begin_15 : decode cX7_begin 15 = .ok (.istore_n 2, 1) := by decide +kernel
theorem dX7_begin_16 : decode cX7_begin 16 = .ok (.aload_n 0, 1) := by decide +kernel
theorem dX7_begin_17 : decode cX7_begin 17 = .ok (.iload_n 1, 1) := by decide +kernel
theorem dX7_begin_18 : decode cX7_begin 18 = .ok (.invokevirtual 44, 3) := by decide +kernel
theorem dX7_begin_21 : decode cX7_begin 21 = .ok (.iload_n 2, 1) := by decide +kernel
theorem dX7_begin_22 : decode cX7_begin 22 = .ok (.ireturn, 1) := by decide +kernel
set_option maxRecDepth 20000 in
theorem ggX7_isLetter_X7_in : GoodIn wsX7_isLetter wsX7_in := goodIn_r _ [5] rfl rfl
set_option maxRecDepth 20000 in
theorem gX7_isLetter_X7_in : GoodIn wsX7_isLetter (va_wsS RX7 85 yX7_in wsX7_in) := goodIn_app (goodIn_r _ [2, 3, 4] rfl rfl) ggX7_isLetter_X7_in
theorem dX7_isLetter_0 : decode cX7_isLetter 0 = .ok (.iload_n 1, 1) := by decide +kernel
theorem dX7_isLetter_1 : decode cX7_isLetter 1 = .ok (.iconst 0, 1) := by decide +kernel
theorem dX7_isLetter_2 : decode cX7_isLetter 2 = .ok (.aload_n 0, 1) := by decide +kernel
theorem dX7_isLetter_3 : decode cX7_isLetter 3 = .ok (.getfield 52, 3) := by decide +kernel
theorem dX7_isLetter_6 : decode cX7_isLetter 6 = .ok (.iconst 1, 1) := by decide +kernel
theorem dX7_isLetter_7 : decode cX7_isLetter 7 = .ok (.isub, 1) := by decide +kernel
theorem dX7_isLetter_8 : decode cX7_isLetter 8 = .ok (.invokestatic 85, 3) := by decide +kernel
theorem dX7_isLetter_11 : decode cX7_isLetter 11 = .ok (.ireturn, 1) := by decide +kernel
set_option maxRecDepth 20000 in
theorem ggX7_grow_X7_isLetter : GoodIn wsX7_grow wsX7_isLetter := goodIn_r _ [7, 8, 9, 10, 6, 11, 47, 48, 49, 50, 51, 52, 53, 54, 55, 56, 57, 58, 59, 60] rfl rfl
set_option maxRecDepth 20000 in
theorem gX7_grow_X7_isLetter : GoodIn wsX7_grow (wsV RX7 89 RX7 yX7_isLetter wsX7_isLetter) := goodIn_app (goodIn_r _ [3, 4, 5, 6] rfl rfl) ggX7_grow_X7_isLetter
set_option maxRecDepth 20000 in
theorem ggX7_grow_X7_grows : GoodIn wsX7_grow wsX7_grows := goodIn_r _ [15, 16, 1, 2, 17, 18, 19, 20, 21, 6, 22, 23, 24, 25, 26, 27, 28, 29, 30, 31, 32, 33, 34, 35, 36, 37, 38, 39, 40, 41, 42, 43, 44, 45, 46, 47, 48, 49, 50, 51, 52, 53, 54, 55, 56, 57, 58, 59, 60] rfl rfl
set_option maxRecDepth 20000 in
theorem gX7_grow_X7_grows : GoodIn wsX7_grow (wsV RX7 93 RX7 yX7_grows wsX7_grows) := goodIn_app (goodIn_r _ [12, 13, 14, 6] rfl rfl) ggX7_grow_X7_grows
theorem dX7_grow_0 : decode cX7_grow 0 = .ok (.aload_n 0, 1) := by decide +kernel
theorem dX7_grow_1 : decode cX7_grow 1 = .ok (.iload_n 1, 1) := by decide +kernel
theorem dX7_grow_2 : decode cX7_grow 2 = .ok (.invokevirtual 89, 3) := by decide +kernel
theorem dX7_grow_5 : decode cX7_grow 5 = .ok (.ifCond .ne 5, 3) := by decide +kernel
theorem dX7_grow_8 : decode cX7_grow 8 = .ok (.iconst (-1), 1) := by decide +kernel
theorem dX7_grow_9 : decode cX7_grow 9 = .ok (.ireturn, 1) := by decide +kernel
theorem dX7_grow_10 : decode cX7_grow 10 = .ok (.aload_n 0, 1) := by decide +kernel
theorem dX7_grow_11 : decode cX7_grow 11 = .ok (.getfield 56, 3) := by decide +kernel
theorem dX7_grow_14 : decode cX7_grow 14 = .ok (.bipush 60, 2) := by decide +kernel
theorem dX7_grow_16 : decode cX7_grow 16 = .ok (.if_icmp .ne 6, 3) := by decide +kernel
theorem dX7_grow_19 : decode cX7_grow 19 = .ok (.bipush (-3), 2) := by decide +kernel
theorem dX7_grow_21 : decode cX7_grow 21 = .ok (.ireturn, 1) := by decide +kernel
theorem dX7_grow_22 : decode cX7_grow 22 = .ok (.aload_n 0, 1) := by decide +kernel
theorem dX7_grow_23 : decode cX7_grow 23 = .ok (.iload_n 1, 1) := by decide +kernel
theorem dX7_grow_24 : decode cX7_grow 24 = .ok (.invokevirtual 93, 3) := by decide +kernel
theorem dX7_grow_27 : decode cX7_grow 27 = .ok (.aload_n 0, 1) := by decide +kernel
theorem dX7_grow_28 : decode cX7_grow 28 = .ok (.getfield 59, 3) := by decide +kernel
theorem dX7_grow_31 : decode cX7_grow 31 = .ok (.ireturn, 1) := by decide +kernel
set_option maxRecDepth 20000 in
theorem ggX7_regrows_X7_begins : GoodIn wsX7_regrows wsX7_begins := goodIn_r _ [8, 1, 2, 9, 10, 11, 12, 13, 44, 45, 46, 47, 48, 49, 50, 51, 52, 53, 54, 55, 56, 57] rfl rfl
set_option maxRecDepth 20000 in
theorem gX7_regrows_X7_begins : GoodIn wsX7_regrows (wsV RX7 44 RX7 yX7_begins wsX7_begins) := goodIn_app (goodIn_r _ [4, 5, 6, 7] rfl rfl) ggX7_regrows_X7_begins
set_option maxRecDepth 20000 in
theorem ggX7_regrows_X7_grows : GoodIn wsX7_regrows wsX7_grows := goodIn_r _ [17, 3, 2, 9, 13, 10, 18, 19, 20, 7, 21, 22, 23, 24, 25, 26, 27, 28, 29, 30, 31, 32, 33, 34, 35, 36, 37, 38, 39, 40, 41, 42, 43, 11, 12, 44, 45, 46, 47, 48, 49, 50, 51, 52, 53, 54, 55, 56, 57] rfl rfl
set_option maxRecDepth 20000 in
theorem gX7_regrows_X7_grows : GoodIn wsX7_regrows (wsV RX7 93 RX7 yX7_grows wsX7_grows) := goodIn_app (goodIn_r _ [14, 15, 16, 7] rfl rfl) ggX7_regrows_X7_grows
theorem dX7_regrows_0 : decode cX7_regrows 0 = .ok (.aload_n 0, 1) := by decide +kernel
theorem dX7_regrows_1 : decode cX7_regrows 1 = .ok (.aload_n 0, 1) := by decide +kernel
theorem dX7_regrows_2 : decode cX7_regrows 2 = .ok (.getfield 52, 3) := by decide +kernel
theorem dX7_regrows_5 : decode cX7_regrows 5 = .ok (.invokevirtual 44, 3) := by decide +kernel
theorem dX7_regrows_8 : decode cX7_regrows 8 = .ok (.aload_n 0, 1) := by decide +kernel
theorem dX7_regrows_9 : decode cX7_regrows 9 = .ok (.getfield 56, 3) := by decide +kernel
theorem dX7_regrows_12 : decode cX7_regrows 12 = .ok (.iload_n 1, 1) := by decide +kernel
theorem dX7_regrows_13 : decode cX7_regrows 13 = .ok (.if_icmp .ge 19, 3) := by decide +kernel
theorem dX7_regrows_16 : decode cX7_regrows 16 = .ok (.aload_n 0, 1) := by decide +kernel
theorem dX7_regrows_17 : decode cX7_regrows 17 = .ok (.aload_n 0, 1) := by decide +kernel
theorem dX7_regrows_18 : decode cX7_regrows 18 = .ok (.getfield 7, 3) := by decide +kernel
theorem dX7_regrows_21 : decode cX7_regrows 21 = .ok (.aload_n 0, 1) := by decide +kernel
theorem dX7_regrows_22 : decode cX7_regrows 22 = .ok (.getfield 56, 3) := by decide +kernel
theorem dX7_regrows_25 : decode cX7_regrows 25 = .ok (.iaload, 1) := by decide +kernel
theorem dX7_regrows_26 : decode cX7_regrows 26 = .ok (.invokevirtual 93, 3) := by decide +kernel
theorem dX7_regrows_29 : decode cX7_regrows 29 = .ok (.goto (-21), 3) := by decide +kernel
theorem dX7_regrows_32 : decode cX7_regrows 32 = .ok (.return_, 1) := by decide +kernel
set_option maxRecDepth 20000 in
theorem ggX7_cut_X7_in : GoodIn wsX7_cut wsX7_in := goodIn_r _ [5] rfl rfl
set_option maxRecDepth 20000 in
theorem gX7_cut_X7_in : GoodIn wsX7_cut (va_wsS RX7 85 yX7_in wsX7_in) := goodIn_app (goodIn_r _ [2, 3, 4] rfl rfl) ggX7_cut_X7_in
set_option maxRecDepth 20000 in
theorem ggX7_cut_X7_regrows : GoodIn wsX7_cut wsX7_regrows := goodIn_r _ [9, 10, 1, 11, 12, 13, 14, 4, 15, 16, 17, 18, 19, 20, 21, 22, 23, 24, 25, 26, 27, 28, 29, 30, 31, 32, 33, 34, 35, 36, 37, 38, 39, 40, 41, 42, 43, 44, 45, 46, 47, 48, 49, 50, 51, 52, 53, 54, 55, 56, 57, 58, 59, 60, 61, 62, 63, 64] rfl rfl
set_option maxRecDepth 20000 in
theorem gX7_cut_X7_regrows : GoodIn wsX7_cut (wsV RX7 96 RX7 yX7_regrows wsX7_regrows) := goodIn_app (goodIn_r _ [6, 7, 8, 4] rfl rfl) ggX7_cut_X7_regrows
theorem dX7_cut_0 : decode cX7_cut 0 = .ok (.iload_n 1, 1) := by decide +kernel
theorem dX7_cut_1 : decode cX7_cut 1 = .ok (.iconst 0, 1) := by decide +kernel
theorem dX7_cut_2 : decode cX7_cut 2 = .ok (.aload_n 0, 1) := by decide +kernel
theorem dX7_cut_3 : decode cX7_cut 3 = .ok (.getfield 56, 3) := by decide +kernel
theorem dX7_cut_6 : decode cX7_cut 6 = .ok (.invokestatic 85, 3) := by decide +kernel
theorem dX7_cut_9 : decode cX7_cut 9 = .ok (.ifCond .ne 5, 3) := by decide +kernel
theorem dX7_cut_12 : decode cX7_cut 12 = .ok (.iconst (-1), 1) := by decide +kernel
theorem dX7_cut_13 : decode cX7_cut 13 = .ok (.ireturn, 1) := by decide +kernel
theorem dX7_cut_14 : decode cX7_cut 14 = .ok (.aload_n 0, 1) := by decide +kernel
theorem dX7_cut_15 : decode cX7_cut 15 = .ok (.aload_n 0, 1) := by decide +kernel
theorem dX7_cut_16 : decode cX7_cut 16 = .ok (.getfield 56, 3) := by decide +kernel
theorem dX7_cut_19 : decode cX7_cut 19 = .ok (.iload_n 1, 1) := by decide +kernel
theorem dX7_cut_20 : decode cX7_cut 20 = .ok (.isub, 1) := by decide +kernel
theorem dX7_cut_21 : decode cX7_cut 21 = .ok (.invokevirtual 96, 3) := by decide +kernel
theorem dX7_cut_24 : decode cX7_cut 24 = .ok (.aload_n 0, 1) := by decide +kernel
theorem dX7_cut_25 : decode cX7_cut 25 = .ok (.getfield 56, 3) := by decide +kernel
theorem dX7_cut_28 : decode cX7_cut 28 = .ok (.ireturn, 1) := by decide +kernel
set_option maxRecDepth 20000 in
theorem ggX7_drift_X7_in : GoodIn wsX7_drift wsX7_in := goodIn_r _ [9] rfl rfl
set_option maxRecDepth 20000 in
theorem gX7_drift_X7_in : GoodIn wsX7_drift (va_wsS RX7 85 yX7_in wsX7_in) := goodIn_app (goodIn_r _ [6, 7, 8] rfl rfl) ggX7_drift_X7_in
set_option maxRecDepth 20000 in
theorem ggX7_drift_X7_grows : GoodIn wsX7_drift wsX7_grows := goodIn_r _ [13, 14, 2, 15, 16, 17, 18, 19, 20, 8, 21, 22, 23, 24, 25, 26, 27, 28, 29, 30, 31, 32, 33, 34, 35, 36, 37, 38, 39, 40, 41, 42, 43, 44, 45, 46, 47, 48, 49, 50, 51, 52, 53, 54, 55, 56, 57, 58, 59] rfl rfl
set_option maxRecDepth 20000 in
theorem gX7_drift_X7_grows : GoodIn wsX7_drift (wsV RX7 93 RX7 yX7_grows wsX7_grows) := goodIn_app (goodIn_r _ [10, 11, 12, 8] rfl rfl) ggX7_drift_X7_grows
theorem dX7_drift_0 : decode cX7_drift 0 = .ok (.iload_n 1, 1) := by decide +kernel
theorem dX7_drift_1 : decode cX7_drift 1 = .ok (.iconst 1, 1) := by decide +kernel
theorem dX7_drift_2 : decode cX7_drift 2 = .ok (.bipush 60, 2) := by decide +kernel
theorem dX7_drift_4 : decode cX7_drift 4 = .ok (.invokestatic 85, 3) := by decide +kernel
theorem dX7_drift_7 : decode cX7_drift 7 = .ok (.ifCond .eq 13, 3) := by decide +kernel
theorem dX7_drift_10 : decode cX7_drift 10 = .ok (.iload_n 2, 1) := by decide +kernel
theorem dX7_drift_11 : decode cX7_drift 11 = .ok (.iconst 1, 1) := by decide +kernel
theorem dX7_drift_12 : decode cX7_drift 12 = .ok (.ldc 99, 2) := by decide +kernel
theorem dX7_drift_14 : decode cX7_drift 14 = .ok (.invokestatic 85, 3) := by decide +kernel
theorem dX7_drift_17 : decode cX7_drift 17 = .ok (.ifCond .ne 5, 3) := by decide +kernel
theorem dX7_drift_20 : decode cX7_drift 20 = .ok (.iconst (-1), 1) := by decide +kernel
theorem dX7_drift_21 : decode cX7_drift 21 = .ok (.ireturn, 1) := by decide +kernel
theorem dX7_drift_22 : decode cX7_drift 22 = .ok (.aload_n 0, 1) := by decide +kernel
theorem dX7_drift_23 : decode cX7_drift 23 = .ok (.getfield 56, 3) := by decide +kernel
theorem dX7_drift_26 : decode cX7_drift 26 = .ok (.iload_n 1, 1) := by decide +kernel
theorem dX7_drift_27 : decode cX7_drift 27 = .ok (.iadd, 1) := by decide +kernel
theorem dX7_drift_28 : decode cX7_drift 28 = .ok (.bipush 60, 2) := by decide +kernel
theorem dX7_drift_30 : decode cX7_drift 30 = .ok (.if_icmp .le 6, 3) := by decide +kernel
theorem dX7_drift_33 : decode cX7_drift 33 = .ok (.bipush (-3), 2) := by decide +kernel
theorem dX7_drift_35 : decode cX7_drift 35 = .ok (.ireturn, 1) := by decide +kernel
theorem dX7_drift_36 : decode cX7_drift 36 = .ok (.iload_n 2, 1) := by decide +kernel
theorem dX7_drift_37 : decode cX7_drift 37 = .ok (.i2l, 1) := by decide +kernel
theorem dX7_drift_38 : decode cX7_drift 38 = .ok (.lstore_n 3, 1) := by decide +kernel
theorem dX7_drift_39 : decode cX7_drift 39 = .ok (.iconst 0, 1) := by decide +kernel
theorem dX7_drift_40 : decode cX7_drift 40 = .ok (.istore 5, 2) := by decide +kernel
theorem dX7_drift_42 : decode cX7_drift 42 = .ok (.iload 5, 2) := by decide +kernel
theorem dX7_drift_44 : decode cX7_drift 44 = .ok (.iload_n 1, 1) := by decide +kernel
theorem dX7_drift_45 : decode cX7_drift 45 = .ok (.if_icmp .ge 31, 3) := by decide +kernel
theorem dX7_drift_48 : decode cX7_drift 48 = .ok (.lload_n 3, 1) := by decide +kernel
theorem dX7_drift_49 : decode cX7_drift 49 = .ok (.ldc2_w 100, 3) := by decide +kernel
theorem dX7_drift_52 : decode cX7_drift 52 = .ok (.lmul, 1) := by decide +kernel
theorem dX7_drift_53 : decode cX7_drift 53 = .ok (.ldc2_w 102, 3) := by decide +kernel
theorem dX7_drift_56 : decode cX7_drift 56 = .ok (.lrem, 1) := by decide +kernel
theorem dX7_drift_57 : decode cX7_drift 57 = .ok (.lstore_n 3, 1) := by decide +kernel
theorem dX7_drift_58 : decode cX7_drift 58 = .ok (.aload_n 0, 1) := by decide +kernel
theorem dX7_drift_59 : decode cX7_drift 59 = .ok (.lload_n 3, 1) := by decide +kernel
theorem dX7_drift_60 : decode cX7_drift 60 = .ok (.aload_n 0, 1) := by decide +kernel
theorem dX7_drift_61 : decode cX7_drift 61 = .ok (.getfield 52, 3) := by decide +kernel
theorem dX7_drift_64 : decode cX7_drift 64 = .ok (.i2l, 1) := by decide +kernel
theorem dX7_drift_65 : decode cX7_drift 65 = .ok (.lrem, 1) := by decide +kernel
theorem dX7_drift_66 : decode cX7_drift 66 = .ok (.l2i, 1) := by decide +kernel
theorem dX7_drift_67 : decode cX7_drift 67 = .ok (.invokevirtual 93, 3) := by decide +kernel
theorem dX7_drift_70 : decode cX7_drift 70 = .ok (.iinc 5 1, 3) := by decide +kernel
theorem dX7_drift_73 : decode cX7_drift 73 = .ok (.goto (-31), 3) := by decide +kernel
theorem dX7_drift_76 : decode cX7_drift 76 = .ok (.aload_n 0, 1) := by decide +kernel
theorem dX7_drift_77 : decode cX7_drift 77 = .ok (.getfield 56, 3) := by decide +kernel
theorem dX7_drift_80 : decode cX7_drift 80 = .ok (.ireturn, 1) := by decide +kernel
set_option maxRecDepth 20000 in
theorem ggX7_letter_X7_in : GoodIn wsX7_letter wsX7_in := goodIn_r _ [6] rfl rfl
set_option maxRecDepth 20000 in
theorem gX7_letter_X7_in : GoodIn wsX7_letter (va_wsS RX7 85 yX7_in wsX7_in) := goodIn_app (goodIn_r _ [3, 4, 5] rfl rfl) ggX7_letter_X7_in
theorem dX7_letter_0 : decode cX7_letter 0 = .ok (.iload_n 1, 1) := by decide +kernel
theorem dX7_letter_1 : decode cX7_letter 1 = .ok (.iconst 0, 1) := by decide +kernel
theorem dX7_letter_2 : decode cX7_letter 2 = .ok (.aload_n 0, 1) := by decide +kernel
theorem dX7_letter_3 : decode cX7_letter 3 = .ok (.getfield 56, 3) := by decide +kernel
theorem dX7_letter_6 : decode cX7_letter 6 = .ok (.iconst 1, 1) := by decide +kernel
theorem dX7_letter_7 : decode cX7_letter 7 = .ok (.isub, 1) := by decide +kernel
theorem dX7_letter_8 : decode cX7_letter 8 = .ok (.invokestatic 85, 3) := by decide +kernel
theorem dX7_letter_11 : decode cX7_letter 11 = .ok (.ifCond .eq 12, 3) := by decide +kernel
theorem dX7_letter_14 : decode cX7_letter 14 = .ok (.aload_n 0, 1) := by decide +kernel
theorem dX7_letter_15 : decode cX7_letter 15 = .ok (.getfield 7, 3) := by decide +kernel
theorem dX7_letter_18 : decode cX7_letter 18 = .ok (.iload_n 1, 1) := by decide +kernel
theorem dX7_letter_19 : decode cX7_letter 19 = .ok (.iaload, 1) := by decide +kernel
theorem dX7_letter_20 : decode cX7_letter 20 = .ok (.goto 5, 3) := by decide +kernel
theorem dX7_letter_23 : decode cX7_letter 23 = .ok (.bipush (-12), 2) := by decide +kernel
theorem dX7_letter_25 : decode cX7_letter 25 = .ok (.ireturn, 1) := by decide +kernel
theorem dX7_linkOf_0 : decode cX7_linkOf 0 = .ok (.bipush (-4), 2) := by decide +kernel
theorem dX7_linkOf_2 : decode cX7_linkOf 2 = .ok (.istore_n 2, 1) := by decide +kernel
theorem dX7_linkOf_3 : decode cX7_linkOf 3 = .ok (.iconst 0, 1) := by decide +kernel
theorem dX7_linkOf_4 : decode cX7_linkOf 4 = .ok (.istore_n 3, 1) := by decide +kernel
theorem dX7_linkOf_5 : decode cX7_linkOf 5 = .ok (.iload_n 3, 1) := by decide +kernel
theorem dX7_linkOf_6 : decode cX7_linkOf 6 = .ok (.aload_n 0, 1) := by decide +kernel
theorem dX7_linkOf_7 : decode cX7_linkOf 7 = .ok (.getfield 59, 3) := by decide +kernel
theorem dX7_linkOf_10 : decode cX7_linkOf 10 = .ok (.if_icmp .ge 76, 3) := by decide +kernel
theorem dX7_linkOf_13 : decode cX7_linkOf 13 = .ok (.iload_n 3, 1) := by decide +kernel
theorem dX7_linkOf_14 : decode cX7_linkOf 14 = .ok (.iload_n 1, 1) := by decide +kernel
theorem dX7_linkOf_15 : decode cX7_linkOf 15 = .ok (.if_icmp .eq 30, 3) := by decide +kernel
theorem dX7_linkOf_18 : decode cX7_linkOf 18 = .ok (.aload_n 0, 1) := by decide +kernel
theorem dX7_linkOf_19 : decode cX7_linkOf 19 = .ok (.getfield 22, 3) := by decide +kernel
theorem dX7_linkOf_22 : decode cX7_linkOf 22 = .ok (.iload_n 3, 1) := by decide +kernel
theorem dX7_linkOf_23 : decode cX7_linkOf 23 = .ok (.laload, 1) := by decide +kernel
theorem dX7_linkOf_24 : decode cX7_linkOf 24 = .ok (.aload_n 0, 1) := by decide +kernel
theorem dX7_linkOf_25 : decode cX7_linkOf 25 = .ok (.getfield 22, 3) := by decide +kernel
theorem dX7_linkOf_28 : decode cX7_linkOf 28 = .ok (.iload_n 1, 1) := by decide +kernel
theorem dX7_linkOf_29 : decode cX7_linkOf 29 = .ok (.laload, 1) := by decide +kernel
theorem dX7_linkOf_30 : decode cX7_linkOf 30 = .ok (.land, 1) := by decide +kernel
theorem dX7_linkOf_31 : decode cX7_linkOf 31 = .ok (.aload_n 0, 1) := by decide +kernel
theorem dX7_linkOf_32 : decode cX7_linkOf 32 = .ok (.getfield 22, 3) := by decide +kernel
theorem dX7_linkOf_35 : decode cX7_linkOf 35 = .ok (.iload_n 1, 1) := by decide +kernel
theorem dX7_linkOf_36 : decode cX7_linkOf 36 = .ok (.laload, 1) := by decide +kernel
theorem dX7_linkOf_37 : decode cX7_linkOf 37 = .ok (.lcmp, 1) := by decide +kernel
theorem dX7_linkOf_38 : decode cX7_linkOf 38 = .ok (.ifCond .ne 7, 3) := by decide +kernel
theorem dX7_linkOf_41 : decode cX7_linkOf 41 = .ok (.iconst 1, 1) := by decide +kernel
theorem dX7_linkOf_42 : decode cX7_linkOf 42 = .ok (.goto 4, 3) := by decide +kernel
theorem dX7_linkOf_45 : decode cX7_linkOf 45 = .ok (.iconst 0, 1) := by decide +kernel
theorem dX7_linkOf_46 : decode cX7_linkOf 46 = .ok (.istore 4, 2) := by decide +kernel
theorem dX7_linkOf_48 : decode cX7_linkOf 48 = .ok (.iload 4, 2) := by decide +kernel
theorem dX7_linkOf_50 : decode cX7_linkOf 50 = .ok (.ifCond .eq 28, 3) := by decide +kernel
theorem dX7_linkOf_53 : decode cX7_linkOf 53 = .ok (.iload_n 2, 1) := by decide +kernel
theorem dX7_linkOf_54 : decode cX7_linkOf 54 = .ok (.bipush (-4), 2) := by decide +kernel
theorem dX7_linkOf_56 : decode cX7_linkOf 56 = .ok (.if_icmp .eq 18, 3) := by decide +kernel
theorem dX7_linkOf_59 : decode cX7_linkOf 59 = .ok (.aload_n 0, 1) := by decide +kernel
theorem dX7_linkOf_60 : decode cX7_linkOf 60 = .ok (.getfield 13, 3) := by decide +kernel
theorem dX7_linkOf_63 : decode cX7_linkOf 63 = .ok (.iload_n 3, 1) := by decide +kernel
theorem dX7_linkOf_64 : decode cX7_linkOf 64 = .ok (.iaload, 1) := by decide +kernel
theorem dX7_linkOf_65 : decode cX7_linkOf 65 = .ok (.aload_n 0, 1) := by decide +kernel
theorem dX7_linkOf_66 : decode cX7_linkOf 66 = .ok (.getfield 13, 3) := by decide +kernel
theorem dX7_linkOf_69 : decode cX7_linkOf 69 = .ok (.iload_n 2, 1) := by decide +kernel
theorem dX7_linkOf_70 : decode cX7_linkOf 70 = .ok (.iaload, 1) := by decide +kernel
theorem dX7_linkOf_71 : decode cX7_linkOf 71 = .ok (.if_icmp .le 7, 3) := by decide +kernel
theorem dX7_linkOf_74 : decode cX7_linkOf 74 = .ok (.iload_n 3, 1) := by decide +kernel
theorem dX7_linkOf_75 : decode cX7_linkOf 75 = .ok (.goto 4, 3) := by decide +kernel
theorem dX7_linkOf_78 : decode cX7_linkOf 78 = .ok (.iload_n 2, 1) := by decide +kernel
theorem dX7_linkOf_79 : decode cX7_linkOf 79 = .ok (.istore_n 2, 1) := by decide +kernel
theorem dX7_linkOf_80 : decode cX7_linkOf 80 = .ok (.iinc 3 1, 3) := by decide +kernel
theorem dX7_linkOf_83 : decode cX7_linkOf 83 = .ok (.goto (-78), 3) := by decide +kernel
theorem dX7_linkOf_86 : decode cX7_linkOf 86 = .ok (.iload_n 2, 1) := by decide +kernel
theorem dX7_linkOf_87 : decode cX7_linkOf 87 = .ok (.ireturn, 1) := by decide +kernel
set_option maxRecDepth 20000 in
theorem ggX7_shortest_X7_linkOf : GoodIn wsX7_shortest wsX7_linkOf := goodIn_r _ [6, 7, 8, 1, 9, 10, 11, 12, 13, 14, 15, 16, 17, 18, 19, 20, 21, 22] rfl rfl
set_option maxRecDepth 20000 in
theorem gX7_shortest_X7_linkOf : GoodIn wsX7_shortest (wsV RX7 104 RX7 yX7_linkOf wsX7_linkOf) := goodIn_app (goodIn_r _ [2, 3, 4, 5] rfl rfl) ggX7_shortest_X7_linkOf
theorem dX7_shortest_0 : decode cX7_shortest 0 = .ok (.iload_n 1, 1) := by decide +kernel
theorem dX7_shortest_1 : decode cX7_shortest 1 = .ok (.ifCond .ne 7, 3) := by decide +kernel
theorem dX7_shortest_4 : decode cX7_shortest 4 = .ok (.iconst 0, 1) := by decide +kernel
theorem dX7_shortest_5 : decode cX7_shortest 5 = .ok (.goto 15, 3) := by decide +kernel
theorem dX7_shortest_8 : decode cX7_shortest 8 = .ok (.aload_n 0, 1) := by decide +kernel
theorem dX7_shortest_9 : decode cX7_shortest 9 = .ok (.getfield 13, 3) := by decide +kernel
theorem dX7_shortest_12 : decode cX7_shortest 12 = .ok (.aload_n 0, 1) := by decide +kernel
theorem dX7_shortest_13 : decode cX7_shortest 13 = .ok (.iload_n 1, 1) := by decide +kernel
theorem dX7_shortest_14 : decode cX7_shortest 14 = .ok (.invokevirtual 104, 3) := by decide +kernel
theorem dX7_shortest_17 : decode cX7_shortest 17 = .ok (.iaload, 1) := by decide +kernel
theorem dX7_shortest_18 : decode cX7_shortest 18 = .ok (.iconst 1, 1) := by decide +kernel
theorem dX7_shortest_19 : decode cX7_shortest 19 = .ok (.iadd, 1) := by decide +kernel
theorem dX7_shortest_20 : decode cX7_shortest 20 = .ok (.ireturn, 1) := by decide +kernel
set_option maxRecDepth 20000 in
theorem ggX7_isState_X7_in : GoodIn wsX7_isState wsX7_in := goodIn_r _ [5] rfl rfl
set_option maxRecDepth 20000 in
theorem gX7_isState_X7_in : GoodIn wsX7_isState (va_wsS RX7 85 yX7_in wsX7_in) := goodIn_app (goodIn_r _ [2, 3, 4] rfl rfl) ggX7_isState_X7_in
theorem dX7_isState_0 : decode cX7_isState 0 = .ok (.iload_n 1, 1) := by decide +kernel
theorem dX7_isState_1 : decode cX7_isState 1 = .ok (.iconst 0, 1) := by decide +kernel
theorem dX7_isState_2 : decode cX7_isState 2 = .ok (.aload_n 0, 1) := by decide +kernel
theorem dX7_isState_3 : decode cX7_isState 3 = .ok (.getfield 59, 3) := by decide +kernel
theorem dX7_isState_6 : decode cX7_isState 6 = .ok (.iconst 1, 1) := by decide +kernel
theorem dX7_isState_7 : decode cX7_isState 7 = .ok (.isub, 1) := by decide +kernel
theorem dX7_isState_8 : decode cX7_isState 8 = .ok (.invokestatic 85, 3) := by decide +kernel
theorem dX7_isState_11 : decode cX7_isState 11 = .ok (.ireturn, 1) := by decide +kernel
set_option maxRecDepth 20000 in
theorem ggX7_state_X7_isState : GoodIn wsX7_state wsX7_isState := goodIn_r _ [9, 10, 11, 12, 8, 13, 31, 32, 33, 34, 35, 36, 37, 38, 39, 40, 41, 42, 43, 44] rfl rfl
set_option maxRecDepth 20000 in
theorem gX7_state_X7_isState : GoodIn wsX7_state (wsV RX7 107 RX7 yX7_isState wsX7_isState) := goodIn_app (goodIn_r _ [5, 6, 7, 8] rfl rfl) ggX7_state_X7_isState
set_option maxRecDepth 20000 in
theorem ggX7_state_X7_shortest : GoodIn wsX7_state wsX7_shortest := goodIn_r _ [17, 1, 18, 19, 20, 8, 21, 10, 2, 31, 32, 33, 34, 35, 36, 37, 38, 39, 40, 41, 42, 43, 44] rfl rfl
set_option maxRecDepth 20000 in
theorem gX7_state_X7_shortest : GoodIn wsX7_state (wsV RX7 110 RX7 yX7_shortest wsX7_shortest) := goodIn_app (goodIn_r _ [14, 15, 16, 8] rfl rfl) ggX7_state_X7_shortest
set_option maxRecDepth 20000 in
theorem ggX7_state_X7_linkOf : GoodIn wsX7_state wsX7_linkOf := goodIn_r _ [21, 10, 2, 1, 31, 32, 33, 34, 35, 36, 37, 38, 39, 40, 41, 42, 43, 44] rfl rfl
set_option maxRecDepth 20000 in
theorem gX7_state_X7_linkOf : GoodIn wsX7_state (wsV RX7 104 RX7 yX7_linkOf wsX7_linkOf) := goodIn_app (goodIn_r _ [18, 19, 20, 8] rfl rfl) ggX7_state_X7_linkOf
set_option maxRecDepth 20000 in
theorem ggX7_state_X7_bits : GoodIn wsX7_state wsX7_bits := goodIn_r _ [24] rfl rfl
set_option maxRecDepth 20000 in
theorem gX7_state_X7_bits : GoodIn wsX7_state (va_wsS RX7 113 yX7_bits wsX7_bits) := goodIn_app (goodIn_r _ [22, 23, 8] rfl rfl) ggX7_state_X7_bits
set_option maxRecDepth 20000 in
theorem ggX7_state_X7_least : GoodIn wsX7_state wsX7_least := goodIn_r _ [27, 28, 29, 8, 30] rfl rfl
set_option maxRecDepth 20000 in
theorem gX7_state_X7_least : GoodIn wsX7_state (va_wsS RX7 78 yX7_least wsX7_least) := goodIn_app (goodIn_r _ [25, 26, 8] rfl rfl) ggX7_state_X7_least
theorem dX7_state_0 : decode cX7_state 0 = .ok (.aload_n 0, 1) := by decide +kernel
theorem dX7_state_1 : decode cX7_state 1 = .ok (.iload_n 1, 1) := by decide +kernel
theorem dX7_state_2 : decode cX7_state 2 = .ok (.invokevirtual 107, 3) := by decide +kernel
theorem dX7_state_5 : decode cX7_state 5 = .ok (.ifCond .ne 5, 3) := by decide +kernel
theorem dX7_state_8 : decode cX7_state 8 = .ok (.iconst (-1), 1) := by decide +kernel
theorem dX7_state_9 : decode cX7_state 9 = .ok (.ireturn, 1) := by decide +kernel
theorem dX7_state_10 : decode cX7_state 10 = .ok (.iload_n 2, 1) := by decide +kernel
theorem dX7_state_11 : decode cX7_state 11 = .ok (.tableswitch 103 0 6 #[41, 48, 54, 69, 79, 89, 96], 41) := by decide +kernel
theorem dX7_state_52 : decode cX7_state 52 = .ok (.aload_n 0, 1) := by decide +kernel
theorem dX7_state_53 : decode cX7_state 53 = .ok (.getfield 13, 3) := by decide +kernel
theorem dX7_state_56 : decode cX7_state 56 = .ok (.iload_n 1, 1) := by decide +kernel
theorem dX7_state_57 : decode cX7_state 57 = .ok (.iaload, 1) := by decide +kernel
theorem dX7_state_58 : decode cX7_state 58 = .ok (.ireturn, 1) := by decide +kernel
theorem dX7_state_59 : decode cX7_state 59 = .ok (.aload_n 0, 1) := by decide +kernel
theorem dX7_state_60 : decode cX7_state 60 = .ok (.iload_n 1, 1) := by decide +kernel
theorem dX7_state_61 : decode cX7_state 61 = .ok (.invokevirtual 110, 3) := by decide +kernel
theorem dX7_state_64 : decode cX7_state 64 = .ok (.ireturn, 1) := by decide +kernel
theorem dX7_state_65 : decode cX7_state 65 = .ok (.iload_n 1, 1) := by decide +kernel
theorem dX7_state_66 : decode cX7_state 66 = .ok (.ifCond .ne 8, 3) := by decide +kernel
theorem dX7_state_69 : decode cX7_state 69 = .ok (.bipush (-4), 2) := by decide +kernel
theorem dX7_state_71 : decode cX7_state 71 = .ok (.goto 8, 3) := by decide +kernel
theorem dX7_state_74 : decode cX7_state 74 = .ok (.aload_n 0, 1) := by decide +kernel
theorem dX7_state_75 : decode cX7_state 75 = .ok (.iload_n 1, 1) := by decide +kernel
theorem dX7_state_76 : decode cX7_state 76 = .ok (.invokevirtual 104, 3) := by decide +kernel
theorem dX7_state_79 : decode cX7_state 79 = .ok (.ireturn, 1) := by decide +kernel
theorem dX7_state_80 : decode cX7_state 80 = .ok (.aload_n 0, 1) := by decide +kernel
theorem dX7_state_81 : decode cX7_state 81 = .ok (.getfield 22, 3) := by decide +kernel
theorem dX7_state_84 : decode cX7_state 84 = .ok (.iload_n 1, 1) := by decide +kernel
theorem dX7_state_85 : decode cX7_state 85 = .ok (.laload, 1) := by decide +kernel
theorem dX7_state_86 : decode cX7_state 86 = .ok (.invokestatic 113, 3) := by decide +kernel
theorem dX7_state_89 : decode cX7_state 89 = .ok (.ireturn, 1) := by decide +kernel
theorem dX7_state_90 : decode cX7_state 90 = .ok (.aload_n 0, 1) := by decide +kernel
theorem dX7_state_91 : decode cX7_state 91 = .ok (.getfield 22, 3) := by decide +kernel
theorem dX7_state_94 : decode cX7_state 94 = .ok (.iload_n 1, 1) := by decide +kernel
theorem dX7_state_95 : decode cX7_state 95 = .ok (.laload, 1) := by decide +kernel
theorem dX7_state_96 : decode cX7_state 96 = .ok (.invokestatic 78, 3) := by decide +kernel
theorem dX7_state_99 : decode cX7_state 99 = .ok (.ireturn, 1) := by decide +kernel
theorem dX7_state_100 : decode cX7_state 100 = .ok (.aload_n 0, 1) := by decide +kernel
theorem dX7_state_101 : decode cX7_state 101 = .ok (.getfield 16, 3) := by decide +kernel
theorem dX7_state_104 : decode cX7_state 104 = .ok (.iload_n 1, 1) := by decide +kernel
theorem dX7_state_105 : decode cX7_state 105 = .ok (.iaload, 1) := by decide +kernel
theorem dX7_state_106 : decode cX7_state 106 = .ok (.ireturn, 1) := by decide +kernel
theorem dX7_state_107 : decode cX7_state 107 = .ok (.aload_n 0, 1) := by decide +kernel
theorem dX7_state_108 : decode cX7_state 108 = .ok (.getfield 19, 3) := by decide +kernel
theorem dX7_state_111 : decode cX7_state 111 = .ok (.iload_n 1, 1) := by decide +kernel
theorem dX7_state_112 : decode cX7_state 112 = .ok (.iaload, 1) := by decide +kernel
theorem dX7_state_113 : decode cX7_state 113 = .ok (.ireturn, 1) := by decide +kernel
theorem dX7_state_114 : decode cX7_state 114 = .ok (.iconst (-1), 1) := by decide +kernel
theorem dX7_state_115 : decode cX7_state 115 = .ok (.ireturn, 1) := by decide +kernel
set_option maxRecDepth 20000 in
theorem ggX7_behind_X7_has : GoodIn wsX7_behind wsX7_has := goodIn_r _ [6] rfl rfl
set_option maxRecDepth 20000 in
theorem gX7_behind_X7_has : GoodIn wsX7_behind (va_wsS RX7 48 yX7_has wsX7_has) := goodIn_app (goodIn_r _ [3, 4, 5] rfl rfl) ggX7_behind_X7_has
theorem dX7_behind_0 : decode cX7_behind 0 = .ok (.lconst 0, 1) := by decide +kernel
theorem dX7_behind_1 : decode cX7_behind 1 = .ok (.lstore 4, 2) := by decide +kernel
theorem dX7_behind_3 : decode cX7_behind 3 = .ok (.iconst 0, 1) := by decide +kernel
theorem dX7_behind_4 : decode cX7_behind 4 = .ok (.istore 6, 2) := by decide +kernel
theorem dX7_behind_6 : decode cX7_behind 6 = .ok (.iload 6, 2) := by decide +kernel
theorem dX7_behind_8 : decode cX7_behind 8 = .ok (.aload_n 0, 1) := by decide +kernel
theorem dX7_behind_9 : decode cX7_behind 9 = .ok (.getfield 56, 3) := by decide +kernel
theorem dX7_behind_12 : decode cX7_behind 12 = .ok (.if_icmp .ge 44, 3) := by decide +kernel
theorem dX7_behind_15 : decode cX7_behind 15 = .ok (.lload 4, 2) := by decide +kernel
theorem dX7_behind_17 : decode cX7_behind 17 = .ok (.lload_n 1, 1) := by decide +kernel
theorem dX7_behind_18 : decode cX7_behind 18 = .ok (.iload 6, 2) := by decide +kernel
theorem dX7_behind_20 : decode cX7_behind 20 = .ok (.invokestatic 48, 3) := by decide +kernel
theorem dX7_behind_23 : decode cX7_behind 23 = .ok (.ifCond .eq 23, 3) := by decide +kernel
theorem dX7_behind_26 : decode cX7_behind 26 = .ok (.aload_n 0, 1) := by decide +kernel
theorem dX7_behind_27 : decode cX7_behind 27 = .ok (.getfield 7, 3) := by decide +kernel
theorem dX7_behind_30 : decode cX7_behind 30 = .ok (.iload 6, 2) := by decide +kernel
theorem dX7_behind_32 : decode cX7_behind 32 = .ok (.iaload, 1) := by decide +kernel
theorem dX7_behind_33 : decode cX7_behind 33 = .ok (.iload_n 3, 1) := by decide +kernel
theorem dX7_behind_34 : decode cX7_behind 34 = .ok (.if_icmp .ne 12, 3) := by decide +kernel
theorem dX7_behind_37 : decode cX7_behind 37 = .ok (.lconst 1, 1) := by decide +kernel
theorem dX7_behind_38 : decode cX7_behind 38 = .ok (.iload 6, 2) := by decide +kernel
theorem dX7_behind_40 : decode cX7_behind 40 = .ok (.iconst 1, 1) := by decide +kernel
theorem dX7_behind_41 : decode cX7_behind 41 = .ok (.iadd, 1) := by decide +kernel
theorem dX7_behind_42 : decode cX7_behind 42 = .ok (.lshl, 1) := by decide +kernel
theorem dX7_behind_43 : decode cX7_behind 43 = .ok (.goto 4, 3) := by decide +kernel
theorem dX7_behind_46 : decode cX7_behind 46 = .ok (.lconst 0, 1) := by decide +kernel
theorem dX7_behind_47 : decode cX7_behind 47 = .ok (.lor, 1) := by decide +kernel
theorem dX7_behind_48 : decode cX7_behind 48 = .ok (.lstore 4, 2) := by decide +kernel
theorem dX7_behind_50 : decode cX7_behind 50 = .ok (.iinc 6 1, 3) := by decide +kernel
theorem dX7_behind_53 : decode cX7_behind 53 = .ok (.goto (-47), 3) := by decide +kernel
theorem dX7_behind_56 : decode cX7_behind 56 = .ok (.lload 4, 2) := by decide +kernel
theorem dX7_behind_58 : decode cX7_behind 58 = .ok (.lreturn, 1) := by decide +kernel
set_option maxRecDepth 20000 in
theorem ggX7_moveOf_X7_behind : GoodIn wsX7_moveOf wsX7_behind := goodIn_r _ [6, 7, 8, 9, 10, 5, 11, 17, 18, 19, 20, 21, 22, 23, 24, 25, 26, 27, 28, 29, 30] rfl rfl
set_option maxRecDepth 20000 in
theorem gX7_moveOf_X7_behind : GoodIn wsX7_moveOf (wsV RX7 116 RX7 yX7_behind wsX7_behind) := goodIn_app (goodIn_r _ [2, 3, 4, 5] rfl rfl) ggX7_moveOf_X7_behind
set_option maxRecDepth 20000 in
theorem ggX7_moveOf_X7_stateOf : GoodIn wsX7_moveOf wsX7_stateOf := goodIn_r _ [15, 16, 1, 17, 18, 19, 20, 21, 22, 23, 24, 25, 26, 27, 28, 29, 30] rfl rfl
set_option maxRecDepth 20000 in
theorem gX7_moveOf_X7_stateOf : GoodIn wsX7_moveOf (wsV RX7 74 RX7 yX7_stateOf wsX7_stateOf) := goodIn_app (goodIn_r _ [12, 13, 14, 5] rfl rfl) ggX7_moveOf_X7_stateOf
theorem dX7_moveOf_0 : decode cX7_moveOf 0 = .ok (.aload_n 0, 1) := by decide +kernel
theorem dX7_moveOf_1 : decode cX7_moveOf 1 = .ok (.aload_n 0, 1) := by decide +kernel
theorem dX7_moveOf_2 : decode cX7_moveOf 2 = .ok (.aload_n 0, 1) := by decide +kernel
theorem dX7_moveOf_3 : decode cX7_moveOf 3 = .ok (.getfield 22, 3) := by decide +kernel
theorem dX7_moveOf_6 : decode cX7_moveOf 6 = .ok (.iload_n 1, 1) := by decide +kernel
theorem dX7_moveOf_7 : decode cX7_moveOf 7 = .ok (.laload, 1) := by decide +kernel
theorem dX7_moveOf_8 : decode cX7_moveOf 8 = .ok (.iload_n 2, 1) := by decide +kernel
theorem dX7_moveOf_9 : decode cX7_moveOf 9 = .ok (.invokevirtual 116, 3) := by decide +kernel
theorem dX7_moveOf_12 : decode cX7_moveOf 12 = .ok (.invokevirtual 74, 3) := by decide +kernel
theorem dX7_moveOf_15 : decode cX7_moveOf 15 = .ok (.ireturn, 1) := by decide +kernel
set_option maxRecDepth 20000 in
theorem ggX7_move_X7_isState : GoodIn wsX7_move wsX7_isState := goodIn_r _ [5, 6, 7, 8, 4, 9, 33, 34, 35, 36, 37, 38, 39, 40, 41, 42, 43, 44, 45, 46] rfl rfl
set_option maxRecDepth 20000 in
theorem gX7_move_X7_isState : GoodIn wsX7_move (wsV RX7 107 RX7 yX7_isState wsX7_isState) := goodIn_app (goodIn_r _ [1, 2, 3, 4] rfl rfl) ggX7_move_X7_isState
set_option maxRecDepth 20000 in
theorem ggX7_move_X7_isLetter : GoodIn wsX7_move wsX7_isLetter := goodIn_r _ [13, 14, 7, 8, 4, 9, 33, 34, 35, 36, 37, 38, 39, 40, 41, 42, 43, 44, 45, 46] rfl rfl
set_option maxRecDepth 20000 in
theorem gX7_move_X7_isLetter : GoodIn wsX7_move (wsV RX7 89 RX7 yX7_isLetter wsX7_isLetter) := goodIn_app (goodIn_r _ [10, 11, 12, 4] rfl rfl) ggX7_move_X7_isLetter
set_option maxRecDepth 20000 in
theorem ggX7_move_X7_moveOf : GoodIn wsX7_move wsX7_moveOf := goodIn_r _ [18, 19, 20, 21, 22, 4, 23, 24, 25, 26, 27, 28, 29, 30, 31, 32, 6, 33, 34, 35, 36, 37, 38, 39, 40, 41, 42, 43, 44, 45, 46] rfl rfl
set_option maxRecDepth 20000 in
theorem gX7_move_X7_moveOf : GoodIn wsX7_move (wsV RX7 120 RX7 yX7_moveOf wsX7_moveOf) := goodIn_app (goodIn_r _ [15, 16, 17, 4] rfl rfl) ggX7_move_X7_moveOf
theorem dX7_move_0 : decode cX7_move 0 = .ok (.aload_n 0, 1) := by decide +kernel
theorem dX7_move_1 : decode cX7_move 1 = .ok (.iload_n 1, 1) := by decide +kernel
theorem dX7_move_2 : decode cX7_move 2 = .ok (.invokevirtual 107, 3) := by decide +kernel
theorem dX7_move_5 : decode cX7_move 5 = .ok (.ifCond .eq 20, 3) := by decide +kernel
theorem dX7_move_8 : decode cX7_move 8 = .ok (.aload_n 0, 1) := by decide +kernel
theorem dX7_move_9 : decode cX7_move 9 = .ok (.iload_n 2, 1) := by decide +kernel
theorem dX7_move_10 : decode cX7_move 10 = .ok (.invokevirtual 89, 3) := by decide +kernel
theorem dX7_move_13 : decode cX7_move 13 = .ok (.ifCond .eq 12, 3) := by decide +kernel
theorem dX7_move_16 : decode cX7_move 16 = .ok (.aload_n 0, 1) := by decide +kernel
theorem dX7_move_17 : decode cX7_move 17 = .ok (.iload_n 1, 1) := by decide +kernel
theorem dX7_move_18 : decode cX7_move 18 = .ok (.iload_n 2, 1) := by decide +kernel
theorem dX7_move_19 : decode cX7_move 19 = .ok (.invokevirtual 120, 3) := by decide +kernel
theorem dX7_move_22 : decode cX7_move 22 = .ok (.goto 4, 3) := by decide +kernel
theorem dX7_move_25 : decode cX7_move 25 = .ok (.iconst (-1), 1) := by decide +kernel
theorem dX7_move_26 : decode cX7_move 26 = .ok (.ireturn, 1) := by decide +kernel
set_option maxRecDepth 20000 in
theorem ggX7_kthEnd_X7_has : GoodIn wsX7_kthEnd wsX7_has := goodIn_r _ [4] rfl rfl
set_option maxRecDepth 20000 in
theorem gX7_kthEnd_X7_has : GoodIn wsX7_kthEnd (va_wsS RX7 48 yX7_has wsX7_has) := goodIn_app (goodIn_r _ [1, 2, 3] rfl rfl) ggX7_kthEnd_X7_has
theorem dX7_kthEnd_0 : decode cX7_kthEnd 0 = .ok (.iload_n 2, 1) := by decide +kernel
theorem dX7_kthEnd_1 : decode cX7_kthEnd 1 = .ok (.istore_n 3, 1) := by decide +kernel
theorem dX7_kthEnd_2 : decode cX7_kthEnd 2 = .ok (.iconst 0, 1) := by decide +kernel
theorem dX7_kthEnd_3 : decode cX7_kthEnd 3 = .ok (.istore 4, 2) := by decide +kernel
theorem dX7_kthEnd_5 : decode cX7_kthEnd 5 = .ok (.iload 4, 2) := by decide +kernel
theorem dX7_kthEnd_7 : decode cX7_kthEnd 7 = .ok (.bipush 60, 2) := by decide +kernel
theorem dX7_kthEnd_9 : decode cX7_kthEnd 9 = .ok (.if_icmp .gt 28, 3) := by decide +kernel
theorem dX7_kthEnd_12 : decode cX7_kthEnd 12 = .ok (.lload_n 0, 1) := by decide +kernel
theorem dX7_kthEnd_13 : decode cX7_kthEnd 13 = .ok (.iload 4, 2) := by decide +kernel
theorem dX7_kthEnd_15 : decode cX7_kthEnd 15 = .ok (.invokestatic 48, 3) := by decide +kernel
theorem dX7_kthEnd_18 : decode cX7_kthEnd 18 = .ok (.ifCond .eq 13, 3) := by decide +kernel
theorem dX7_kthEnd_21 : decode cX7_kthEnd 21 = .ok (.iload_n 3, 1) := by decide +kernel
theorem dX7_kthEnd_22 : decode cX7_kthEnd 22 = .ok (.ifCond .ne 6, 3) := by decide +kernel
theorem dX7_kthEnd_25 : decode cX7_kthEnd 25 = .ok (.iload 4, 2) := by decide +kernel
theorem dX7_kthEnd_27 : decode cX7_kthEnd 27 = .ok (.ireturn, 1) := by decide +kernel
theorem dX7_kthEnd_28 : decode cX7_kthEnd 28 = .ok (.iinc 3 (-1), 3) := by decide +kernel
theorem dX7_kthEnd_31 : decode cX7_kthEnd 31 = .ok (.iinc 4 1, 3) := by decide +kernel
theorem dX7_kthEnd_34 : decode cX7_kthEnd 34 = .ok (.goto (-29), 3) := by decide +kernel
theorem dX7_kthEnd_37 : decode cX7_kthEnd 37 = .ok (.bipush (-4), 2) := by decide +kernel
theorem dX7_kthEnd_39 : decode cX7_kthEnd 39 = .ok (.ireturn, 1) := by decide +kernel
set_option maxRecDepth 20000 in
theorem ggX7_end_X7_isState : GoodIn wsX7_end wsX7_isState := goodIn_r _ [6, 7, 8, 9, 5, 10, 17, 18, 19, 20, 21, 22, 23, 24, 25, 26, 27, 28, 29, 30] rfl rfl
set_option maxRecDepth 20000 in
theorem gX7_end_X7_isState : GoodIn wsX7_end (wsV RX7 107 RX7 yX7_isState wsX7_isState) := goodIn_app (goodIn_r _ [2, 3, 4, 5] rfl rfl) ggX7_end_X7_isState
set_option maxRecDepth 20000 in
theorem ggX7_end_X7_kthEnd : GoodIn wsX7_end wsX7_kthEnd := goodIn_r _ [13, 14, 15, 5, 16] rfl rfl
set_option maxRecDepth 20000 in
theorem gX7_end_X7_kthEnd : GoodIn wsX7_end (va_wsS RX7 123 yX7_kthEnd wsX7_kthEnd) := goodIn_app (goodIn_r _ [11, 12, 5] rfl rfl) ggX7_end_X7_kthEnd
theorem dX7_end_0 : decode cX7_end 0 = .ok (.aload_n 0, 1) := by decide +kernel
theorem dX7_end_1 : decode cX7_end 1 = .ok (.iload_n 1, 1) := by decide +kernel
theorem dX7_end_2 : decode cX7_end 2 = .ok (.invokevirtual 107, 3) := by decide +kernel
theorem dX7_end_5 : decode cX7_end 5 = .ok (.ifCond .eq 20, 3) := by decide +kernel
theorem dX7_end_8 : decode cX7_end 8 = .ok (.iload_n 2, 1) := by decide +kernel
theorem dX7_end_9 : decode cX7_end 9 = .ok (.ifCond .lt 16, 3) := by decide +kernel
theorem dX7_end_12 : decode cX7_end 12 = .ok (.aload_n 0, 1) := by decide +kernel
theorem dX7_end_13 : decode cX7_end 13 = .ok (.getfield 22, 3) := by decide +kernel
theorem dX7_end_16 : decode cX7_end 16 = .ok (.iload_n 1, 1) := by decide +kernel
theorem dX7_end_17 : decode cX7_end 17 = .ok (.laload, 1) := by decide +kernel
theorem dX7_end_18 : decode cX7_end 18 = .ok (.iload_n 2, 1) := by decide +kernel
theorem dX7_end_19 : decode cX7_end 19 = .ok (.invokestatic 123, 3) := by decide +kernel
theorem dX7_end_22 : decode cX7_end 22 = .ok (.goto 4, 3) := by decide +kernel
theorem dX7_end_25 : decode cX7_end 25 = .ok (.iconst (-1), 1) := by decide +kernel
theorem dX7_end_26 : decode cX7_end 26 = .ok (.ireturn, 1) := by decide +kernel
set_option maxRecDepth 20000 in
theorem ggX7_isSheet_X7_in : GoodIn wsX7_isSheet wsX7_in := goodIn_r _ [4] rfl rfl
set_option maxRecDepth 20000 in
theorem gX7_isSheet_X7_in : GoodIn wsX7_isSheet (va_wsS RX7 85 yX7_in wsX7_in) := goodIn_app (goodIn_r _ [1, 2, 3] rfl rfl) ggX7_isSheet_X7_in
theorem dX7_isSheet_0 : decode cX7_isSheet 0 = .ok (.iload_n 0, 1) := by decide +kernel
theorem dX7_isSheet_1 : decode cX7_isSheet 1 = .ok (.iconst 0, 1) := by decide +kernel
theorem dX7_isSheet_2 : decode cX7_isSheet 2 = .ok (.iconst 3, 1) := by decide +kernel
theorem dX7_isSheet_3 : decode cX7_isSheet 3 = .ok (.invokestatic 85, 3) := by decide +kernel
theorem dX7_isSheet_6 : decode cX7_isSheet 6 = .ok (.ireturn, 1) := by decide +kernel
set_option maxRecDepth 20000 in
theorem ggX7_need_X7_isSheet : GoodIn wsX7_need wsX7_isSheet := goodIn_r _ [5, 6, 7, 4, 8] rfl rfl
set_option maxRecDepth 20000 in
theorem gX7_need_X7_isSheet : GoodIn wsX7_need (va_wsS RX7 127 yX7_isSheet wsX7_isSheet) := goodIn_app (goodIn_r _ [2, 3, 4] rfl rfl) ggX7_need_X7_isSheet
theorem dX7_need_0 : decode cX7_need 0 = .ok (.iload_n 1, 1) := by decide +kernel
theorem dX7_need_1 : decode cX7_need 1 = .ok (.invokestatic 127, 3) := by decide +kernel
theorem dX7_need_4 : decode cX7_need 4 = .ok (.ifCond .ne 7, 3) := by decide +kernel
theorem dX7_need_7 : decode cX7_need 7 = .ok (.iconst (-1), 1) := by decide +kernel
theorem dX7_need_8 : decode cX7_need 8 = .ok (.goto 18, 3) := by decide +kernel
theorem dX7_need_11 : decode cX7_need 11 = .ok (.aload_n 0, 1) := by decide +kernel
theorem dX7_need_12 : decode cX7_need 12 = .ok (.getfield 26, 3) := by decide +kernel
theorem dX7_need_15 : decode cX7_need 15 = .ok (.iload_n 1, 1) := by decide +kernel
theorem dX7_need_16 : decode cX7_need 16 = .ok (.iaload, 1) := by decide +kernel
theorem dX7_need_17 : decode cX7_need 17 = .ok (.ifCond .ge 8, 3) := by decide +kernel
theorem dX7_need_20 : decode cX7_need 20 = .ok (.bipush (-11), 2) := by decide +kernel
theorem dX7_need_22 : decode cX7_need 22 = .ok (.goto 4, 3) := by decide +kernel
theorem dX7_need_25 : decode cX7_need 25 = .ok (.iconst 0, 1) := by decide +kernel
theorem dX7_need_26 : decode cX7_need 26 = .ok (.ireturn, 1) := by decide +kernel
set_option maxRecDepth 20000 in
theorem ggX7_sheet_X7_isSheet : GoodIn wsX7_sheet wsX7_isSheet := goodIn_r _ [6, 7, 8, 5, 9] rfl rfl
set_option maxRecDepth 20000 in
theorem gX7_sheet_X7_isSheet : GoodIn wsX7_sheet (va_wsS RX7 127 yX7_isSheet wsX7_isSheet) := goodIn_app (goodIn_r _ [3, 4, 5] rfl rfl) ggX7_sheet_X7_isSheet
set_option maxRecDepth 20000 in
theorem ggX7_sheet_X7_in : GoodIn wsX7_sheet wsX7_in := goodIn_r _ [9] rfl rfl
set_option maxRecDepth 20000 in
theorem gX7_sheet_X7_in : GoodIn wsX7_sheet (va_wsS RX7 85 yX7_in wsX7_in) := goodIn_app (goodIn_r _ [7, 8, 5] rfl rfl) ggX7_sheet_X7_in
theorem dX7_sheet_0 : decode cX7_sheet 0 = .ok (.iload_n 1, 1) := by decide +kernel
theorem dX7_sheet_1 : decode cX7_sheet 1 = .ok (.invokestatic 127, 3) := by decide +kernel
theorem dX7_sheet_4 : decode cX7_sheet 4 = .ok (.ifCond .eq 13, 3) := by decide +kernel
theorem dX7_sheet_7 : decode cX7_sheet 7 = .ok (.iload_n 2, 1) := by decide +kernel
theorem dX7_sheet_8 : decode cX7_sheet 8 = .ok (.iconst 0, 1) := by decide +kernel
theorem dX7_sheet_9 : decode cX7_sheet 9 = .ok (.bipush 64, 2) := by decide +kernel
theorem dX7_sheet_11 : decode cX7_sheet 11 = .ok (.invokestatic 85, 3) := by decide +kernel
theorem dX7_sheet_14 : decode cX7_sheet 14 = .ok (.ifCond .ne 5, 3) := by decide +kernel
theorem dX7_sheet_17 : decode cX7_sheet 17 = .ok (.iconst (-1), 1) := by decide +kernel
theorem dX7_sheet_18 : decode cX7_sheet 18 = .ok (.ireturn, 1) := by decide +kernel
theorem dX7_sheet_19 : decode cX7_sheet 19 = .ok (.aload_n 0, 1) := by decide +kernel
theorem dX7_sheet_20 : decode cX7_sheet 20 = .ok (.getfield 26, 3) := by decide +kernel
theorem dX7_sheet_23 : decode cX7_sheet 23 = .ok (.iload_n 1, 1) := by decide +kernel
theorem dX7_sheet_24 : decode cX7_sheet 24 = .ok (.iload_n 2, 1) := by decide +kernel
theorem dX7_sheet_25 : decode cX7_sheet 25 = .ok (.iastore, 1) := by decide +kernel
theorem dX7_sheet_26 : decode cX7_sheet 26 = .ok (.iconst 0, 1) := by decide +kernel
theorem dX7_sheet_27 : decode cX7_sheet 27 = .ok (.istore_n 3, 1) := by decide +kernel
theorem dX7_sheet_28 : decode cX7_sheet 28 = .ok (.iload_n 3, 1) := by decide +kernel
theorem dX7_sheet_29 : decode cX7_sheet 29 = .ok (.iload_n 2, 1) := by decide +kernel
theorem dX7_sheet_30 : decode cX7_sheet 30 = .ok (.if_icmp .ge 22, 3) := by decide +kernel
theorem dX7_sheet_33 : decode cX7_sheet 33 = .ok (.aload_n 0, 1) := by decide +kernel
theorem dX7_sheet_34 : decode cX7_sheet 34 = .ok (.getfield 29, 3) := by decide +kernel
theorem dX7_sheet_37 : decode cX7_sheet 37 = .ok (.bipush 64, 2) := by decide +kernel
theorem dX7_sheet_39 : decode cX7_sheet 39 = .ok (.iload_n 1, 1) := by decide +kernel
theorem dX7_sheet_40 : decode cX7_sheet 40 = .ok (.imul, 1) := by decide +kernel
theorem dX7_sheet_41 : decode cX7_sheet 41 = .ok (.iload_n 3, 1) := by decide +kernel
theorem dX7_sheet_42 : decode cX7_sheet 42 = .ok (.iadd, 1) := by decide +kernel
theorem dX7_sheet_43 : decode cX7_sheet 43 = .ok (.bipush 97, 2) := by decide +kernel
theorem dX7_sheet_45 : decode cX7_sheet 45 = .ok (.iastore, 1) := by decide +kernel
theorem dX7_sheet_46 : decode cX7_sheet 46 = .ok (.iinc 3 1, 3) := by decide +kernel
theorem dX7_sheet_49 : decode cX7_sheet 49 = .ok (.goto (-21), 3) := by decide +kernel
theorem dX7_sheet_52 : decode cX7_sheet 52 = .ok (.iload_n 2, 1) := by decide +kernel
theorem dX7_sheet_53 : decode cX7_sheet 53 = .ok (.ireturn, 1) := by decide +kernel
set_option maxRecDepth 20000 in
theorem ggX7_set_X7_in : GoodIn wsX7_set wsX7_in := goodIn_r _ [7] rfl rfl
set_option maxRecDepth 20000 in
theorem gX7_set_X7_in : GoodIn wsX7_set (va_wsS RX7 85 yX7_in wsX7_in) := goodIn_app (goodIn_r _ [4, 5, 6] rfl rfl) ggX7_set_X7_in
set_option maxRecDepth 20000 in
theorem ggX7_set_X7_need : GoodIn wsX7_set wsX7_need := goodIn_r _ [11, 2, 12, 13, 6, 14, 4, 5, 7, 15, 16, 17, 18, 19, 20, 21, 22, 23, 24, 25, 26, 27, 28] rfl rfl
set_option maxRecDepth 20000 in
theorem gX7_set_X7_need : GoodIn wsX7_set (wsV RX7 131 RX7 yX7_need wsX7_need) := goodIn_app (goodIn_r _ [8, 9, 10, 6] rfl rfl) ggX7_set_X7_need
theorem dX7_set_0 : decode cX7_set 0 = .ok (.iload_n 3, 1) := by decide +kernel
theorem dX7_set_1 : decode cX7_set 1 = .ok (.iconst 0, 1) := by decide +kernel
theorem dX7_set_2 : decode cX7_set 2 = .ok (.ldc 130, 2) := by decide +kernel
theorem dX7_set_4 : decode cX7_set 4 = .ok (.invokestatic 85, 3) := by decide +kernel
theorem dX7_set_7 : decode cX7_set 7 = .ok (.ifCond .eq 11, 3) := by decide +kernel
theorem dX7_set_10 : decode cX7_set 10 = .ok (.aload_n 0, 1) := by decide +kernel
theorem dX7_set_11 : decode cX7_set 11 = .ok (.iload_n 1, 1) := by decide +kernel
theorem dX7_set_12 : decode cX7_set 12 = .ok (.invokevirtual 131, 3) := by decide +kernel
theorem dX7_set_15 : decode cX7_set 15 = .ok (.goto 4, 3) := by decide +kernel
theorem dX7_set_18 : decode cX7_set 18 = .ok (.iconst (-1), 1) := by decide +kernel
theorem dX7_set_19 : decode cX7_set 19 = .ok (.istore 4, 2) := by decide +kernel
theorem dX7_set_21 : decode cX7_set 21 = .ok (.iload 4, 2) := by decide +kernel
theorem dX7_set_23 : decode cX7_set 23 = .ok (.ifCond .ge 6, 3) := by decide +kernel
theorem dX7_set_26 : decode cX7_set 26 = .ok (.iload 4, 2) := by decide +kernel
theorem dX7_set_28 : decode cX7_set 28 = .ok (.ireturn, 1) := by decide +kernel
theorem dX7_set_29 : decode cX7_set 29 = .ok (.iload_n 2, 1) := by decide +kernel
theorem dX7_set_30 : decode cX7_set 30 = .ok (.iconst 0, 1) := by decide +kernel
theorem dX7_set_31 : decode cX7_set 31 = .ok (.aload_n 0, 1) := by decide +kernel
theorem dX7_set_32 : decode cX7_set 32 = .ok (.getfield 26, 3) := by decide +kernel
theorem dX7_set_35 : decode cX7_set 35 = .ok (.iload_n 1, 1) := by decide +kernel
theorem dX7_set_36 : decode cX7_set 36 = .ok (.iaload, 1) := by decide +kernel
theorem dX7_set_37 : decode cX7_set 37 = .ok (.iconst 1, 1) := by decide +kernel
theorem dX7_set_38 : decode cX7_set 38 = .ok (.isub, 1) := by decide +kernel
theorem dX7_set_39 : decode cX7_set 39 = .ok (.invokestatic 85, 3) := by decide +kernel
theorem dX7_set_42 : decode cX7_set 42 = .ok (.ifCond .ne 6, 3) := by decide +kernel
theorem dX7_set_45 : decode cX7_set 45 = .ok (.bipush (-12), 2) := by decide +kernel
theorem dX7_set_47 : decode cX7_set 47 = .ok (.ireturn, 1) := by decide +kernel
theorem dX7_set_48 : decode cX7_set 48 = .ok (.aload_n 0, 1) := by decide +kernel
theorem dX7_set_49 : decode cX7_set 49 = .ok (.getfield 29, 3) := by decide +kernel
theorem dX7_set_52 : decode cX7_set 52 = .ok (.bipush 64, 2) := by decide +kernel
theorem dX7_set_54 : decode cX7_set 54 = .ok (.iload_n 1, 1) := by decide +kernel
theorem dX7_set_55 : decode cX7_set 55 = .ok (.imul, 1) := by decide +kernel
theorem dX7_set_56 : decode cX7_set 56 = .ok (.iload_n 2, 1) := by decide +kernel
theorem dX7_set_57 : decode cX7_set 57 = .ok (.iadd, 1) := by decide +kernel
theorem dX7_set_58 : decode cX7_set 58 = .ok (.iaload, 1) := by decide +kernel
theorem dX7_set_59 : decode cX7_set 59 = .ok (.istore 5, 2) := by decide +kernel
theorem dX7_set_61 : decode cX7_set 61 = .ok (.aload_n 0, 1) := by decide +kernel
theorem dX7_set_62 : decode cX7_set 62 = .ok (.getfield 29, 3) := by decide +kernel
theorem dX7_set_65 : decode cX7_set 65 = .ok (.bipush 64, 2) := by decide +kernel
theorem dX7_set_67 : decode cX7_set 67 = .ok (.iload_n 1, 1) := by decide +kernel
theorem dX7_set_68 : decode cX7_set 68 = .ok (.imul, 1) := by decide +kernel
theorem dX7_set_69 : decode cX7_set 69 = .ok (.iload_n 2, 1) := by decide +kernel
theorem dX7_set_70 : decode cX7_set 70 = .ok (.iadd, 1) := by decide +kernel
theorem dX7_set_71 : decode cX7_set 71 = .ok (.iload_n 3, 1) := by decide +kernel
theorem dX7_set_72 : decode cX7_set 72 = .ok (.iastore, 1) := by decide +kernel
theorem dX7_set_73 : decode cX7_set 73 = .ok (.iload 5, 2) := by decide +kernel
theorem dX7_set_75 : decode cX7_set 75 = .ok (.ireturn, 1) := by decide +kernel
set_option maxRecDepth 20000 in
theorem ggX7_get_X7_need : GoodIn wsX7_get wsX7_need := goodIn_r _ [7, 1, 8, 9, 6, 10, 11, 12, 13, 14, 15, 16, 17, 18, 19, 20, 21, 22, 23, 24, 25, 26, 27] rfl rfl
set_option maxRecDepth 20000 in
theorem gX7_get_X7_need : GoodIn wsX7_get (wsV RX7 131 RX7 yX7_need wsX7_need) := goodIn_app (goodIn_r _ [3, 4, 5, 6] rfl rfl) ggX7_get_X7_need
set_option maxRecDepth 20000 in
theorem ggX7_get_X7_in : GoodIn wsX7_get wsX7_in := goodIn_r _ [13] rfl rfl
set_option maxRecDepth 20000 in
theorem gX7_get_X7_in : GoodIn wsX7_get (va_wsS RX7 85 yX7_in wsX7_in) := goodIn_app (goodIn_r _ [11, 12, 6] rfl rfl) ggX7_get_X7_in
theorem dX7_get_0 : decode cX7_get 0 = .ok (.aload_n 0, 1) := by decide +kernel
theorem dX7_get_1 : decode cX7_get 1 = .ok (.iload_n 1, 1) := by decide +kernel
theorem dX7_get_2 : decode cX7_get 2 = .ok (.invokevirtual 131, 3) := by decide +kernel
theorem dX7_get_5 : decode cX7_get 5 = .ok (.istore_n 3, 1) := by decide +kernel
theorem dX7_get_6 : decode cX7_get 6 = .ok (.iload_n 3, 1) := by decide +kernel
theorem dX7_get_7 : decode cX7_get 7 = .ok (.ifCond .ge 7, 3) := by decide +kernel
theorem dX7_get_10 : decode cX7_get 10 = .ok (.iload_n 3, 1) := by decide +kernel
theorem dX7_get_11 : decode cX7_get 11 = .ok (.goto 35, 3) := by decide +kernel
theorem dX7_get_14 : decode cX7_get 14 = .ok (.iload_n 2, 1) := by decide +kernel
theorem dX7_get_15 : decode cX7_get 15 = .ok (.iconst 0, 1) := by decide +kernel
theorem dX7_get_16 : decode cX7_get 16 = .ok (.aload_n 0, 1) := by decide +kernel
theorem dX7_get_17 : decode cX7_get 17 = .ok (.getfield 26, 3) := by decide +kernel
theorem dX7_get_20 : decode cX7_get 20 = .ok (.iload_n 1, 1) := by decide +kernel
theorem dX7_get_21 : decode cX7_get 21 = .ok (.iaload, 1) := by decide +kernel
theorem dX7_get_22 : decode cX7_get 22 = .ok (.iconst 1, 1) := by decide +kernel
theorem dX7_get_23 : decode cX7_get 23 = .ok (.isub, 1) := by decide +kernel
theorem dX7_get_24 : decode cX7_get 24 = .ok (.invokestatic 85, 3) := by decide +kernel
theorem dX7_get_27 : decode cX7_get 27 = .ok (.ifCond .eq 17, 3) := by decide +kernel
theorem dX7_get_30 : decode cX7_get 30 = .ok (.aload_n 0, 1) := by decide +kernel
theorem dX7_get_31 : decode cX7_get 31 = .ok (.getfield 29, 3) := by decide +kernel
theorem dX7_get_34 : decode cX7_get 34 = .ok (.bipush 64, 2) := by decide +kernel
theorem dX7_get_36 : decode cX7_get 36 = .ok (.iload_n 1, 1) := by decide +kernel
theorem dX7_get_37 : decode cX7_get 37 = .ok (.imul, 1) := by decide +kernel
theorem dX7_get_38 : decode cX7_get 38 = .ok (.iload_n 2, 1) := by decide +kernel
theorem dX7_get_39 : decode cX7_get 39 = .ok (.iadd, 1) := by decide +kernel
theorem dX7_get_40 : decode cX7_get 40 = .ok (.iaload, 1) := by decide +kernel
theorem dX7_get_41 : decode cX7_get 41 = .ok (.goto 5, 3) := by decide +kernel
theorem dX7_get_44 : decode cX7_get 44 = .ok (.bipush (-12), 2) := by decide +kernel
theorem dX7_get_46 : decode cX7_get 46 = .ok (.ireturn, 1) := by decide +kernel
set_option maxRecDepth 20000 in
theorem ggX7_size_X7_need : GoodIn wsX7_size wsX7_need := goodIn_r _ [6, 1, 7, 8, 5, 9, 10, 11, 12, 13, 14, 15, 16, 17, 18, 19, 20, 21, 22, 23, 24, 25, 26] rfl rfl
set_option maxRecDepth 20000 in
theorem gX7_size_X7_need : GoodIn wsX7_size (wsV RX7 131 RX7 yX7_need wsX7_need) := goodIn_app (goodIn_r _ [2, 3, 4, 5] rfl rfl) ggX7_size_X7_need
theorem dX7_size_0 : decode cX7_size 0 = .ok (.aload_n 0, 1) := by decide +kernel
theorem dX7_size_1 : decode cX7_size 1 = .ok (.iload_n 1, 1) := by decide +kernel
theorem dX7_size_2 : decode cX7_size 2 = .ok (.invokevirtual 131, 3) := by decide +kernel
theorem dX7_size_5 : decode cX7_size 5 = .ok (.istore_n 2, 1) := by decide +kernel
theorem dX7_size_6 : decode cX7_size 6 = .ok (.iload_n 2, 1) := by decide +kernel
theorem dX7_size_7 : decode cX7_size 7 = .ok (.ifCond .ge 7, 3) := by decide +kernel
theorem dX7_size_10 : decode cX7_size 10 = .ok (.iload_n 2, 1) := by decide +kernel
theorem dX7_size_11 : decode cX7_size 11 = .ok (.goto 9, 3) := by decide +kernel
theorem dX7_size_14 : decode cX7_size 14 = .ok (.aload_n 0, 1) := by decide +kernel
theorem dX7_size_15 : decode cX7_size 15 = .ok (.getfield 26, 3) := by decide +kernel
theorem dX7_size_18 : decode cX7_size 18 = .ok (.iload_n 1, 1) := by decide +kernel
theorem dX7_size_19 : decode cX7_size 19 = .ok (.iaload, 1) := by decide +kernel
theorem dX7_size_20 : decode cX7_size 20 = .ok (.ireturn, 1) := by decide +kernel
set_option maxRecDepth 20000 in
theorem ggX7_drop_X7_need : GoodIn wsX7_drop wsX7_need := goodIn_r _ [6, 1, 7, 8, 5, 9, 10, 11, 12, 13, 14, 15, 16, 17, 18, 19, 20, 21, 22, 23, 24, 25, 26] rfl rfl
set_option maxRecDepth 20000 in
theorem gX7_drop_X7_need : GoodIn wsX7_drop (wsV RX7 131 RX7 yX7_need wsX7_need) := goodIn_app (goodIn_r _ [2, 3, 4, 5] rfl rfl) ggX7_drop_X7_need
theorem dX7_drop_0 : decode cX7_drop 0 = .ok (.aload_n 0, 1) := by decide +kernel
theorem dX7_drop_1 : decode cX7_drop 1 = .ok (.iload_n 1, 1) := by decide +kernel
theorem dX7_drop_2 : decode cX7_drop 2 = .ok (.invokevirtual 131, 3) := by decide +kernel
theorem dX7_drop_5 : decode cX7_drop 5 = .ok (.istore_n 2, 1) := by decide +kernel
theorem dX7_drop_6 : decode cX7_drop 6 = .ok (.iload_n 2, 1) := by decide +kernel
theorem dX7_drop_7 : decode cX7_drop 7 = .ok (.ifCond .ge 5, 3) := by decide +kernel
theorem dX7_drop_10 : decode cX7_drop 10 = .ok (.iload_n 2, 1) := by decide +kernel
theorem dX7_drop_11 : decode cX7_drop 11 = .ok (.ireturn, 1) := by decide +kernel
theorem dX7_drop_12 : decode cX7_drop 12 = .ok (.aload_n 0, 1) := by decide +kernel
theorem dX7_drop_13 : decode cX7_drop 13 = .ok (.getfield 26, 3) := by decide +kernel
theorem dX7_drop_16 : decode cX7_drop 16 = .ok (.iload_n 1, 1) := by decide +kernel
theorem dX7_drop_17 : decode cX7_drop 17 = .ok (.iaload, 1) := by decide +kernel
theorem dX7_drop_18 : decode cX7_drop 18 = .ok (.istore_n 3, 1) := by decide +kernel
theorem dX7_drop_19 : decode cX7_drop 19 = .ok (.aload_n 0, 1) := by decide +kernel
theorem dX7_drop_20 : decode cX7_drop 20 = .ok (.getfield 26, 3) := by decide +kernel
theorem dX7_drop_23 : decode cX7_drop 23 = .ok (.iload_n 1, 1) := by decide +kernel
theorem dX7_drop_24 : decode cX7_drop 24 = .ok (.iconst (-1), 1) := by decide +kernel
theorem dX7_drop_25 : decode cX7_drop 25 = .ok (.iastore, 1) := by decide +kernel
theorem dX7_drop_26 : decode cX7_drop 26 = .ok (.iload_n 3, 1) := by decide +kernel
theorem dX7_drop_27 : decode cX7_drop 27 = .ok (.ireturn, 1) := by decide +kernel
set_option maxRecDepth 20000 in
theorem ggX7_growBy_X7_need : GoodIn wsX7_growBy wsX7_need := goodIn_r _ [8, 1, 9, 10, 7, 11, 12, 13, 14, 56, 57, 58, 59, 60, 61, 62, 63, 64, 65, 66, 67, 68, 69] rfl rfl
set_option maxRecDepth 20000 in
theorem gX7_growBy_X7_need : GoodIn wsX7_growBy (wsV RX7 131 RX7 yX7_need wsX7_need) := goodIn_app (goodIn_r _ [4, 5, 6, 7] rfl rfl) ggX7_growBy_X7_need
set_option maxRecDepth 20000 in
theorem ggX7_growBy_X7_isLetter : GoodIn wsX7_growBy wsX7_isLetter := goodIn_r _ [18, 19, 12, 13, 7, 14, 56, 57, 58, 59, 60, 61, 62, 63, 64, 65, 66, 67, 68, 69] rfl rfl
set_option maxRecDepth 20000 in
theorem gX7_growBy_X7_isLetter : GoodIn wsX7_growBy (wsV RX7 89 RX7 yX7_isLetter wsX7_isLetter) := goodIn_app (goodIn_r _ [15, 16, 17, 7] rfl rfl) ggX7_growBy_X7_isLetter
set_option maxRecDepth 20000 in
theorem ggX7_growBy_X7_grows : GoodIn wsX7_growBy wsX7_grows := goodIn_r _ [23, 24, 3, 25, 26, 27, 28, 29, 30, 7, 31, 32, 33, 34, 35, 36, 37, 38, 39, 40, 41, 42, 43, 44, 45, 46, 47, 48, 49, 50, 51, 52, 53, 54, 55, 56, 57, 58, 59, 60, 61, 62, 63, 64, 65, 66, 67, 68, 69] rfl rfl
set_option maxRecDepth 20000 in
theorem gX7_growBy_X7_grows : GoodIn wsX7_growBy (wsV RX7 93 RX7 yX7_grows wsX7_grows) := goodIn_app (goodIn_r _ [20, 21, 22, 7] rfl rfl) ggX7_growBy_X7_grows
theorem dX7_growBy_0 : decode cX7_growBy 0 = .ok (.aload_n 0, 1) := by decide +kernel
theorem dX7_growBy_1 : decode cX7_growBy 1 = .ok (.iload_n 1, 1) := by decide +kernel
theorem dX7_growBy_2 : decode cX7_growBy 2 = .ok (.invokevirtual 131, 3) := by decide +kernel
theorem dX7_growBy_5 : decode cX7_growBy 5 = .ok (.istore_n 2, 1) := by decide +kernel
theorem dX7_growBy_6 : decode cX7_growBy 6 = .ok (.iload_n 2, 1) := by decide +kernel
theorem dX7_growBy_7 : decode cX7_growBy 7 = .ok (.ifCond .ge 5, 3) := by decide +kernel
theorem dX7_growBy_10 : decode cX7_growBy 10 = .ok (.iload_n 2, 1) := by decide +kernel
theorem dX7_growBy_11 : decode cX7_growBy 11 = .ok (.ireturn, 1) := by decide +kernel
theorem dX7_growBy_12 : decode cX7_growBy 12 = .ok (.iconst 1, 1) := by decide +kernel
theorem dX7_growBy_13 : decode cX7_growBy 13 = .ok (.istore_n 3, 1) := by decide +kernel
theorem dX7_growBy_14 : decode cX7_growBy 14 = .ok (.iconst 0, 1) := by decide +kernel
theorem dX7_growBy_15 : decode cX7_growBy 15 = .ok (.istore 4, 2) := by decide +kernel
theorem dX7_growBy_17 : decode cX7_growBy 17 = .ok (.iload 4, 2) := by decide +kernel
theorem dX7_growBy_19 : decode cX7_growBy 19 = .ok (.aload_n 0, 1) := by decide +kernel
theorem dX7_growBy_20 : decode cX7_growBy 20 = .ok (.getfield 26, 3) := by decide +kernel
theorem dX7_growBy_23 : decode cX7_growBy 23 = .ok (.iload_n 1, 1) := by decide +kernel
theorem dX7_growBy_24 : decode cX7_growBy 24 = .ok (.iaload, 1) := by decide +kernel
theorem dX7_growBy_25 : decode cX7_growBy 25 = .ok (.if_icmp .ge 41, 3) := by decide +kernel
theorem dX7_growBy_28 : decode cX7_growBy 28 = .ok (.iload_n 3, 1) := by decide +kernel
theorem dX7_growBy_29 : decode cX7_growBy 29 = .ok (.ifCond .eq 29, 3) := by decide +kernel
theorem dX7_growBy_32 : decode cX7_growBy 32 = .ok (.aload_n 0, 1) := by decide +kernel
theorem dX7_growBy_33 : decode cX7_growBy 33 = .ok (.aload_n 0, 1) := by decide +kernel
theorem dX7_growBy_34 : decode cX7_growBy 34 = .ok (.getfield 29, 3) := by decide +kernel
theorem dX7_growBy_37 : decode cX7_growBy 37 = .ok (.bipush 64, 2) := by decide +kernel
theorem dX7_growBy_39 : decode cX7_growBy 39 = .ok (.iload_n 1, 1) := by decide +kernel
theorem dX7_growBy_40 : decode cX7_growBy 40 = .ok (.imul, 1) := by decide +kernel
theorem dX7_growBy_41 : decode cX7_growBy 41 = .ok (.iload 4, 2) := by decide +kernel
theorem dX7_growBy_43 : decode cX7_growBy 43 = .ok (.iadd, 1) := by decide +kernel
theorem dX7_growBy_44 : decode cX7_growBy 44 = .ok (.iaload, 1) := by decide +kernel
theorem dX7_growBy_45 : decode cX7_growBy 45 = .ok (.bipush 97, 2) := by decide +kernel
theorem dX7_growBy_47 : decode cX7_growBy 47 = .ok (.isub, 1) := by decide +kernel
theorem dX7_growBy_48 : decode cX7_growBy 48 = .ok (.invokevirtual 89, 3) := by decide +kernel
theorem dX7_growBy_51 : decode cX7_growBy 51 = .ok (.ifCond .eq 7, 3) := by decide +kernel
theorem dX7_growBy_54 : decode cX7_growBy 54 = .ok (.iconst 1, 1) := by decide +kernel
theorem dX7_growBy_55 : decode cX7_growBy 55 = .ok (.goto 4, 3) := by decide +kernel
theorem dX7_growBy_58 : decode cX7_growBy 58 = .ok (.iconst 0, 1) := by decide +kernel
theorem dX7_growBy_59 : decode cX7_growBy 59 = .ok (.istore_n 3, 1) := by decide +kernel
theorem dX7_growBy_60 : decode cX7_growBy 60 = .ok (.iinc 4 1, 3) := by decide +kernel
theorem dX7_growBy_63 : decode cX7_growBy 63 = .ok (.goto (-46), 3) := by decide +kernel
theorem dX7_growBy_66 : decode cX7_growBy 66 = .ok (.iload_n 3, 1) := by decide +kernel
theorem dX7_growBy_67 : decode cX7_growBy 67 = .ok (.ifCond .ne 6, 3) := by decide +kernel
theorem dX7_growBy_70 : decode cX7_growBy 70 = .ok (.bipush (-2), 2) := by decide +kernel
theorem dX7_growBy_72 : decode cX7_growBy 72 = .ok (.ireturn, 1) := by decide +kernel
theorem dX7_growBy_73 : decode cX7_growBy 73 = .ok (.aload_n 0, 1) := by decide +kernel
theorem dX7_growBy_74 : decode cX7_growBy 74 = .ok (.getfield 56, 3) := by decide +kernel
theorem dX7_growBy_77 : decode cX7_growBy 77 = .ok (.aload_n 0, 1) := by decide +kernel
theorem dX7_growBy_78 : decode cX7_growBy 78 = .ok (.getfield 26, 3) := by decide +kernel
theorem dX7_growBy_81 : decode cX7_growBy 81 = .ok (.iload_n 1, 1) := by decide +kernel
theorem dX7_growBy_82 : decode cX7_growBy 82 = .ok (.iaload, 1) := by decide +kernel
theorem dX7_growBy_83 : decode cX7_growBy 83 = .ok (.iadd, 1) := by decide +kernel
theorem dX7_growBy_84 : decode cX7_growBy 84 = .ok (.bipush 60, 2) := by decide +kernel
theorem dX7_growBy_86 : decode cX7_growBy 86 = .ok (.if_icmp .le 6, 3) := by decide +kernel
theorem dX7_growBy_89 : decode cX7_growBy 89 = .ok (.bipush (-3), 2) := by decide +kernel
theorem dX7_growBy_91 : decode cX7_growBy 91 = .ok (.ireturn, 1) := by decide +kernel
theorem dX7_growBy_92 : decode cX7_growBy 92 = .ok (.iconst 0, 1) := by decide +kernel
theorem dX7_growBy_93 : decode cX7_growBy 93 = .ok (.istore 4, 2) := by decide +kernel
theorem dX7_growBy_95 : decode cX7_growBy 95 = .ok (.iload 4, 2) := by decide +kernel
theorem dX7_growBy_97 : decode cX7_growBy 97 = .ok (.aload_n 0, 1) := by decide +kernel
theorem dX7_growBy_98 : decode cX7_growBy 98 = .ok (.getfield 26, 3) := by decide +kernel
theorem dX7_growBy_101 : decode cX7_growBy 101 = .ok (.iload_n 1, 1) := by decide +kernel
theorem dX7_growBy_102 : decode cX7_growBy 102 = .ok (.iaload, 1) := by decide +kernel
theorem dX7_growBy_103 : decode cX7_growBy 103 = .ok (.if_icmp .ge 28, 3) := by decide +kernel
theorem dX7_growBy_106 : decode cX7_growBy 106 = .ok (.aload_n 0, 1) := by decide +kernel
theorem dX7_growBy_107 : decode cX7_growBy 107 = .ok (.aload_n 0, 1) := by decide +kernel
theorem dX7_growBy_108 : decode cX7_growBy 108 = .ok (.getfield 29, 3) := by decide +kernel
theorem dX7_growBy_111 : decode cX7_growBy 111 = .ok (.bipush 64, 2) := by decide +kernel
theorem dX7_growBy_113 : decode cX7_growBy 113 = .ok (.iload_n 1, 1) := by decide +kernel
theorem dX7_growBy_114 : decode cX7_growBy 114 = .ok (.imul, 1) := by decide +kernel
theorem dX7_growBy_115 : decode cX7_growBy 115 = .ok (.iload 4, 2) := by decide +kernel
theorem dX7_growBy_117 : decode cX7_growBy 117 = .ok (.iadd, 1) := by decide +kernel
theorem dX7_growBy_118 : decode cX7_growBy 118 = .ok (.iaload, 1) := by decide +kernel
theorem dX7_growBy_119 : decode cX7_growBy 119 = .ok (.bipush 97, 2) := by decide +kernel
theorem dX7_growBy_121 : decode cX7_growBy 121 = .ok (.isub, 1) := by decide +kernel
theorem dX7_growBy_122 : decode cX7_growBy 122 = .ok (.invokevirtual 93, 3) := by decide +kernel
theorem dX7_growBy_125 : decode cX7_growBy 125 = .ok (.iinc 4 1, 3) := by decide +kernel
theorem dX7_growBy_128 : decode cX7_growBy 128 = .ok (.goto (-33), 3) := by decide +kernel
theorem dX7_growBy_131 : decode cX7_growBy 131 = .ok (.aload_n 0, 1) := by decide +kernel
theorem dX7_growBy_132 : decode cX7_growBy 132 = .ok (.getfield 56, 3) := by decide +kernel
theorem dX7_growBy_135 : decode cX7_growBy 135 = .ok (.ireturn, 1) := by decide +kernel
theorem dX7_toSheet_0 : decode cX7_toSheet 0 = .ok (.aload_n 0, 1) := by decide +kernel
theorem dX7_toSheet_1 : decode cX7_toSheet 1 = .ok (.getfield 26, 3) := by decide +kernel
theorem dX7_toSheet_4 : decode cX7_toSheet 4 = .ok (.iload_n 3, 1) := by decide +kernel
theorem dX7_toSheet_5 : decode cX7_toSheet 5 = .ok (.iload_n 2, 1) := by decide +kernel
theorem dX7_toSheet_6 : decode cX7_toSheet 6 = .ok (.iastore, 1) := by decide +kernel
theorem dX7_toSheet_7 : decode cX7_toSheet 7 = .ok (.iconst 0, 1) := by decide +kernel
theorem dX7_toSheet_8 : decode cX7_toSheet 8 = .ok (.istore 4, 2) := by decide +kernel
theorem dX7_toSheet_10 : decode cX7_toSheet 10 = .ok (.iload 4, 2) := by decide +kernel
theorem dX7_toSheet_12 : decode cX7_toSheet 12 = .ok (.iload_n 2, 1) := by decide +kernel
theorem dX7_toSheet_13 : decode cX7_toSheet 13 = .ok (.if_icmp .ge 35, 3) := by decide +kernel
theorem dX7_toSheet_16 : decode cX7_toSheet 16 = .ok (.aload_n 0, 1) := by decide +kernel
theorem dX7_toSheet_17 : decode cX7_toSheet 17 = .ok (.getfield 29, 3) := by decide +kernel
theorem dX7_toSheet_20 : decode cX7_toSheet 20 = .ok (.bipush 64, 2) := by decide +kernel
theorem dX7_toSheet_22 : decode cX7_toSheet 22 = .ok (.iload_n 3, 1) := by decide +kernel
theorem dX7_toSheet_23 : decode cX7_toSheet 23 = .ok (.imul, 1) := by decide +kernel
theorem dX7_toSheet_24 : decode cX7_toSheet 24 = .ok (.iload 4, 2) := by decide +kernel
theorem dX7_toSheet_26 : decode cX7_toSheet 26 = .ok (.iadd, 1) := by decide +kernel
theorem dX7_toSheet_27 : decode cX7_toSheet 27 = .ok (.bipush 97, 2) := by decide +kernel
theorem dX7_toSheet_29 : decode cX7_toSheet 29 = .ok (.aload_n 0, 1) := by decide +kernel
theorem dX7_toSheet_30 : decode cX7_toSheet 30 = .ok (.getfield 7, 3) := by decide +kernel
theorem dX7_toSheet_33 : decode cX7_toSheet 33 = .ok (.iload_n 1, 1) := by decide +kernel
theorem dX7_toSheet_34 : decode cX7_toSheet 34 = .ok (.iload_n 2, 1) := by decide +kernel
theorem dX7_toSheet_35 : decode cX7_toSheet 35 = .ok (.isub, 1) := by decide +kernel
theorem dX7_toSheet_36 : decode cX7_toSheet 36 = .ok (.iload 4, 2) := by decide +kernel
theorem dX7_toSheet_38 : decode cX7_toSheet 38 = .ok (.iadd, 1) := by decide +kernel
theorem dX7_toSheet_39 : decode cX7_toSheet 39 = .ok (.iaload, 1) := by decide +kernel
theorem dX7_toSheet_40 : decode cX7_toSheet 40 = .ok (.iadd, 1) := by decide +kernel
theorem dX7_toSheet_41 : decode cX7_toSheet 41 = .ok (.iastore, 1) := by decide +kernel
theorem dX7_toSheet_42 : decode cX7_toSheet 42 = .ok (.iinc 4 1, 3) := by decide +kernel
theorem dX7_toSheet_45 : decode cX7_toSheet 45 = .ok (.goto (-35), 3) := by decide +kernel
theorem dX7_toSheet_48 : decode cX7_toSheet 48 = .ok (.iload_n 2, 1) := by decide +kernel
theorem dX7_toSheet_49 : decode cX7_toSheet 49 = .ok (.ireturn, 1) := by decide +kernel
theorem dX7_all_0 : decode cX7_all 0 = .ok (.lconst 1, 1) := by decide +kernel
theorem dX7_all_1 : decode cX7_all 1 = .ok (.aload_n 0, 1) := by decide +kernel
theorem dX7_all_2 : decode cX7_all 2 = .ok (.getfield 56, 3) := by decide +kernel
theorem dX7_all_5 : decode cX7_all 5 = .ok (.iconst 1, 1) := by decide +kernel
theorem dX7_all_6 : decode cX7_all 6 = .ok (.iadd, 1) := by decide +kernel
theorem dX7_all_7 : decode cX7_all 7 = .ok (.lshl, 1) := by decide +kernel
theorem dX7_all_8 : decode cX7_all 8 = .ok (.lconst 1, 1) := by decide +kernel
theorem dX7_all_9 : decode cX7_all 9 = .ok (.lsub, 1) := by decide +kernel
theorem dX7_all_10 : decode cX7_all 10 = .ok (.lreturn, 1) := by decide +kernel
set_option maxRecDepth 20000 in
theorem ggX7_endsIn_X7_all : GoodIn wsX7_endsIn wsX7_all := goodIn_r _ [6, 7, 16, 17, 18, 19, 20, 21, 22, 23, 24, 25, 26, 27, 28, 29] rfl rfl
set_option maxRecDepth 20000 in
theorem gX7_endsIn_X7_all : GoodIn wsX7_endsIn (wsV RX7 134 RX7 yX7_all wsX7_all) := goodIn_app (goodIn_r _ [2, 3, 4, 5] rfl rfl) ggX7_endsIn_X7_all
set_option maxRecDepth 20000 in
theorem ggX7_endsIn_X7_behind : GoodIn wsX7_endsIn wsX7_behind := goodIn_r _ [11, 7, 12, 13, 14, 5, 15, 16, 17, 18, 19, 20, 21, 22, 23, 24, 25, 26, 27, 28, 29] rfl rfl
set_option maxRecDepth 20000 in
theorem gX7_endsIn_X7_behind : GoodIn wsX7_endsIn (wsV RX7 116 RX7 yX7_behind wsX7_behind) := goodIn_app (goodIn_r _ [8, 9, 10, 5] rfl rfl) ggX7_endsIn_X7_behind
theorem dX7_endsIn_0 : decode cX7_endsIn 0 = .ok (.aload_n 0, 1) := by decide +kernel
theorem dX7_endsIn_1 : decode cX7_endsIn 1 = .ok (.invokevirtual 134, 3) := by decide +kernel
theorem dX7_endsIn_4 : decode cX7_endsIn 4 = .ok (.lstore 4, 2) := by decide +kernel
theorem dX7_endsIn_6 : decode cX7_endsIn 6 = .ok (.iload_n 2, 1) := by decide +kernel
theorem dX7_endsIn_7 : decode cX7_endsIn 7 = .ok (.istore 6, 2) := by decide +kernel
theorem dX7_endsIn_9 : decode cX7_endsIn 9 = .ok (.iload 6, 2) := by decide +kernel
theorem dX7_endsIn_11 : decode cX7_endsIn 11 = .ok (.iload_n 3, 1) := by decide +kernel
theorem dX7_endsIn_12 : decode cX7_endsIn 12 = .ok (.if_icmp .ge 32, 3) := by decide +kernel
theorem dX7_endsIn_15 : decode cX7_endsIn 15 = .ok (.aload_n 0, 1) := by decide +kernel
theorem dX7_endsIn_16 : decode cX7_endsIn 16 = .ok (.lload 4, 2) := by decide +kernel
theorem dX7_endsIn_18 : decode cX7_endsIn 18 = .ok (.aload_n 0, 1) := by decide +kernel
theorem dX7_endsIn_19 : decode cX7_endsIn 19 = .ok (.getfield 29, 3) := by decide +kernel
theorem dX7_endsIn_22 : decode cX7_endsIn 22 = .ok (.bipush 64, 2) := by decide +kernel
theorem dX7_endsIn_24 : decode cX7_endsIn 24 = .ok (.iload_n 1, 1) := by decide +kernel
theorem dX7_endsIn_25 : decode cX7_endsIn 25 = .ok (.imul, 1) := by decide +kernel
theorem dX7_endsIn_26 : decode cX7_endsIn 26 = .ok (.iload 6, 2) := by decide +kernel
theorem dX7_endsIn_28 : decode cX7_endsIn 28 = .ok (.iadd, 1) := by decide +kernel
theorem dX7_endsIn_29 : decode cX7_endsIn 29 = .ok (.iaload, 1) := by decide +kernel
theorem dX7_endsIn_30 : decode cX7_endsIn 30 = .ok (.bipush 97, 2) := by decide +kernel
theorem dX7_endsIn_32 : decode cX7_endsIn 32 = .ok (.isub, 1) := by decide +kernel
theorem dX7_endsIn_33 : decode cX7_endsIn 33 = .ok (.invokevirtual 116, 3) := by decide +kernel
theorem dX7_endsIn_36 : decode cX7_endsIn 36 = .ok (.lstore 4, 2) := by decide +kernel
theorem dX7_endsIn_38 : decode cX7_endsIn 38 = .ok (.iinc 6 1, 3) := by decide +kernel
theorem dX7_endsIn_41 : decode cX7_endsIn 41 = .ok (.goto (-32), 3) := by decide +kernel
theorem dX7_endsIn_44 : decode cX7_endsIn 44 = .ok (.lload 4, 2) := by decide +kernel
theorem dX7_endsIn_46 : decode cX7_endsIn 46 = .ok (.lreturn, 1) := by decide +kernel
set_option maxRecDepth 20000 in
theorem ggX7_walk_X7_need : GoodIn wsX7_walk wsX7_need := goodIn_r _ [6, 1, 7, 8, 5, 9, 10, 11, 12, 37, 38, 39, 40, 41, 42, 43, 44, 45, 46, 47, 48, 49, 50] rfl rfl
set_option maxRecDepth 20000 in
theorem gX7_walk_X7_need : GoodIn wsX7_walk (wsV RX7 131 RX7 yX7_need wsX7_need) := goodIn_app (goodIn_r _ [2, 3, 4, 5] rfl rfl) ggX7_walk_X7_need
set_option maxRecDepth 20000 in
theorem ggX7_walk_X7_endsIn : GoodIn wsX7_walk wsX7_endsIn := goodIn_r _ [16, 17, 18, 19, 20, 5, 21, 22, 23, 24, 25, 26, 27, 28, 29, 30, 37, 38, 39, 40, 41, 42, 43, 44, 45, 46, 47, 48, 49, 50] rfl rfl
set_option maxRecDepth 20000 in
theorem gX7_walk_X7_endsIn : GoodIn wsX7_walk (wsV RX7 138 RX7 yX7_endsIn wsX7_endsIn) := goodIn_app (goodIn_r _ [13, 14, 15, 5] rfl rfl) ggX7_walk_X7_endsIn
set_option maxRecDepth 20000 in
theorem ggX7_walk_X7_stateOf : GoodIn wsX7_walk wsX7_stateOf := goodIn_r _ [34, 35, 36, 37, 38, 39, 40, 41, 42, 43, 44, 45, 46, 47, 48, 49, 50] rfl rfl
set_option maxRecDepth 20000 in
theorem gX7_walk_X7_stateOf : GoodIn wsX7_walk (wsV RX7 74 RX7 yX7_stateOf wsX7_stateOf) := goodIn_app (goodIn_r _ [31, 32, 33, 5] rfl rfl) ggX7_walk_X7_stateOf
theorem dX7_walk_0 : decode cX7_walk 0 = .ok (.aload_n 0, 1) := by decide +kernel
theorem dX7_walk_1 : decode cX7_walk 1 = .ok (.iload_n 1, 1) := by decide +kernel
theorem dX7_walk_2 : decode cX7_walk 2 = .ok (.invokevirtual 131, 3) := by decide +kernel
theorem dX7_walk_5 : decode cX7_walk 5 = .ok (.istore_n 2, 1) := by decide +kernel
theorem dX7_walk_6 : decode cX7_walk 6 = .ok (.iload_n 2, 1) := by decide +kernel
theorem dX7_walk_7 : decode cX7_walk 7 = .ok (.ifCond .ge 7, 3) := by decide +kernel
theorem dX7_walk_10 : decode cX7_walk 10 = .ok (.iload_n 2, 1) := by decide +kernel
theorem dX7_walk_11 : decode cX7_walk 11 = .ok (.goto 19, 3) := by decide +kernel
theorem dX7_walk_14 : decode cX7_walk 14 = .ok (.aload_n 0, 1) := by decide +kernel
theorem dX7_walk_15 : decode cX7_walk 15 = .ok (.aload_n 0, 1) := by decide +kernel
theorem dX7_walk_16 : decode cX7_walk 16 = .ok (.iload_n 1, 1) := by decide +kernel
theorem dX7_walk_17 : decode cX7_walk 17 = .ok (.iconst 0, 1) := by decide +kernel
theorem dX7_walk_18 : decode cX7_walk 18 = .ok (.aload_n 0, 1) := by decide +kernel
theorem dX7_walk_19 : decode cX7_walk 19 = .ok (.getfield 26, 3) := by decide +kernel
theorem dX7_walk_22 : decode cX7_walk 22 = .ok (.iload_n 1, 1) := by decide +kernel
theorem dX7_walk_23 : decode cX7_walk 23 = .ok (.iaload, 1) := by decide +kernel
theorem dX7_walk_24 : decode cX7_walk 24 = .ok (.invokevirtual 138, 3) := by decide +kernel
theorem dX7_walk_27 : decode cX7_walk 27 = .ok (.invokevirtual 74, 3) := by decide +kernel
theorem dX7_walk_30 : decode cX7_walk 30 = .ok (.ireturn, 1) := by decide +kernel
set_option maxRecDepth 20000 in
theorem ggX7_times_X7_in : GoodIn wsX7_times wsX7_in := goodIn_r _ [5] rfl rfl
set_option maxRecDepth 20000 in
theorem gX7_times_X7_in : GoodIn wsX7_times (va_wsS RX7 85 yX7_in wsX7_in) := goodIn_app (goodIn_r _ [2, 3, 4] rfl rfl) ggX7_times_X7_in
set_option maxRecDepth 20000 in
theorem ggX7_times_X7_need : GoodIn wsX7_times wsX7_need := goodIn_r _ [9, 1, 10, 11, 4, 12, 2, 3, 5, 40, 41, 42, 43, 44, 45, 46, 47, 48, 49, 50, 51, 52, 53] rfl rfl
set_option maxRecDepth 20000 in
theorem gX7_times_X7_need : GoodIn wsX7_times (wsV RX7 131 RX7 yX7_need wsX7_need) := goodIn_app (goodIn_r _ [6, 7, 8, 4] rfl rfl) ggX7_times_X7_need
set_option maxRecDepth 20000 in
theorem ggX7_times_X7_endsIn : GoodIn wsX7_times wsX7_endsIn := goodIn_r _ [16, 17, 18, 19, 20, 4, 21, 22, 23, 24, 25, 26, 27, 28, 29, 30, 40, 41, 42, 43, 44, 45, 46, 47, 48, 49, 50, 51, 52, 53] rfl rfl
set_option maxRecDepth 20000 in
theorem gX7_times_X7_endsIn : GoodIn wsX7_times (wsV RX7 138 RX7 yX7_endsIn wsX7_endsIn) := goodIn_app (goodIn_r _ [13, 14, 15, 4] rfl rfl) ggX7_times_X7_endsIn
set_option maxRecDepth 20000 in
theorem ggX7_times_X7_bits : GoodIn wsX7_times wsX7_bits := goodIn_r _ [33] rfl rfl
set_option maxRecDepth 20000 in
theorem gX7_times_X7_bits : GoodIn wsX7_times (va_wsS RX7 113 yX7_bits wsX7_bits) := goodIn_app (goodIn_r _ [31, 32, 4] rfl rfl) ggX7_times_X7_bits
set_option maxRecDepth 20000 in
theorem ggX7_times_X7_least : GoodIn wsX7_times wsX7_least := goodIn_r _ [36, 28, 29, 4, 30] rfl rfl
set_option maxRecDepth 20000 in
theorem gX7_times_X7_least : GoodIn wsX7_times (va_wsS RX7 78 yX7_least wsX7_least) := goodIn_app (goodIn_r _ [34, 35, 4] rfl rfl) ggX7_times_X7_least
set_option maxRecDepth 20000 in
theorem ggX7_times_X7_greatest : GoodIn wsX7_times wsX7_greatest := goodIn_r _ [39, 28, 29, 4, 30] rfl rfl
set_option maxRecDepth 20000 in
theorem gX7_times_X7_greatest : GoodIn wsX7_times (va_wsS RX7 141 yX7_greatest wsX7_greatest) := goodIn_app (goodIn_r _ [37, 38, 4] rfl rfl) ggX7_times_X7_greatest
theorem dX7_times_0 : decode cX7_times 0 = .ok (.iload_n 2, 1) := by decide +kernel
theorem dX7_times_1 : decode cX7_times 1 = .ok (.iconst 0, 1) := by decide +kernel
theorem dX7_times_2 : decode cX7_times 2 = .ok (.iconst 2, 1) := by decide +kernel
theorem dX7_times_3 : decode cX7_times 3 = .ok (.invokestatic 85, 3) := by decide +kernel
theorem dX7_times_6 : decode cX7_times 6 = .ok (.ifCond .eq 11, 3) := by decide +kernel
theorem dX7_times_9 : decode cX7_times 9 = .ok (.aload_n 0, 1) := by decide +kernel
theorem dX7_times_10 : decode cX7_times 10 = .ok (.iload_n 1, 1) := by decide +kernel
theorem dX7_times_11 : decode cX7_times 11 = .ok (.invokevirtual 131, 3) := by decide +kernel
theorem dX7_times_14 : decode cX7_times 14 = .ok (.goto 4, 3) := by decide +kernel
theorem dX7_times_17 : decode cX7_times 17 = .ok (.iconst (-1), 1) := by decide +kernel
theorem dX7_times_18 : decode cX7_times 18 = .ok (.istore_n 3, 1) := by decide +kernel
theorem dX7_times_19 : decode cX7_times 19 = .ok (.iload_n 3, 1) := by decide +kernel
theorem dX7_times_20 : decode cX7_times 20 = .ok (.ifCond .ge 5, 3) := by decide +kernel
theorem dX7_times_23 : decode cX7_times 23 = .ok (.iload_n 3, 1) := by decide +kernel
theorem dX7_times_24 : decode cX7_times 24 = .ok (.ireturn, 1) := by decide +kernel
theorem dX7_times_25 : decode cX7_times 25 = .ok (.aload_n 0, 1) := by decide +kernel
theorem dX7_times_26 : decode cX7_times 26 = .ok (.iload_n 1, 1) := by decide +kernel
theorem dX7_times_27 : decode cX7_times 27 = .ok (.iconst 0, 1) := by decide +kernel
theorem dX7_times_28 : decode cX7_times 28 = .ok (.aload_n 0, 1) := by decide +kernel
theorem dX7_times_29 : decode cX7_times 29 = .ok (.getfield 26, 3) := by decide +kernel
theorem dX7_times_32 : decode cX7_times 32 = .ok (.iload_n 1, 1) := by decide +kernel
theorem dX7_times_33 : decode cX7_times 33 = .ok (.iaload, 1) := by decide +kernel
theorem dX7_times_34 : decode cX7_times 34 = .ok (.invokevirtual 138, 3) := by decide +kernel
theorem dX7_times_37 : decode cX7_times 37 = .ok (.lstore 4, 2) := by decide +kernel
theorem dX7_times_39 : decode cX7_times 39 = .ok (.iload_n 2, 1) := by decide +kernel
theorem dX7_times_40 : decode cX7_times 40 = .ok (.ifCond .ne 11, 3) := by decide +kernel
theorem dX7_times_43 : decode cX7_times 43 = .ok (.lload 4, 2) := by decide +kernel
theorem dX7_times_45 : decode cX7_times 45 = .ok (.invokestatic 113, 3) := by decide +kernel
theorem dX7_times_48 : decode cX7_times 48 = .ok (.goto 33, 3) := by decide +kernel
theorem dX7_times_51 : decode cX7_times 51 = .ok (.lload 4, 2) := by decide +kernel
theorem dX7_times_53 : decode cX7_times 53 = .ok (.lconst 0, 1) := by decide +kernel
theorem dX7_times_54 : decode cX7_times 54 = .ok (.lcmp, 1) := by decide +kernel
theorem dX7_times_55 : decode cX7_times 55 = .ok (.ifCond .ne 8, 3) := by decide +kernel
theorem dX7_times_58 : decode cX7_times 58 = .ok (.bipush (-4), 2) := by decide +kernel
theorem dX7_times_60 : decode cX7_times 60 = .ok (.goto 21, 3) := by decide +kernel
theorem dX7_times_63 : decode cX7_times 63 = .ok (.iload_n 2, 1) := by decide +kernel
theorem dX7_times_64 : decode cX7_times 64 = .ok (.iconst 1, 1) := by decide +kernel
theorem dX7_times_65 : decode cX7_times 65 = .ok (.if_icmp .ne 11, 3) := by decide +kernel
theorem dX7_times_68 : decode cX7_times 68 = .ok (.lload 4, 2) := by decide +kernel
theorem dX7_times_70 : decode cX7_times 70 = .ok (.invokestatic 78, 3) := by decide +kernel
theorem dX7_times_73 : decode cX7_times 73 = .ok (.goto 8, 3) := by decide +kernel
theorem dX7_times_76 : decode cX7_times 76 = .ok (.lload 4, 2) := by decide +kernel
theorem dX7_times_78 : decode cX7_times 78 = .ok (.invokestatic 141, 3) := by decide +kernel
theorem dX7_times_81 : decode cX7_times 81 = .ok (.ireturn, 1) := by decide +kernel
set_option maxRecDepth 20000 in
theorem ggX7_layPaths_X7_moveOf : GoodIn wsX7_layPaths wsX7_moveOf := goodIn_r _ [10, 11, 12, 13, 14, 9, 15, 1, 16, 17, 18, 19, 20, 21, 22, 23, 2, 24, 25, 26, 27, 28, 29, 30, 31, 32, 33, 34, 35, 36, 37] rfl rfl
set_option maxRecDepth 20000 in
theorem gX7_layPaths_X7_moveOf : GoodIn wsX7_layPaths (wsV RX7 120 RX7 yX7_moveOf wsX7_moveOf) := goodIn_app (goodIn_r _ [6, 7, 8, 9] rfl rfl) ggX7_layPaths_X7_moveOf
theorem dX7_layPaths_0 : decode cX7_layPaths 0 = .ok (.aload_n 0, 1) := by decide +kernel
theorem dX7_layPaths_1 : decode cX7_layPaths 1 = .ok (.getfield 56, 3) := by decide +kernel
theorem dX7_layPaths_4 : decode cX7_layPaths 4 = .ok (.istore_n 1, 1) := by decide +kernel
theorem dX7_layPaths_5 : decode cX7_layPaths 5 = .ok (.iload_n 1, 1) := by decide +kernel
theorem dX7_layPaths_6 : decode cX7_layPaths 6 = .ok (.ifCond .lt 93, 3) := by decide +kernel
theorem dX7_layPaths_9 : decode cX7_layPaths 9 = .ok (.iconst 0, 1) := by decide +kernel
theorem dX7_layPaths_10 : decode cX7_layPaths 10 = .ok (.istore_n 2, 1) := by decide +kernel
theorem dX7_layPaths_11 : decode cX7_layPaths 11 = .ok (.iload_n 2, 1) := by decide +kernel
theorem dX7_layPaths_12 : decode cX7_layPaths 12 = .ok (.aload_n 0, 1) := by decide +kernel
theorem dX7_layPaths_13 : decode cX7_layPaths 13 = .ok (.getfield 59, 3) := by decide +kernel
theorem dX7_layPaths_16 : decode cX7_layPaths 16 = .ok (.if_icmp .ge 77, 3) := by decide +kernel
theorem dX7_layPaths_19 : decode cX7_layPaths 19 = .ok (.aload_n 0, 1) := by decide +kernel
theorem dX7_layPaths_20 : decode cX7_layPaths 20 = .ok (.getfield 13, 3) := by decide +kernel
theorem dX7_layPaths_23 : decode cX7_layPaths 23 = .ok (.iload_n 2, 1) := by decide +kernel
theorem dX7_layPaths_24 : decode cX7_layPaths 24 = .ok (.iaload, 1) := by decide +kernel
theorem dX7_layPaths_25 : decode cX7_layPaths 25 = .ok (.iload_n 1, 1) := by decide +kernel
theorem dX7_layPaths_26 : decode cX7_layPaths 26 = .ok (.if_icmp .ne 61, 3) := by decide +kernel
theorem dX7_layPaths_29 : decode cX7_layPaths 29 = .ok (.aload_n 0, 1) := by decide +kernel
theorem dX7_layPaths_30 : decode cX7_layPaths 30 = .ok (.getfield 32, 3) := by decide +kernel
theorem dX7_layPaths_33 : decode cX7_layPaths 33 = .ok (.iload_n 2, 1) := by decide +kernel
theorem dX7_layPaths_34 : decode cX7_layPaths 34 = .ok (.iconst 1, 1) := by decide +kernel
theorem dX7_layPaths_35 : decode cX7_layPaths 35 = .ok (.iastore, 1) := by decide +kernel
theorem dX7_layPaths_36 : decode cX7_layPaths 36 = .ok (.iconst 0, 1) := by decide +kernel
theorem dX7_layPaths_37 : decode cX7_layPaths 37 = .ok (.istore_n 3, 1) := by decide +kernel
theorem dX7_layPaths_38 : decode cX7_layPaths 38 = .ok (.iload_n 3, 1) := by decide +kernel
theorem dX7_layPaths_39 : decode cX7_layPaths 39 = .ok (.aload_n 0, 1) := by decide +kernel
theorem dX7_layPaths_40 : decode cX7_layPaths 40 = .ok (.getfield 52, 3) := by decide +kernel
theorem dX7_layPaths_43 : decode cX7_layPaths 43 = .ok (.if_icmp .ge 44, 3) := by decide +kernel
theorem dX7_layPaths_46 : decode cX7_layPaths 46 = .ok (.aload_n 0, 1) := by decide +kernel
theorem dX7_layPaths_47 : decode cX7_layPaths 47 = .ok (.iload_n 2, 1) := by decide +kernel
theorem dX7_layPaths_48 : decode cX7_layPaths 48 = .ok (.iload_n 3, 1) := by decide +kernel
theorem dX7_layPaths_49 : decode cX7_layPaths 49 = .ok (.invokevirtual 120, 3) := by decide +kernel
theorem dX7_layPaths_52 : decode cX7_layPaths 52 = .ok (.istore 4, 2) := by decide +kernel
theorem dX7_layPaths_54 : decode cX7_layPaths 54 = .ok (.aload_n 0, 1) := by decide +kernel
theorem dX7_layPaths_55 : decode cX7_layPaths 55 = .ok (.getfield 32, 3) := by decide +kernel
theorem dX7_layPaths_58 : decode cX7_layPaths 58 = .ok (.iload_n 2, 1) := by decide +kernel
theorem dX7_layPaths_59 : decode cX7_layPaths 59 = .ok (.dup2, 1) := by decide +kernel
theorem dX7_layPaths_60 : decode cX7_layPaths 60 = .ok (.iaload, 1) := by decide +kernel
theorem dX7_layPaths_61 : decode cX7_layPaths 61 = .ok (.iload 4, 2) := by decide +kernel
theorem dX7_layPaths_63 : decode cX7_layPaths 63 = .ok (.bipush (-4), 2) := by decide +kernel
theorem dX7_layPaths_65 : decode cX7_layPaths 65 = .ok (.if_icmp .ne 7, 3) := by decide +kernel
theorem dX7_layPaths_68 : decode cX7_layPaths 68 = .ok (.iconst 0, 1) := by decide +kernel
theorem dX7_layPaths_69 : decode cX7_layPaths 69 = .ok (.goto 10, 3) := by decide +kernel
theorem dX7_layPaths_72 : decode cX7_layPaths 72 = .ok (.aload_n 0, 1) := by decide +kernel
theorem dX7_layPaths_73 : decode cX7_layPaths 73 = .ok (.getfield 32, 3) := by decide +kernel
theorem dX7_layPaths_76 : decode cX7_layPaths 76 = .ok (.iload 4, 2) := by decide +kernel
theorem dX7_layPaths_78 : decode cX7_layPaths 78 = .ok (.iaload, 1) := by decide +kernel
theorem dX7_layPaths_79 : decode cX7_layPaths 79 = .ok (.iadd, 1) := by decide +kernel
theorem dX7_layPaths_80 : decode cX7_layPaths 80 = .ok (.iastore, 1) := by decide +kernel
theorem dX7_layPaths_81 : decode cX7_layPaths 81 = .ok (.iinc 3 1, 3) := by decide +kernel
theorem dX7_layPaths_84 : decode cX7_layPaths 84 = .ok (.goto (-46), 3) := by decide +kernel
theorem dX7_layPaths_87 : decode cX7_layPaths 87 = .ok (.iinc 2 1, 3) := by decide +kernel
theorem dX7_layPaths_90 : decode cX7_layPaths 90 = .ok (.goto (-79), 3) := by decide +kernel
theorem dX7_layPaths_93 : decode cX7_layPaths 93 = .ok (.iinc 1 (-1), 3) := by decide +kernel
theorem dX7_layPaths_96 : decode cX7_layPaths 96 = .ok (.goto (-91), 3) := by decide +kernel
theorem dX7_layPaths_99 : decode cX7_layPaths 99 = .ok (.return_, 1) := by decide +kernel
set_option maxRecDepth 20000 in
theorem ggX7_kth_X7_isSheet : GoodIn wsX7_kth wsX7_isSheet := goodIn_r _ [7, 8, 9, 6, 10] rfl rfl
set_option maxRecDepth 20000 in
theorem gX7_kth_X7_isSheet : GoodIn wsX7_kth (va_wsS RX7 127 yX7_isSheet wsX7_isSheet) := goodIn_app (goodIn_r _ [4, 5, 6] rfl rfl) ggX7_kth_X7_isSheet
set_option maxRecDepth 20000 in
theorem ggX7_kth_X7_layPaths : GoodIn wsX7_kth wsX7_layPaths := goodIn_r _ [14, 15, 16, 17, 1, 18, 19, 20, 21, 6, 22, 23, 24, 25, 26, 27, 28, 29, 30, 31, 32, 33, 34, 35, 36, 37, 38, 39, 40, 41, 42, 43, 44, 45, 46, 47, 48, 49] rfl rfl
set_option maxRecDepth 20000 in
theorem gX7_kth_X7_layPaths : GoodIn wsX7_kth (wsV RX7 144 RX7 yX7_layPaths wsX7_layPaths) := goodIn_app (goodIn_r _ [11, 12, 13, 6] rfl rfl) ggX7_kth_X7_layPaths
set_option maxRecDepth 20000 in
theorem ggX7_kth_X7_moveOf : GoodIn wsX7_kth wsX7_moveOf := goodIn_r _ [22, 23, 24, 25, 26, 6, 27, 15, 28, 29, 30, 31, 32, 33, 34, 35, 16, 36, 37, 38, 39, 40, 41, 42, 43, 44, 45, 46, 47, 48, 49] rfl rfl
set_option maxRecDepth 20000 in
theorem gX7_kth_X7_moveOf : GoodIn wsX7_kth (wsV RX7 120 RX7 yX7_moveOf wsX7_moveOf) := goodIn_app (goodIn_r _ [19, 20, 21, 6] rfl rfl) ggX7_kth_X7_moveOf
theorem dX7_kth_0 : decode cX7_kth 0 = .ok (.iload_n 1, 1) := by decide +kernel
theorem dX7_kth_1 : decode cX7_kth 1 = .ok (.ifCond .lt 10, 3) := by decide +kernel
theorem dX7_kth_4 : decode cX7_kth 4 = .ok (.iload_n 2, 1) := by decide +kernel
theorem dX7_kth_5 : decode cX7_kth 5 = .ok (.invokestatic 127, 3) := by decide +kernel
theorem dX7_kth_8 : decode cX7_kth 8 = .ok (.ifCond .ne 5, 3) := by decide +kernel
theorem dX7_kth_11 : decode cX7_kth 11 = .ok (.iconst (-1), 1) := by decide +kernel
theorem dX7_kth_12 : decode cX7_kth 12 = .ok (.ireturn, 1) := by decide +kernel
theorem dX7_kth_13 : decode cX7_kth 13 = .ok (.aload_n 0, 1) := by decide +kernel
theorem dX7_kth_14 : decode cX7_kth 14 = .ok (.invokevirtual 144, 3) := by decide +kernel
theorem dX7_kth_17 : decode cX7_kth 17 = .ok (.iload_n 1, 1) := by decide +kernel
theorem dX7_kth_18 : decode cX7_kth 18 = .ok (.aload_n 0, 1) := by decide +kernel
theorem dX7_kth_19 : decode cX7_kth 19 = .ok (.getfield 32, 3) := by decide +kernel
theorem dX7_kth_22 : decode cX7_kth 22 = .ok (.iconst 0, 1) := by decide +kernel
theorem dX7_kth_23 : decode cX7_kth 23 = .ok (.iaload, 1) := by decide +kernel
theorem dX7_kth_24 : decode cX7_kth 24 = .ok (.iconst 1, 1) := by decide +kernel
theorem dX7_kth_25 : decode cX7_kth 25 = .ok (.isub, 1) := by decide +kernel
theorem dX7_kth_26 : decode cX7_kth 26 = .ok (.if_icmp .lt 6, 3) := by decide +kernel
theorem dX7_kth_29 : decode cX7_kth 29 = .ok (.bipush (-4), 2) := by decide +kernel
theorem dX7_kth_31 : decode cX7_kth 31 = .ok (.ireturn, 1) := by decide +kernel
theorem dX7_kth_32 : decode cX7_kth 32 = .ok (.iload_n 1, 1) := by decide +kernel
theorem dX7_kth_33 : decode cX7_kth 33 = .ok (.iconst 1, 1) := by decide +kernel
theorem dX7_kth_34 : decode cX7_kth 34 = .ok (.iadd, 1) := by decide +kernel
theorem dX7_kth_35 : decode cX7_kth 35 = .ok (.istore_n 3, 1) := by decide +kernel
theorem dX7_kth_36 : decode cX7_kth 36 = .ok (.iconst 0, 1) := by decide +kernel
theorem dX7_kth_37 : decode cX7_kth 37 = .ok (.istore 4, 2) := by decide +kernel
theorem dX7_kth_39 : decode cX7_kth 39 = .ok (.iconst 0, 1) := by decide +kernel
theorem dX7_kth_40 : decode cX7_kth 40 = .ok (.istore 5, 2) := by decide +kernel
theorem dX7_kth_42 : decode cX7_kth 42 = .ok (.iload_n 3, 1) := by decide +kernel
theorem dX7_kth_43 : decode cX7_kth 43 = .ok (.ifCond .le 100, 3) := by decide +kernel
theorem dX7_kth_46 : decode cX7_kth 46 = .ok (.iinc 3 (-1), 3) := by decide +kernel
theorem dX7_kth_49 : decode cX7_kth 49 = .ok (.iconst 0, 1) := by decide +kernel
theorem dX7_kth_50 : decode cX7_kth 50 = .ok (.istore 6, 2) := by decide +kernel
theorem dX7_kth_52 : decode cX7_kth 52 = .ok (.aload_n 0, 1) := by decide +kernel
theorem dX7_kth_53 : decode cX7_kth 53 = .ok (.iload 4, 2) := by decide +kernel
theorem dX7_kth_55 : decode cX7_kth 55 = .ok (.iconst 0, 1) := by decide +kernel
theorem dX7_kth_56 : decode cX7_kth 56 = .ok (.invokevirtual 120, 3) := by decide +kernel
theorem dX7_kth_59 : decode cX7_kth 59 = .ok (.istore 7, 2) := by decide +kernel
theorem dX7_kth_61 : decode cX7_kth 61 = .ok (.iload 7, 2) := by decide +kernel
theorem dX7_kth_63 : decode cX7_kth 63 = .ok (.bipush (-4), 2) := by decide +kernel
theorem dX7_kth_65 : decode cX7_kth 65 = .ok (.if_icmp .eq 14, 3) := by decide +kernel
theorem dX7_kth_68 : decode cX7_kth 68 = .ok (.iload_n 3, 1) := by decide +kernel
theorem dX7_kth_69 : decode cX7_kth 69 = .ok (.aload_n 0, 1) := by decide +kernel
theorem dX7_kth_70 : decode cX7_kth 70 = .ok (.getfield 32, 3) := by decide +kernel
theorem dX7_kth_73 : decode cX7_kth 73 = .ok (.iload 7, 2) := by decide +kernel
theorem dX7_kth_75 : decode cX7_kth 75 = .ok (.iaload, 1) := by decide +kernel
theorem dX7_kth_76 : decode cX7_kth 76 = .ok (.if_icmp .lt 40, 3) := by decide +kernel
theorem dX7_kth_79 : decode cX7_kth 79 = .ok (.iload_n 3, 1) := by decide +kernel
theorem dX7_kth_80 : decode cX7_kth 80 = .ok (.iload 7, 2) := by decide +kernel
theorem dX7_kth_82 : decode cX7_kth 82 = .ok (.bipush (-4), 2) := by decide +kernel
theorem dX7_kth_84 : decode cX7_kth 84 = .ok (.if_icmp .ne 7, 3) := by decide +kernel
theorem dX7_kth_87 : decode cX7_kth 87 = .ok (.iconst 0, 1) := by decide +kernel
theorem dX7_kth_88 : decode cX7_kth 88 = .ok (.goto 10, 3) := by decide +kernel
theorem dX7_kth_91 : decode cX7_kth 91 = .ok (.aload_n 0, 1) := by decide +kernel
theorem dX7_kth_92 : decode cX7_kth 92 = .ok (.getfield 32, 3) := by decide +kernel
theorem dX7_kth_95 : decode cX7_kth 95 = .ok (.iload 7, 2) := by decide +kernel
theorem dX7_kth_97 : decode cX7_kth 97 = .ok (.iaload, 1) := by decide +kernel
theorem dX7_kth_98 : decode cX7_kth 98 = .ok (.isub, 1) := by decide +kernel
theorem dX7_kth_99 : decode cX7_kth 99 = .ok (.istore_n 3, 1) := by decide +kernel
theorem dX7_kth_100 : decode cX7_kth 100 = .ok (.iinc 6 1, 3) := by decide +kernel
theorem dX7_kth_103 : decode cX7_kth 103 = .ok (.aload_n 0, 1) := by decide +kernel
theorem dX7_kth_104 : decode cX7_kth 104 = .ok (.iload 4, 2) := by decide +kernel
theorem dX7_kth_106 : decode cX7_kth 106 = .ok (.iload 6, 2) := by decide +kernel
theorem dX7_kth_108 : decode cX7_kth 108 = .ok (.invokevirtual 120, 3) := by decide +kernel
theorem dX7_kth_111 : decode cX7_kth 111 = .ok (.istore 7, 2) := by decide +kernel
theorem dX7_kth_113 : decode cX7_kth 113 = .ok (.goto (-52), 3) := by decide +kernel
theorem dX7_kth_116 : decode cX7_kth 116 = .ok (.iload 7, 2) := by decide +kernel
theorem dX7_kth_118 : decode cX7_kth 118 = .ok (.istore 4, 2) := by decide +kernel
theorem dX7_kth_120 : decode cX7_kth 120 = .ok (.aload_n 0, 1) := by decide +kernel
theorem dX7_kth_121 : decode cX7_kth 121 = .ok (.getfield 29, 3) := by decide +kernel
theorem dX7_kth_124 : decode cX7_kth 124 = .ok (.bipush 64, 2) := by decide +kernel
theorem dX7_kth_126 : decode cX7_kth 126 = .ok (.iload_n 2, 1) := by decide +kernel
theorem dX7_kth_127 : decode cX7_kth 127 = .ok (.imul, 1) := by decide +kernel
theorem dX7_kth_128 : decode cX7_kth 128 = .ok (.iload 5, 2) := by decide +kernel
theorem dX7_kth_130 : decode cX7_kth 130 = .ok (.iadd, 1) := by decide +kernel
theorem dX7_kth_131 : decode cX7_kth 131 = .ok (.bipush 97, 2) := by decide +kernel
theorem dX7_kth_133 : decode cX7_kth 133 = .ok (.iload 6, 2) := by decide +kernel
theorem dX7_kth_135 : decode cX7_kth 135 = .ok (.iadd, 1) := by decide +kernel
theorem dX7_kth_136 : decode cX7_kth 136 = .ok (.iastore, 1) := by decide +kernel
theorem dX7_kth_137 : decode cX7_kth 137 = .ok (.iinc 5 1, 3) := by decide +kernel
theorem dX7_kth_140 : decode cX7_kth 140 = .ok (.goto (-98), 3) := by decide +kernel
theorem dX7_kth_143 : decode cX7_kth 143 = .ok (.aload_n 0, 1) := by decide +kernel
theorem dX7_kth_144 : decode cX7_kth 144 = .ok (.getfield 26, 3) := by decide +kernel
theorem dX7_kth_147 : decode cX7_kth 147 = .ok (.iload_n 2, 1) := by decide +kernel
theorem dX7_kth_148 : decode cX7_kth 148 = .ok (.iload 5, 2) := by decide +kernel
theorem dX7_kth_150 : decode cX7_kth 150 = .ok (.iastore, 1) := by decide +kernel
theorem dX7_kth_151 : decode cX7_kth 151 = .ok (.iload 5, 2) := by decide +kernel
theorem dX7_kth_153 : decode cX7_kth 153 = .ok (.ireturn, 1) := by decide +kernel
