set_option maxRecDepth 20000 in
theorem ggX0_firstOf_J13_bitCount_95d88 : GoodIn wsX0_firstOf wsJ13_bitCount_95d88 := goodIn_r _ [4, 5, 6, 7] rfl rfl
set_option maxRecDepth 20000 in
theorem gX0_firstOf_J13_bitCount_95d88 : GoodIn wsX0_firstOf (va_wsS RX0 9 yJ13_bitCount_95d88 wsJ13_bitCount_95d88) := goodIn_app (goodIn_r _ [1, 2, 3] rfl rfl) ggX0_firstOf_J13_bitCount_95d88
theorem dX0_firstOf_0 : decode cX0_firstOf 0 = .ok (.lload_n 0, 1) := by decide +kernel
theorem dX0_firstOf_1 : decode cX0_firstOf 1 = .ok (.lload_n 0, 1) := by decide +kernel
theorem dX0_firstOf_2 : decode cX0_firstOf 2 = .ok (.lneg, 1) := by decide +kernel
theorem dX0_firstOf_3 : decode cX0_firstOf 3 = .ok (.land, 1) := by decide +kernel
theorem dX0_firstOf_4 : decode cX0_firstOf 4 = .ok (.lstore_n 2, 1) := by decide +kernel
theorem dX0_firstOf_5 : decode cX0_firstOf 5 = .ok (.lload_n 2, 1) := by decide +kernel
theorem dX0_firstOf_6 : decode cX0_firstOf 6 = .ok (.lconst 1, 1) := by decide +kernel
theorem dX0_firstOf_7 : decode cX0_firstOf 7 = .ok (.lsub, 1) := by decide +kernel
theorem dX0_firstOf_8 : decode cX0_firstOf 8 = .ok (.invokestatic 9, 3) := by decide +kernel
theorem dX0_firstOf_11 : decode cX0_firstOf 11 = .ok (.ireturn, 1) := by decide +kernel
set_option maxRecDepth 20000 in
theorem ggX0_kthOf_J13_bitCount_95d88 : GoodIn wsX0_kthOf wsJ13_bitCount_95d88 := goodIn_r _ [4, 5, 6, 7] rfl rfl
set_option maxRecDepth 20000 in
theorem gX0_kthOf_J13_bitCount_95d88 : GoodIn wsX0_kthOf (va_wsS RX0 9 yJ13_bitCount_95d88 wsJ13_bitCount_95d88) := goodIn_app (goodIn_r _ [1, 2, 3] rfl rfl) ggX0_kthOf_J13_bitCount_95d88
set_option maxRecDepth 20000 in
theorem ggX0_kthOf_X0_withoutFirst : GoodIn wsX0_kthOf wsX0_withoutFirst := goodIn_r _ [11] rfl rfl
set_option maxRecDepth 20000 in
theorem gX0_kthOf_X0_withoutFirst : GoodIn wsX0_kthOf (va_wsS RX0 15 yX0_withoutFirst wsX0_withoutFirst) := goodIn_app (goodIn_r _ [8, 9, 10] rfl rfl) ggX0_kthOf_X0_withoutFirst
set_option maxRecDepth 20000 in
theorem ggX0_kthOf_X0_firstOf : GoodIn wsX0_kthOf wsX0_firstOf := goodIn_r _ [14, 1, 2, 3, 4, 5, 6, 7] rfl rfl
set_option maxRecDepth 20000 in
theorem gX0_kthOf_X0_firstOf : GoodIn wsX0_kthOf (va_wsS RX0 21 yX0_firstOf wsX0_firstOf) := goodIn_app (goodIn_r _ [12, 13, 10] rfl rfl) ggX0_kthOf_X0_firstOf
theorem dX0_kthOf_0 : decode cX0_kthOf 0 = .ok (.iload_n 2, 1) := by decide +kernel
theorem dX0_kthOf_1 : decode cX0_kthOf 1 = .ok (.ifCond .lt 11, 3) := by decide +kernel
theorem dX0_kthOf_4 : decode cX0_kthOf 4 = .ok (.iload_n 2, 1) := by decide +kernel
theorem dX0_kthOf_5 : decode cX0_kthOf 5 = .ok (.lload_n 0, 1) := by decide +kernel
theorem dX0_kthOf_6 : decode cX0_kthOf 6 = .ok (.invokestatic 9, 3) := by decide +kernel
theorem dX0_kthOf_9 : decode cX0_kthOf 9 = .ok (.if_icmp .lt 6, 3) := by decide +kernel
theorem dX0_kthOf_12 : decode cX0_kthOf 12 = .ok (.bipush (-4), 2) := by decide +kernel
theorem dX0_kthOf_14 : decode cX0_kthOf 14 = .ok (.ireturn, 1) := by decide +kernel
theorem dX0_kthOf_15 : decode cX0_kthOf 15 = .ok (.lload_n 0, 1) := by decide +kernel
theorem dX0_kthOf_16 : decode cX0_kthOf 16 = .ok (.lstore_n 3, 1) := by decide +kernel
theorem dX0_kthOf_17 : decode cX0_kthOf 17 = .ok (.iconst 0, 1) := by decide +kernel
theorem dX0_kthOf_18 : decode cX0_kthOf 18 = .ok (.istore 5, 2) := by decide +kernel
theorem dX0_kthOf_20 : decode cX0_kthOf 20 = .ok (.iload 5, 2) := by decide +kernel
theorem dX0_kthOf_22 : decode cX0_kthOf 22 = .ok (.iload_n 2, 1) := by decide +kernel
theorem dX0_kthOf_23 : decode cX0_kthOf 23 = .ok (.if_icmp .ge 14, 3) := by decide +kernel
theorem dX0_kthOf_26 : decode cX0_kthOf 26 = .ok (.lload_n 3, 1) := by decide +kernel
theorem dX0_kthOf_27 : decode cX0_kthOf 27 = .ok (.invokestatic 15, 3) := by decide +kernel
theorem dX0_kthOf_30 : decode cX0_kthOf 30 = .ok (.lstore_n 3, 1) := by decide +kernel
theorem dX0_kthOf_31 : decode cX0_kthOf 31 = .ok (.iinc 5 1, 3) := by decide +kernel
theorem dX0_kthOf_34 : decode cX0_kthOf 34 = .ok (.goto (-14), 3) := by decide +kernel
theorem dX0_kthOf_37 : decode cX0_kthOf 37 = .ok (.lload_n 3, 1) := by decide +kernel
theorem dX0_kthOf_38 : decode cX0_kthOf 38 = .ok (.invokestatic 21, 3) := by decide +kernel
theorem dX0_kthOf_41 : decode cX0_kthOf 41 = .ok (.ireturn, 1) := by decide +kernel
set_option maxRecDepth 20000 in
theorem ggX0_widestGap_J13_bitCount_95d88 : GoodIn wsX0_widestGap wsJ13_bitCount_95d88 := goodIn_r _ [8, 9, 10, 11] rfl rfl
set_option maxRecDepth 20000 in
theorem gX0_widestGap_J13_bitCount_95d88 : GoodIn wsX0_widestGap (va_wsS RX0 9 yJ13_bitCount_95d88 wsJ13_bitCount_95d88) := goodIn_app (goodIn_r _ [5, 6, 7] rfl rfl) ggX0_widestGap_J13_bitCount_95d88
set_option maxRecDepth 20000 in
theorem ggX0_widestGap_X0_firstOf : GoodIn wsX0_widestGap wsX0_firstOf := goodIn_r _ [15, 5, 6, 7, 8, 9, 10, 11] rfl rfl
set_option maxRecDepth 20000 in
theorem gX0_widestGap_X0_firstOf : GoodIn wsX0_widestGap (va_wsS RX0 21 yX0_firstOf wsX0_firstOf) := goodIn_app (goodIn_r _ [12, 13, 14] rfl rfl) ggX0_widestGap_X0_firstOf
set_option maxRecDepth 20000 in
theorem ggX0_widestGap_X0_withoutFirst : GoodIn wsX0_widestGap wsX0_withoutFirst := goodIn_r _ [18] rfl rfl
set_option maxRecDepth 20000 in
theorem gX0_widestGap_X0_withoutFirst : GoodIn wsX0_widestGap (va_wsS RX0 15 yX0_withoutFirst wsX0_withoutFirst) := goodIn_app (goodIn_r _ [16, 17, 14] rfl rfl) ggX0_widestGap_X0_withoutFirst
theorem dX0_widestGap_0 : decode cX0_widestGap 0 = .ok (.lload_n 0, 1) := by decide +kernel
theorem dX0_widestGap_1 : decode cX0_widestGap 1 = .ok (.invokestatic 9, 3) := by decide +kernel
theorem dX0_widestGap_4 : decode cX0_widestGap 4 = .ok (.istore_n 2, 1) := by decide +kernel
theorem dX0_widestGap_5 : decode cX0_widestGap 5 = .ok (.lload_n 0, 1) := by decide +kernel
theorem dX0_widestGap_6 : decode cX0_widestGap 6 = .ok (.lstore_n 3, 1) := by decide +kernel
theorem dX0_widestGap_7 : decode cX0_widestGap 7 = .ok (.iconst 0, 1) := by decide +kernel
theorem dX0_widestGap_8 : decode cX0_widestGap 8 = .ok (.istore 5, 2) := by decide +kernel
theorem dX0_widestGap_10 : decode cX0_widestGap 10 = .ok (.iconst 1, 1) := by decide +kernel
theorem dX0_widestGap_11 : decode cX0_widestGap 11 = .ok (.istore 6, 2) := by decide +kernel
theorem dX0_widestGap_13 : decode cX0_widestGap 13 = .ok (.iload 6, 2) := by decide +kernel
theorem dX0_widestGap_15 : decode cX0_widestGap 15 = .ok (.iload_n 2, 1) := by decide +kernel
theorem dX0_widestGap_16 : decode cX0_widestGap 16 = .ok (.if_icmp .ge 34, 3) := by decide +kernel
theorem dX0_widestGap_19 : decode cX0_widestGap 19 = .ok (.lload_n 3, 1) := by decide +kernel
theorem dX0_widestGap_20 : decode cX0_widestGap 20 = .ok (.invokestatic 21, 3) := by decide +kernel
theorem dX0_widestGap_23 : decode cX0_widestGap 23 = .ok (.istore 7, 2) := by decide +kernel
theorem dX0_widestGap_25 : decode cX0_widestGap 25 = .ok (.lload_n 3, 1) := by decide +kernel
theorem dX0_widestGap_26 : decode cX0_widestGap 26 = .ok (.invokestatic 15, 3) := by decide +kernel
theorem dX0_widestGap_29 : decode cX0_widestGap 29 = .ok (.lstore_n 3, 1) := by decide +kernel
theorem dX0_widestGap_30 : decode cX0_widestGap 30 = .ok (.iload 5, 2) := by decide +kernel
theorem dX0_widestGap_32 : decode cX0_widestGap 32 = .ok (.lload_n 3, 1) := by decide +kernel
theorem dX0_widestGap_33 : decode cX0_widestGap 33 = .ok (.invokestatic 21, 3) := by decide +kernel
theorem dX0_widestGap_36 : decode cX0_widestGap 36 = .ok (.iload 7, 2) := by decide +kernel
theorem dX0_widestGap_38 : decode cX0_widestGap 38 = .ok (.isub, 1) := by decide +kernel
theorem dX0_widestGap_39 : decode cX0_widestGap 39 = .ok (.invokestatic 24, 3) := by decide +kernel
theorem dX0_widestGap_42 : decode cX0_widestGap 42 = .ok (.istore 5, 2) := by decide +kernel
theorem dX0_widestGap_44 : decode cX0_widestGap 44 = .ok (.iinc 6 1, 3) := by decide +kernel
theorem dX0_widestGap_47 : decode cX0_widestGap 47 = .ok (.goto (-34), 3) := by decide +kernel
theorem dX0_widestGap_50 : decode cX0_widestGap 50 = .ok (.iload 5, 2) := by decide +kernel
theorem dX0_widestGap_52 : decode cX0_widestGap 52 = .ok (.ireturn, 1) := by decide +kernel
theorem dX0_withoutFirst_0 : decode cX0_withoutFirst 0 = .ok (.lload_n 0, 1) := by decide +kernel
theorem dX0_withoutFirst_1 : decode cX0_withoutFirst 1 = .ok (.lload_n 0, 1) := by decide +kernel
theorem dX0_withoutFirst_2 : decode cX0_withoutFirst 2 = .ok (.lconst 1, 1) := by decide +kernel
theorem dX0_withoutFirst_3 : decode cX0_withoutFirst 3 = .ok (.lsub, 1) := by decide +kernel
theorem dX0_withoutFirst_4 : decode cX0_withoutFirst 4 = .ok (.land, 1) := by decide +kernel
theorem dX0_withoutFirst_5 : decode cX0_withoutFirst 5 = .ok (.lreturn, 1) := by decide +kernel
theorem dX1_init_0 : decode cX1_init 0 = .ok (.aload_n 0, 1) := by decide +kernel
theorem dX1_init_1 : decode cX1_init 1 = .ok (.invokespecial 3, 3) := by decide +kernel
theorem dX1_init_4 : decode cX1_init 4 = .ok (.aload_n 0, 1) := by decide +kernel
theorem dX1_init_5 : decode cX1_init 5 = .ok (.bipush 60, 2) := by decide +kernel
theorem dX1_init_7 : decode cX1_init 7 = .ok (.newarray .int, 2) := by decide +kernel
theorem dX1_init_9 : decode cX1_init 9 = .ok (.putfield 9, 3) := by decide +kernel
theorem dX1_init_12 : decode cX1_init 12 = .ok (.aload_n 0, 1) := by decide +kernel
theorem dX1_init_13 : decode cX1_init 13 = .ok (.iconst 2, 1) := by decide +kernel
theorem dX1_init_14 : decode cX1_init 14 = .ok (.putfield 15, 3) := by decide +kernel
theorem dX1_init_17 : decode cX1_init 17 = .ok (.aload_n 0, 1) := by decide +kernel
theorem dX1_init_18 : decode cX1_init 18 = .ok (.iconst 0, 1) := by decide +kernel
theorem dX1_init_19 : decode cX1_init 19 = .ok (.putfield 19, 3) := by decide +kernel
theorem dX1_init_22 : decode cX1_init 22 = .ok (.aload_n 0, 1) := by decide +kernel
theorem dX1_init_23 : decode cX1_init 23 = .ok (.iconst 0, 1) := by decide +kernel
theorem dX1_init_24 : decode cX1_init 24 = .ok (.putfield 22, 3) := by decide +kernel
theorem dX1_init_27 : decode cX1_init 27 = .ok (.return_, 1) := by decide +kernel
set_option maxRecDepth 20000 in
theorem ggX1_take_X2_letterAt : GoodIn wsX1_take wsX2_letterAt := goodIn_r _ [11, 12, 13, 14, 15, 16, 24, 25, 26, 27, 28, 29, 30, 31, 32, 33, 34, 35] rfl rfl
set_option maxRecDepth 20000 in
theorem gX1_take_X2_letterAt : GoodIn wsX1_take (wsV RX1 30 RX2 yX2_letterAt wsX2_letterAt) := goodIn_app (goodIn_r _ [7, 8, 9, 10] rfl rfl) ggX1_take_X2_letterAt
set_option maxRecDepth 20000 in
theorem ggX1_take_X3_put : GoodIn wsX1_take wsX3_put := goodIn_r _ [19] rfl rfl
set_option maxRecDepth 20000 in
theorem gX1_take_X3_put : GoodIn wsX1_take (va_wsS RX1 34 yX3_put wsX3_put) := goodIn_app (goodIn_r _ [17, 18, 15] rfl rfl) ggX1_take_X3_put
theorem dX1_take_0 : decode cX1_take 0 = .ok (.aload_n 0, 1) := by decide +kernel
theorem dX1_take_1 : decode cX1_take 1 = .ok (.iconst 1, 1) := by decide +kernel
theorem dX1_take_2 : decode cX1_take 2 = .ok (.putfield 22, 3) := by decide +kernel
theorem dX1_take_5 : decode cX1_take 5 = .ok (.aload_n 0, 1) := by decide +kernel
theorem dX1_take_6 : decode cX1_take 6 = .ok (.aload_n 1, 1) := by decide +kernel
theorem dX1_take_7 : decode cX1_take 7 = .ok (.getfield 26, 3) := by decide +kernel
theorem dX1_take_10 : decode cX1_take 10 = .ok (.putfield 15, 3) := by decide +kernel
theorem dX1_take_13 : decode cX1_take 13 = .ok (.aload_n 0, 1) := by decide +kernel
theorem dX1_take_14 : decode cX1_take 14 = .ok (.aload_n 1, 1) := by decide +kernel
theorem dX1_take_15 : decode cX1_take 15 = .ok (.getfield 29, 3) := by decide +kernel
theorem dX1_take_18 : decode cX1_take 18 = .ok (.putfield 19, 3) := by decide +kernel
theorem dX1_take_21 : decode cX1_take 21 = .ok (.iconst 0, 1) := by decide +kernel
theorem dX1_take_22 : decode cX1_take 22 = .ok (.istore_n 2, 1) := by decide +kernel
theorem dX1_take_23 : decode cX1_take 23 = .ok (.iload_n 2, 1) := by decide +kernel
theorem dX1_take_24 : decode cX1_take 24 = .ok (.aload_n 0, 1) := by decide +kernel
theorem dX1_take_25 : decode cX1_take 25 = .ok (.getfield 19, 3) := by decide +kernel
theorem dX1_take_28 : decode cX1_take 28 = .ok (.if_icmp .ge 22, 3) := by decide +kernel
theorem dX1_take_31 : decode cX1_take 31 = .ok (.aload_n 0, 1) := by decide +kernel
theorem dX1_take_32 : decode cX1_take 32 = .ok (.getfield 9, 3) := by decide +kernel
theorem dX1_take_35 : decode cX1_take 35 = .ok (.iload_n 2, 1) := by decide +kernel
theorem dX1_take_36 : decode cX1_take 36 = .ok (.aload_n 1, 1) := by decide +kernel
theorem dX1_take_37 : decode cX1_take 37 = .ok (.iload_n 2, 1) := by decide +kernel
theorem dX1_take_38 : decode cX1_take 38 = .ok (.invokevirtual 30, 3) := by decide +kernel
theorem dX1_take_41 : decode cX1_take 41 = .ok (.invokestatic 34, 3) := by decide +kernel
theorem dX1_take_44 : decode cX1_take 44 = .ok (.iinc 2 1, 3) := by decide +kernel
theorem dX1_take_47 : decode cX1_take 47 = .ok (.goto (-24), 3) := by decide +kernel
theorem dX1_take_50 : decode cX1_take 50 = .ok (.return_, 1) := by decide +kernel
set_option maxRecDepth 20000 in
theorem ggX1_giveBack_X2_startOver : GoodIn wsX1_giveBack wsX2_startOver := goodIn_r _ [8, 9, 10, 11, 12, 13, 14, 15, 16, 17, 7, 18, 19, 20, 21, 22, 23, 24, 25, 26, 27, 28, 29, 30, 31, 32, 33, 34, 91, 92, 93, 94, 95, 96, 97, 98, 99, 100, 101, 102] rfl rfl
set_option maxRecDepth 20000 in
theorem gX1_giveBack_X2_startOver : GoodIn wsX1_giveBack (wsV RX1 40 RX2 yX2_startOver wsX2_startOver) := goodIn_app (goodIn_r _ [4, 5, 6, 7] rfl rfl) ggX1_giveBack_X2_startOver
set_option maxRecDepth 20000 in
theorem ggX1_giveBack_X3_at : GoodIn wsX1_giveBack wsX3_at := goodIn_r _ [37] rfl rfl
set_option maxRecDepth 20000 in
theorem gX1_giveBack_X3_at : GoodIn wsX1_giveBack (va_wsS RX1 44 yX3_at wsX3_at) := goodIn_app (goodIn_r _ [35, 36, 25] rfl rfl) ggX1_giveBack_X3_at
set_option maxRecDepth 20000 in
theorem ggX1_giveBack_X2_append : GoodIn wsX1_giveBack wsX2_append := goodIn_r _ [41, 42, 10, 12, 20, 14, 43, 44, 45, 7, 46, 9, 47, 48, 49, 50, 23, 24, 25, 26, 15, 16, 17, 18, 11, 19, 21, 22, 13, 27, 28, 29, 30, 31, 32, 33, 34, 51, 52, 53, 54, 55, 56, 57, 58, 59, 60, 61, 62, 63, 36, 37, 64, 65, 66, 67, 68, 69, 70, 71, 72, 73, 74, 75, 76, 77, 78, 79, 80, 81, 82, 83, 84, 85, 86, 91, 92, 93, 94, 95, 96, 97, 98, 99, 100, 101, 102] rfl rfl
set_option maxRecDepth 20000 in
theorem gX1_giveBack_X2_append : GoodIn wsX1_giveBack (wsV RX1 48 RX2 yX2_append wsX2_append) := goodIn_app (goodIn_r _ [38, 39, 40, 7] rfl rfl) ggX1_giveBack_X2_append
theorem dX1_giveBack_0 : decode cX1_giveBack 0 = .ok (.aload_n 1, 1) := by decide +kernel
theorem dX1_giveBack_1 : decode cX1_giveBack 1 = .ok (.aload_n 0, 1) := by decide +kernel
theorem dX1_giveBack_2 : decode cX1_giveBack 2 = .ok (.getfield 15, 3) := by decide +kernel
theorem dX1_giveBack_5 : decode cX1_giveBack 5 = .ok (.invokevirtual 40, 3) := by decide +kernel
theorem dX1_giveBack_8 : decode cX1_giveBack 8 = .ok (.iconst 0, 1) := by decide +kernel
theorem dX1_giveBack_9 : decode cX1_giveBack 9 = .ok (.istore_n 2, 1) := by decide +kernel
theorem dX1_giveBack_10 : decode cX1_giveBack 10 = .ok (.iload_n 2, 1) := by decide +kernel
theorem dX1_giveBack_11 : decode cX1_giveBack 11 = .ok (.aload_n 0, 1) := by decide +kernel
theorem dX1_giveBack_12 : decode cX1_giveBack 12 = .ok (.getfield 19, 3) := by decide +kernel
theorem dX1_giveBack_15 : decode cX1_giveBack 15 = .ok (.if_icmp .ge 21, 3) := by decide +kernel
theorem dX1_giveBack_18 : decode cX1_giveBack 18 = .ok (.aload_n 1, 1) := by decide +kernel
theorem dX1_giveBack_19 : decode cX1_giveBack 19 = .ok (.aload_n 0, 1) := by decide +kernel
theorem dX1_giveBack_20 : decode cX1_giveBack 20 = .ok (.getfield 9, 3) := by decide +kernel
theorem dX1_giveBack_23 : decode cX1_giveBack 23 = .ok (.iload_n 2, 1) := by decide +kernel
theorem dX1_giveBack_24 : decode cX1_giveBack 24 = .ok (.invokestatic 44, 3) := by decide +kernel
theorem dX1_giveBack_27 : decode cX1_giveBack 27 = .ok (.invokevirtual 48, 3) := by decide +kernel
theorem dX1_giveBack_30 : decode cX1_giveBack 30 = .ok (.iinc 2 1, 3) := by decide +kernel
theorem dX1_giveBack_33 : decode cX1_giveBack 33 = .ok (.goto (-23), 3) := by decide +kernel
theorem dX1_giveBack_36 : decode cX1_giveBack 36 = .ok (.return_, 1) := by decide +kernel
set_option maxRecDepth 20000 in
theorem ggX2_init_X2_startOver : GoodIn wsX2_init wsX2_startOver := goodIn_r _ [18, 19, 20, 21, 22, 13, 6, 23, 24, 25, 17, 26, 8, 9, 10, 11, 27, 28, 29, 30, 31, 32, 33, 34, 35, 36, 37, 7, 38, 39, 40, 41, 42, 43, 44, 45, 46, 47, 48, 49] rfl rfl
set_option maxRecDepth 20000 in
theorem gX2_init_X2_startOver : GoodIn wsX2_init (wsV RX2 37 RX2 yX2_startOver wsX2_startOver) := goodIn_app (goodIn_r _ [14, 15, 16, 17] rfl rfl) ggX2_init_X2_startOver
theorem dX2_init_0 : decode cX2_init 0 = .ok (.aload_n 0, 1) := by decide +kernel
theorem dX2_init_1 : decode cX2_init 1 = .ok (.invokespecial 3, 3) := by decide +kernel
theorem dX2_init_4 : decode cX2_init 4 = .ok (.aload_n 0, 1) := by decide +kernel
theorem dX2_init_5 : decode cX2_init 5 = .ok (.bipush 60, 2) := by decide +kernel
theorem dX2_init_7 : decode cX2_init 7 = .ok (.newarray .int, 2) := by decide +kernel
theorem dX2_init_9 : decode cX2_init 9 = .ok (.putfield 9, 3) := by decide +kernel
theorem dX2_init_12 : decode cX2_init 12 = .ok (.aload_n 0, 1) := by decide +kernel
theorem dX2_init_13 : decode cX2_init 13 = .ok (.bipush 61, 2) := by decide +kernel
theorem dX2_init_15 : decode cX2_init 15 = .ok (.newarray .int, 2) := by decide +kernel
theorem dX2_init_17 : decode cX2_init 17 = .ok (.putfield 15, 3) := by decide +kernel
theorem dX2_init_20 : decode cX2_init 20 = .ok (.aload_n 0, 1) := by decide +kernel
theorem dX2_init_21 : decode cX2_init 21 = .ok (.sipush 605, 3) := by decide +kernel
theorem dX2_init_24 : decode cX2_init 24 = .ok (.newarray .int, 2) := by decide +kernel
theorem dX2_init_26 : decode cX2_init 26 = .ok (.putfield 18, 3) := by decide +kernel
theorem dX2_init_29 : decode cX2_init 29 = .ok (.aload_n 0, 1) := by decide +kernel
theorem dX2_init_30 : decode cX2_init 30 = .ok (.bipush 121, 2) := by decide +kernel
theorem dX2_init_32 : decode cX2_init 32 = .ok (.newarray .int, 2) := by decide +kernel
theorem dX2_init_34 : decode cX2_init 34 = .ok (.putfield 21, 3) := by decide +kernel
theorem dX2_init_37 : decode cX2_init 37 = .ok (.aload_n 0, 1) := by decide +kernel
theorem dX2_init_38 : decode cX2_init 38 = .ok (.bipush 121, 2) := by decide +kernel
theorem dX2_init_40 : decode cX2_init 40 = .ok (.newarray .int, 2) := by decide +kernel
theorem dX2_init_42 : decode cX2_init 42 = .ok (.putfield 24, 3) := by decide +kernel
theorem dX2_init_45 : decode cX2_init 45 = .ok (.aload_n 0, 1) := by decide +kernel
theorem dX2_init_46 : decode cX2_init 46 = .ok (.bipush 121, 2) := by decide +kernel
theorem dX2_init_48 : decode cX2_init 48 = .ok (.newarray .int, 2) := by decide +kernel
theorem dX2_init_50 : decode cX2_init 50 = .ok (.putfield 27, 3) := by decide +kernel
theorem dX2_init_53 : decode cX2_init 53 = .ok (.aload_n 0, 1) := by decide +kernel
theorem dX2_init_54 : decode cX2_init 54 = .ok (.bipush 121, 2) := by decide +kernel
theorem dX2_init_56 : decode cX2_init 56 = .ok (.newarray .int, 2) := by decide +kernel
theorem dX2_init_58 : decode cX2_init 58 = .ok (.putfield 30, 3) := by decide +kernel
theorem dX2_init_61 : decode cX2_init 61 = .ok (.aload_n 0, 1) := by decide +kernel
theorem dX2_init_62 : decode cX2_init 62 = .ok (.bipush 121, 2) := by decide +kernel
theorem dX2_init_64 : decode cX2_init 64 = .ok (.newarray .long, 2) := by decide +kernel
theorem dX2_init_66 : decode cX2_init 66 = .ok (.putfield 33, 3) := by decide +kernel
theorem dX2_init_69 : decode cX2_init 69 = .ok (.aload_n 0, 1) := by decide +kernel
theorem dX2_init_70 : decode cX2_init 70 = .ok (.iconst 2, 1) := by decide +kernel
theorem dX2_init_71 : decode cX2_init 71 = .ok (.invokevirtual 37, 3) := by decide +kernel
theorem dX2_init_74 : decode cX2_init 74 = .ok (.return_, 1) := by decide +kernel
set_option maxRecDepth 20000 in
theorem ggX2_startOver_X2_addState : GoodIn wsX2_startOver wsX2_addState := goodIn_r _ [11, 3, 12, 13, 14, 2, 15, 5, 16, 17, 18, 19, 20, 21, 22, 23, 24, 25, 10, 26, 27, 28, 29, 30, 31, 32, 33, 34, 35, 36, 37, 38, 39] rfl rfl
set_option maxRecDepth 20000 in
theorem gX2_startOver_X2_addState : GoodIn wsX2_startOver (wsV RX2 51 RX2 yX2_addState wsX2_addState) := goodIn_app (goodIn_r _ [7, 8, 9, 10] rfl rfl) ggX2_startOver_X2_addState
set_option maxRecDepth 20000 in
theorem ggX2_startOver_X3_put_ : GoodIn wsX2_startOver wsX3_put_ := goodIn_r _ [22] rfl rfl
set_option maxRecDepth 20000 in
theorem gX2_startOver_X3_put_ : GoodIn wsX2_startOver (va_wsS RX2 58 yX3_put_ wsX3_put_) := goodIn_app (goodIn_r _ [20, 21, 18] rfl rfl) ggX2_startOver_X3_put_
set_option maxRecDepth 20000 in
theorem ggX2_startOver_X3_put : GoodIn wsX2_startOver wsX3_put := goodIn_r _ [19] rfl rfl
set_option maxRecDepth 20000 in
theorem gX2_startOver_X3_put : GoodIn wsX2_startOver (va_wsS RX2 64 yX3_put wsX3_put) := goodIn_app (goodIn_r _ [16, 17, 18] rfl rfl) ggX2_startOver_X3_put
theorem dX2_startOver_0 : decode cX2_startOver 0 = .ok (.aload_n 0, 1) := by decide +kernel
theorem dX2_startOver_1 : decode cX2_startOver 1 = .ok (.iload_n 1, 1) := by decide +kernel
theorem dX2_startOver_2 : decode cX2_startOver 2 = .ok (.putfield 41, 3) := by decide +kernel
theorem dX2_startOver_5 : decode cX2_startOver 5 = .ok (.aload_n 0, 1) := by decide +kernel
theorem dX2_startOver_6 : decode cX2_startOver 6 = .ok (.iconst 0, 1) := by decide +kernel
theorem dX2_startOver_7 : decode cX2_startOver 7 = .ok (.putfield 45, 3) := by decide +kernel
theorem dX2_startOver_10 : decode cX2_startOver 10 = .ok (.aload_n 0, 1) := by decide +kernel
theorem dX2_startOver_11 : decode cX2_startOver 11 = .ok (.iconst 0, 1) := by decide +kernel
theorem dX2_startOver_12 : decode cX2_startOver 12 = .ok (.putfield 48, 3) := by decide +kernel
theorem dX2_startOver_15 : decode cX2_startOver 15 = .ok (.aload_n 0, 1) := by decide +kernel
theorem dX2_startOver_16 : decode cX2_startOver 16 = .ok (.aload_n 0, 1) := by decide +kernel
theorem dX2_startOver_17 : decode cX2_startOver 17 = .ok (.iconst 0, 1) := by decide +kernel
theorem dX2_startOver_18 : decode cX2_startOver 18 = .ok (.invokevirtual 51, 3) := by decide +kernel
theorem dX2_startOver_21 : decode cX2_startOver 21 = .ok (.putfield 55, 3) := by decide +kernel
theorem dX2_startOver_24 : decode cX2_startOver 24 = .ok (.aload_n 0, 1) := by decide +kernel
theorem dX2_startOver_25 : decode cX2_startOver 25 = .ok (.getfield 33, 3) := by decide +kernel
theorem dX2_startOver_28 : decode cX2_startOver 28 = .ok (.aload_n 0, 1) := by decide +kernel
theorem dX2_startOver_29 : decode cX2_startOver 29 = .ok (.getfield 55, 3) := by decide +kernel
theorem dX2_startOver_32 : decode cX2_startOver 32 = .ok (.lconst 1, 1) := by decide +kernel
theorem dX2_startOver_33 : decode cX2_startOver 33 = .ok (.invokestatic 58, 3) := by decide +kernel
theorem dX2_startOver_36 : decode cX2_startOver 36 = .ok (.aload_n 0, 1) := by decide +kernel
theorem dX2_startOver_37 : decode cX2_startOver 37 = .ok (.getfield 15, 3) := by decide +kernel
theorem dX2_startOver_40 : decode cX2_startOver 40 = .ok (.iconst 0, 1) := by decide +kernel
theorem dX2_startOver_41 : decode cX2_startOver 41 = .ok (.iconst (-1), 1) := by decide +kernel
theorem dX2_startOver_42 : decode cX2_startOver 42 = .ok (.invokestatic 64, 3) := by decide +kernel
theorem dX2_startOver_45 : decode cX2_startOver 45 = .ok (.return_, 1) := by decide +kernel
set_option maxRecDepth 20000 in
theorem ggX2_shortenTo_X2_startOver : GoodIn wsX2_shortenTo wsX2_startOver := goodIn_r _ [6, 1, 7, 8, 9, 10, 11, 12, 13, 14, 5, 15, 16, 17, 18, 19, 20, 21, 22, 23, 24, 25, 26, 27, 28, 29, 30, 31, 87, 88, 89, 90, 91, 92, 93, 94, 95, 96, 97, 98] rfl rfl
set_option maxRecDepth 20000 in
theorem gX2_shortenTo_X2_startOver : GoodIn wsX2_shortenTo (wsV RX2 37 RX2 yX2_startOver wsX2_startOver) := goodIn_app (goodIn_r _ [2, 3, 4, 5] rfl rfl) ggX2_shortenTo_X2_startOver
set_option maxRecDepth 20000 in
theorem ggX2_shortenTo_X2_letterAt : GoodIn wsX2_shortenTo wsX2_letterAt := goodIn_r _ [35, 36, 37, 38, 22, 39, 87, 88, 89, 90, 91, 92, 93, 94, 95, 96, 97, 98] rfl rfl
set_option maxRecDepth 20000 in
theorem gX2_shortenTo_X2_letterAt : GoodIn wsX2_shortenTo (wsV RX2 67 RX2 yX2_letterAt wsX2_letterAt) := goodIn_app (goodIn_r _ [32, 33, 34, 5] rfl rfl) ggX2_shortenTo_X2_letterAt
set_option maxRecDepth 20000 in
theorem ggX2_shortenTo_X2_append : GoodIn wsX2_shortenTo wsX2_append := goodIn_r _ [43, 36, 7, 9, 17, 11, 44, 45, 46, 5, 47, 1, 48, 49, 50, 51, 20, 21, 22, 23, 12, 13, 14, 15, 8, 16, 18, 19, 10, 24, 25, 26, 27, 28, 29, 30, 31, 52, 53, 54, 55, 56, 57, 58, 59, 60, 61, 62, 63, 37, 38, 39, 64, 65, 66, 67, 68, 69, 70, 71, 72, 73, 74, 75, 76, 77, 78, 79, 80, 81, 82, 83, 84, 85, 86, 87, 88, 89, 90, 91, 92, 93, 94, 95, 96, 97, 98] rfl rfl
set_option maxRecDepth 20000 in
theorem gX2_shortenTo_X2_append : GoodIn wsX2_shortenTo (wsV RX2 70 RX2 yX2_append wsX2_append) := goodIn_app (goodIn_r _ [40, 41, 42, 5] rfl rfl) ggX2_shortenTo_X2_append
theorem dX2_shortenTo_0 : decode cX2_shortenTo 0 = .ok (.aload_n 0, 1) := by decide +kernel
theorem dX2_shortenTo_1 : decode cX2_shortenTo 1 = .ok (.aload_n 0, 1) := by decide +kernel
theorem dX2_shortenTo_2 : decode cX2_shortenTo 2 = .ok (.getfield 41, 3) := by decide +kernel
theorem dX2_shortenTo_5 : decode cX2_shortenTo 5 = .ok (.invokevirtual 37, 3) := by decide +kernel
theorem dX2_shortenTo_8 : decode cX2_shortenTo 8 = .ok (.iconst 0, 1) := by decide +kernel
theorem dX2_shortenTo_9 : decode cX2_shortenTo 9 = .ok (.istore_n 2, 1) := by decide +kernel
theorem dX2_shortenTo_10 : decode cX2_shortenTo 10 = .ok (.iload_n 2, 1) := by decide +kernel
theorem dX2_shortenTo_11 : decode cX2_shortenTo 11 = .ok (.iload_n 1, 1) := by decide +kernel
theorem dX2_shortenTo_12 : decode cX2_shortenTo 12 = .ok (.if_icmp .ge 18, 3) := by decide +kernel
theorem dX2_shortenTo_15 : decode cX2_shortenTo 15 = .ok (.aload_n 0, 1) := by decide +kernel
theorem dX2_shortenTo_16 : decode cX2_shortenTo 16 = .ok (.aload_n 0, 1) := by decide +kernel
theorem dX2_shortenTo_17 : decode cX2_shortenTo 17 = .ok (.iload_n 2, 1) := by decide +kernel
theorem dX2_shortenTo_18 : decode cX2_shortenTo 18 = .ok (.invokevirtual 67, 3) := by decide +kernel
theorem dX2_shortenTo_21 : decode cX2_shortenTo 21 = .ok (.invokevirtual 70, 3) := by decide +kernel
theorem dX2_shortenTo_24 : decode cX2_shortenTo 24 = .ok (.iinc 2 1, 3) := by decide +kernel
theorem dX2_shortenTo_27 : decode cX2_shortenTo 27 = .ok (.goto (-17), 3) := by decide +kernel
theorem dX2_shortenTo_30 : decode cX2_shortenTo 30 = .ok (.return_, 1) := by decide +kernel
set_option maxRecDepth 20000 in
theorem ggX2_append_X2_isLetter : GoodIn wsX2_append wsX2_isLetter := goodIn_r _ [10, 11, 75, 76, 77, 78, 79, 80, 81, 82, 83, 84, 85, 86] rfl rfl
set_option maxRecDepth 20000 in
theorem gX2_append_X2_isLetter : GoodIn wsX2_append (wsV RX2 73 RX2 yX2_isLetter wsX2_isLetter) := goodIn_app (goodIn_r _ [6, 7, 8, 9] rfl rfl) ggX2_append_X2_isLetter
set_option maxRecDepth 20000 in
theorem ggX2_append_X2_hasRoomFor : GoodIn wsX2_append wsX2_hasRoomFor := goodIn_r _ [15, 2, 75, 76, 77, 78, 79, 80, 81, 82, 83, 84, 85, 86] rfl rfl
set_option maxRecDepth 20000 in
theorem gX2_append_X2_hasRoomFor : GoodIn wsX2_append (wsV RX2 77 RX2 yX2_hasRoomFor wsX2_hasRoomFor) := goodIn_app (goodIn_r _ [12, 13, 14, 9] rfl rfl) ggX2_append_X2_hasRoomFor
set_option maxRecDepth 20000 in
theorem ggX2_append_X3_put : GoodIn wsX2_append wsX3_put := goodIn_r _ [19] rfl rfl
set_option maxRecDepth 20000 in
theorem gX2_append_X3_put : GoodIn wsX2_append (va_wsS RX2 64 yX3_put wsX3_put) := goodIn_app (goodIn_r _ [16, 17, 18] rfl rfl) ggX2_append_X3_put
set_option maxRecDepth 20000 in
theorem ggX2_append_X2_addState : GoodIn wsX2_append wsX2_addState := goodIn_r _ [23, 24, 25, 4, 26, 2, 27, 28, 16, 17, 18, 19, 29, 30, 31, 32, 33, 34, 9, 35, 36, 75, 76, 77, 78, 79, 80, 81, 82, 83, 84, 85, 86] rfl rfl
set_option maxRecDepth 20000 in
theorem gX2_append_X2_addState : GoodIn wsX2_append (wsV RX2 51 RX2 yX2_addState wsX2_addState) := goodIn_app (goodIn_r _ [20, 21, 22, 9] rfl rfl) ggX2_append_X2_addState
set_option maxRecDepth 20000 in
theorem ggX2_append_X2_redirect : GoodIn wsX2_append wsX2_redirect := goodIn_r _ [40, 41, 42, 43, 9, 44, 36, 45, 46, 47, 48, 24, 6, 7, 8, 10, 11, 49, 50, 18, 51, 32, 33, 34, 35, 16, 17, 19, 52, 53, 54, 55, 4, 75, 76, 77, 78, 79, 80, 81, 82, 83, 84, 85, 86] rfl rfl
set_option maxRecDepth 20000 in
theorem gX2_append_X2_redirect : GoodIn wsX2_append (wsV RX2 80 RX2 yX2_redirect wsX2_redirect) := goodIn_app (goodIn_r _ [37, 38, 39, 9] rfl rfl) ggX2_append_X2_redirect
set_option maxRecDepth 20000 in
theorem ggX2_append_X2_stateJustBehind : GoodIn wsX2_append wsX2_stateJustBehind := goodIn_r _ [59, 27, 4, 28, 11, 41, 42, 43, 9, 44, 36, 45, 46, 47, 48, 24, 6, 7, 8, 10, 49, 50, 18, 51, 60, 61, 62, 63, 25, 20, 21, 22, 23, 26, 2, 16, 17, 19, 29, 30, 31, 32, 33, 34, 35, 52, 53, 54, 55, 64, 65, 66, 67, 68, 69, 70, 37, 38, 39, 40, 75, 76, 77, 78, 79, 80, 81, 82, 83, 84, 85, 86] rfl rfl
set_option maxRecDepth 20000 in
theorem gX2_append_X2_stateJustBehind : GoodIn wsX2_append (wsV RX2 84 RX2 yX2_stateJustBehind wsX2_stateJustBehind) := goodIn_app (goodIn_r _ [56, 57, 58, 9] rfl rfl) ggX2_append_X2_stateJustBehind
set_option maxRecDepth 20000 in
theorem ggX2_append_X2_markEnd : GoodIn wsX2_append wsX2_markEnd := goodIn_r _ [74, 2, 3, 28, 64, 65, 66, 9, 67, 45, 46, 47, 48, 24, 68, 69, 18, 70, 29, 30, 31, 52, 53, 54, 55, 4, 49, 50, 51, 75, 76, 77, 78, 79, 80, 81, 82, 83, 84, 85, 86] rfl rfl
set_option maxRecDepth 20000 in
theorem gX2_append_X2_markEnd : GoodIn wsX2_append (wsV RX2 88 RX2 yX2_markEnd wsX2_markEnd) := goodIn_app (goodIn_r _ [71, 72, 73, 9] rfl rfl) ggX2_append_X2_markEnd
set_option maxRecDepth 20000 in
theorem ggX2_append_X2_linkOf : GoodIn wsX2_append wsX2_linkOf := goodIn_r _ [55, 4, 45, 46, 47, 9, 48, 24, 49, 50, 18, 51, 75, 76, 77, 78, 79, 80, 81, 82, 83, 84, 85, 86] rfl rfl
set_option maxRecDepth 20000 in
theorem gX2_append_X2_linkOf : GoodIn wsX2_append (wsV RX2 91 RX2 yX2_linkOf wsX2_linkOf) := goodIn_app (goodIn_r _ [52, 53, 54, 9] rfl rfl) ggX2_append_X2_linkOf
set_option maxRecDepth 20000 in
theorem ggX2_append_X2_longestOf : GoodIn wsX2_append wsX2_longestOf := goodIn_r _ [63, 25, 49, 50, 18, 51, 75, 76, 77, 78, 79, 80, 81, 82, 83, 84, 85, 86] rfl rfl
set_option maxRecDepth 20000 in
theorem gX2_append_X2_longestOf : GoodIn wsX2_append (wsV RX2 94 RX2 yX2_longestOf wsX2_longestOf) := goodIn_app (goodIn_r _ [60, 61, 62, 9] rfl rfl) ggX2_append_X2_longestOf
theorem dX2_append_0 : decode cX2_append 0 = .ok (.aload_n 0, 1) := by decide +kernel
theorem dX2_append_1 : decode cX2_append 1 = .ok (.iload_n 1, 1) := by decide +kernel
theorem dX2_append_2 : decode cX2_append 2 = .ok (.invokevirtual 73, 3) := by decide +kernel
theorem dX2_append_5 : decode cX2_append 5 = .ok (.ifCond .eq 11, 3) := by decide +kernel
theorem dX2_append_8 : decode cX2_append 8 = .ok (.aload_n 0, 1) := by decide +kernel
theorem dX2_append_9 : decode cX2_append 9 = .ok (.iconst 1, 1) := by decide +kernel
theorem dX2_append_10 : decode cX2_append 10 = .ok (.invokevirtual 77, 3) := by decide +kernel
theorem dX2_append_13 : decode cX2_append 13 = .ok (.ifCond .ne 4, 3) := by decide +kernel
theorem dX2_append_16 : decode cX2_append 16 = .ok (.return_, 1) := by decide +kernel
theorem dX2_append_17 : decode cX2_append 17 = .ok (.aload_n 0, 1) := by decide +kernel
theorem dX2_append_18 : decode cX2_append 18 = .ok (.getfield 9, 3) := by decide +kernel
theorem dX2_append_21 : decode cX2_append 21 = .ok (.aload_n 0, 1) := by decide +kernel
theorem dX2_append_22 : decode cX2_append 22 = .ok (.getfield 45, 3) := by decide +kernel
theorem dX2_append_25 : decode cX2_append 25 = .ok (.iload_n 1, 1) := by decide +kernel
theorem dX2_append_26 : decode cX2_append 26 = .ok (.invokestatic 64, 3) := by decide +kernel
theorem dX2_append_29 : decode cX2_append 29 = .ok (.aload_n 0, 1) := by decide +kernel
theorem dX2_append_30 : decode cX2_append 30 = .ok (.dup, 1) := by decide +kernel
theorem dX2_append_31 : decode cX2_append 31 = .ok (.getfield 45, 3) := by decide +kernel
theorem dX2_append_34 : decode cX2_append 34 = .ok (.iconst 1, 1) := by decide +kernel
theorem dX2_append_35 : decode cX2_append 35 = .ok (.iadd, 1) := by decide +kernel
theorem dX2_append_36 : decode cX2_append 36 = .ok (.putfield 45, 3) := by decide +kernel
theorem dX2_append_39 : decode cX2_append 39 = .ok (.aload_n 0, 1) := by decide +kernel
theorem dX2_append_40 : decode cX2_append 40 = .ok (.aload_n 0, 1) := by decide +kernel
theorem dX2_append_41 : decode cX2_append 41 = .ok (.getfield 45, 3) := by decide +kernel
theorem dX2_append_44 : decode cX2_append 44 = .ok (.invokevirtual 51, 3) := by decide +kernel
theorem dX2_append_47 : decode cX2_append 47 = .ok (.istore_n 2, 1) := by decide +kernel
theorem dX2_append_48 : decode cX2_append 48 = .ok (.aload_n 0, 1) := by decide +kernel
theorem dX2_append_49 : decode cX2_append 49 = .ok (.aload_n 0, 1) := by decide +kernel
theorem dX2_append_50 : decode cX2_append 50 = .ok (.getfield 55, 3) := by decide +kernel
theorem dX2_append_53 : decode cX2_append 53 = .ok (.iload_n 1, 1) := by decide +kernel
theorem dX2_append_54 : decode cX2_append 54 = .ok (.bipush (-4), 2) := by decide +kernel
theorem dX2_append_56 : decode cX2_append 56 = .ok (.iload_n 2, 1) := by decide +kernel
theorem dX2_append_57 : decode cX2_append 57 = .ok (.invokevirtual 80, 3) := by decide +kernel
theorem dX2_append_60 : decode cX2_append 60 = .ok (.istore_n 3, 1) := by decide +kernel
theorem dX2_append_61 : decode cX2_append 61 = .ok (.aload_n 0, 1) := by decide +kernel
theorem dX2_append_62 : decode cX2_append 62 = .ok (.getfield 24, 3) := by decide +kernel
theorem dX2_append_65 : decode cX2_append 65 = .ok (.iload_n 2, 1) := by decide +kernel
theorem dX2_append_66 : decode cX2_append 66 = .ok (.iload_n 3, 1) := by decide +kernel
theorem dX2_append_67 : decode cX2_append 67 = .ok (.bipush (-4), 2) := by decide +kernel
theorem dX2_append_69 : decode cX2_append 69 = .ok (.if_icmp .ne 7, 3) := by decide +kernel
theorem dX2_append_72 : decode cX2_append 72 = .ok (.iconst 0, 1) := by decide +kernel
theorem dX2_append_73 : decode cX2_append 73 = .ok (.goto 9, 3) := by decide +kernel
theorem dX2_append_76 : decode cX2_append 76 = .ok (.aload_n 0, 1) := by decide +kernel
theorem dX2_append_77 : decode cX2_append 77 = .ok (.iload_n 3, 1) := by decide +kernel
theorem dX2_append_78 : decode cX2_append 78 = .ok (.iload_n 1, 1) := by decide +kernel
theorem dX2_append_79 : decode cX2_append 79 = .ok (.invokevirtual 84, 3) := by decide +kernel
theorem dX2_append_82 : decode cX2_append 82 = .ok (.invokestatic 64, 3) := by decide +kernel
theorem dX2_append_85 : decode cX2_append 85 = .ok (.aload_n 0, 1) := by decide +kernel
theorem dX2_append_86 : decode cX2_append 86 = .ok (.iload_n 2, 1) := by decide +kernel
theorem dX2_append_87 : decode cX2_append 87 = .ok (.putfield 55, 3) := by decide +kernel
theorem dX2_append_90 : decode cX2_append 90 = .ok (.aload_n 0, 1) := by decide +kernel
theorem dX2_append_91 : decode cX2_append 91 = .ok (.invokevirtual 88, 3) := by decide +kernel
theorem dX2_append_94 : decode cX2_append 94 = .ok (.aload_n 0, 1) := by decide +kernel
theorem dX2_append_95 : decode cX2_append 95 = .ok (.getfield 15, 3) := by decide +kernel
theorem dX2_append_98 : decode cX2_append 98 = .ok (.aload_n 0, 1) := by decide +kernel
theorem dX2_append_99 : decode cX2_append 99 = .ok (.getfield 45, 3) := by decide +kernel
theorem dX2_append_102 : decode cX2_append 102 = .ok (.aload_n 0, 1) := by decide +kernel
theorem dX2_append_103 : decode cX2_append 103 = .ok (.aload_n 0, 1) := by decide +kernel
theorem dX2_append_104 : decode cX2_append 104 = .ok (.iload_n 2, 1) := by decide +kernel
theorem dX2_append_105 : decode cX2_append 105 = .ok (.invokevirtual 91, 3) := by decide +kernel
theorem dX2_append_108 : decode cX2_append 108 = .ok (.invokevirtual 94, 3) := by decide +kernel
theorem dX2_append_111 : decode cX2_append 111 = .ok (.invokestatic 64, 3) := by decide +kernel
theorem dX2_append_114 : decode cX2_append 114 = .ok (.return_, 1) := by decide +kernel
set_option maxRecDepth 20000 in
theorem ggX2_stateJustBehind_X2_moveOf : GoodIn wsX2_stateJustBehind wsX2_moveOf := goodIn_r _ [9, 10, 11, 12, 13, 8, 14, 15, 16, 17, 18, 19, 4, 20, 21, 22, 23, 60, 61, 62, 63, 64, 65, 66, 67, 68, 69, 70, 71] rfl rfl
set_option maxRecDepth 20000 in
theorem gX2_stateJustBehind_X2_moveOf : GoodIn wsX2_stateJustBehind (wsV RX2 97 RX2 yX2_moveOf wsX2_moveOf) := goodIn_app (goodIn_r _ [5, 6, 7, 8] rfl rfl) ggX2_stateJustBehind_X2_moveOf
set_option maxRecDepth 20000 in
theorem ggX2_stateJustBehind_X2_longestOf : GoodIn wsX2_stateJustBehind wsX2_longestOf := goodIn_r _ [27, 28, 20, 21, 22, 23, 60, 61, 62, 63, 64, 65, 66, 67, 68, 69, 70, 71] rfl rfl
set_option maxRecDepth 20000 in
theorem gX2_stateJustBehind_X2_longestOf : GoodIn wsX2_stateJustBehind (wsV RX2 94 RX2 yX2_longestOf wsX2_longestOf) := goodIn_app (goodIn_r _ [24, 25, 26, 8] rfl rfl) ggX2_stateJustBehind_X2_longestOf
set_option maxRecDepth 20000 in
theorem ggX2_stateJustBehind_X2_addState : GoodIn wsX2_stateJustBehind wsX2_addState := goodIn_r _ [32, 15, 28, 2, 33, 34, 1, 3, 35, 36, 22, 37, 38, 39, 40, 41, 42, 43, 8, 44, 10, 60, 61, 62, 63, 64, 65, 66, 67, 68, 69, 70, 71] rfl rfl
set_option maxRecDepth 20000 in
theorem gX2_stateJustBehind_X2_addState : GoodIn wsX2_stateJustBehind (wsV RX2 51 RX2 yX2_addState wsX2_addState) := goodIn_app (goodIn_r _ [29, 30, 31, 8] rfl rfl) ggX2_stateJustBehind_X2_addState
set_option maxRecDepth 20000 in
theorem ggX2_stateJustBehind_X3_put : GoodIn wsX2_stateJustBehind wsX3_put := goodIn_r _ [37] rfl rfl
set_option maxRecDepth 20000 in
theorem gX2_stateJustBehind_X3_put : GoodIn wsX2_stateJustBehind (va_wsS RX2 64 yX3_put wsX3_put) := goodIn_app (goodIn_r _ [35, 36, 22] rfl rfl) ggX2_stateJustBehind_X3_put
set_option maxRecDepth 20000 in
theorem ggX2_stateJustBehind_X2_linkOf : GoodIn wsX2_stateJustBehind wsX2_linkOf := goodIn_r _ [48, 2, 11, 12, 13, 8, 14, 15, 20, 21, 22, 23, 60, 61, 62, 63, 64, 65, 66, 67, 68, 69, 70, 71] rfl rfl
set_option maxRecDepth 20000 in
theorem gX2_stateJustBehind_X2_linkOf : GoodIn wsX2_stateJustBehind (wsV RX2 91 RX2 yX2_linkOf wsX2_linkOf) := goodIn_app (goodIn_r _ [45, 46, 47, 8] rfl rfl) ggX2_stateJustBehind_X2_linkOf
set_option maxRecDepth 20000 in
theorem ggX2_stateJustBehind_X2_endsOf : GoodIn wsX2_stateJustBehind wsX2_endsOf := goodIn_r _ [52, 3, 11, 12, 13, 8, 14, 15, 53, 54, 22, 55, 60, 61, 62, 63, 64, 65, 66, 67, 68, 69, 70, 71] rfl rfl
set_option maxRecDepth 20000 in
theorem gX2_stateJustBehind_X2_endsOf : GoodIn wsX2_stateJustBehind (wsV RX2 100 RX2 yX2_endsOf wsX2_endsOf) := goodIn_app (goodIn_r _ [49, 50, 51, 8] rfl rfl) ggX2_stateJustBehind_X2_endsOf
set_option maxRecDepth 20000 in
theorem ggX2_stateJustBehind_X3_put_ : GoodIn wsX2_stateJustBehind wsX3_put_ := goodIn_r _ [40] rfl rfl
set_option maxRecDepth 20000 in
theorem gX2_stateJustBehind_X3_put_ : GoodIn wsX2_stateJustBehind (va_wsS RX2 58 yX3_put_ wsX3_put_) := goodIn_app (goodIn_r _ [38, 39, 22] rfl rfl) ggX2_stateJustBehind_X3_put_
set_option maxRecDepth 20000 in
theorem ggX2_stateJustBehind_X2_setMove : GoodIn wsX2_stateJustBehind wsX2_setMove := goodIn_r _ [44, 10, 35, 36, 22, 37, 60, 61, 62, 63, 64, 65, 66, 67, 68, 69, 70, 71] rfl rfl
set_option maxRecDepth 20000 in
theorem gX2_stateJustBehind_X2_setMove : GoodIn wsX2_stateJustBehind (wsV RX2 104 RX2 yX2_setMove wsX2_setMove) := goodIn_app (goodIn_r _ [41, 42, 43, 8] rfl rfl) ggX2_stateJustBehind_X2_setMove
set_option maxRecDepth 20000 in
theorem ggX2_stateJustBehind_X2_redirect : GoodIn wsX2_stateJustBehind wsX2_redirect := goodIn_r _ [59, 5, 6, 7, 8, 9, 10, 11, 12, 13, 14, 15, 16, 17, 18, 19, 4, 20, 21, 22, 23, 41, 42, 43, 44, 35, 36, 37, 45, 46, 47, 48, 2, 60, 61, 62, 63, 64, 65, 66, 67, 68, 69, 70, 71] rfl rfl
set_option maxRecDepth 20000 in
theorem gX2_stateJustBehind_X2_redirect : GoodIn wsX2_stateJustBehind (wsV RX2 80 RX2 yX2_redirect wsX2_redirect) := goodIn_app (goodIn_r _ [56, 57, 58, 8] rfl rfl) ggX2_stateJustBehind_X2_redirect
theorem dX2_stateJustBehind_0 : decode cX2_stateJustBehind 0 = .ok (.aload_n 0, 1) := by decide +kernel
theorem dX2_stateJustBehind_1 : decode cX2_stateJustBehind 1 = .ok (.iload_n 1, 1) := by decide +kernel
theorem dX2_stateJustBehind_2 : decode cX2_stateJustBehind 2 = .ok (.iload_n 2, 1) := by decide +kernel
theorem dX2_stateJustBehind_3 : decode cX2_stateJustBehind 3 = .ok (.invokevirtual 97, 3) := by decide +kernel
theorem dX2_stateJustBehind_6 : decode cX2_stateJustBehind 6 = .ok (.istore_n 3, 1) := by decide +kernel
theorem dX2_stateJustBehind_7 : decode cX2_stateJustBehind 7 = .ok (.aload_n 0, 1) := by decide +kernel
theorem dX2_stateJustBehind_8 : decode cX2_stateJustBehind 8 = .ok (.iload_n 1, 1) := by decide +kernel
theorem dX2_stateJustBehind_9 : decode cX2_stateJustBehind 9 = .ok (.invokevirtual 94, 3) := by decide +kernel
theorem dX2_stateJustBehind_12 : decode cX2_stateJustBehind 12 = .ok (.iconst 1, 1) := by decide +kernel
theorem dX2_stateJustBehind_13 : decode cX2_stateJustBehind 13 = .ok (.iadd, 1) := by decide +kernel
theorem dX2_stateJustBehind_14 : decode cX2_stateJustBehind 14 = .ok (.istore 4, 2) := by decide +kernel
theorem dX2_stateJustBehind_16 : decode cX2_stateJustBehind 16 = .ok (.aload_n 0, 1) := by decide +kernel
theorem dX2_stateJustBehind_17 : decode cX2_stateJustBehind 17 = .ok (.iload_n 3, 1) := by decide +kernel
theorem dX2_stateJustBehind_18 : decode cX2_stateJustBehind 18 = .ok (.invokevirtual 94, 3) := by decide +kernel
theorem dX2_stateJustBehind_21 : decode cX2_stateJustBehind 21 = .ok (.iload 4, 2) := by decide +kernel
theorem dX2_stateJustBehind_23 : decode cX2_stateJustBehind 23 = .ok (.if_icmp .ne 5, 3) := by decide +kernel
theorem dX2_stateJustBehind_26 : decode cX2_stateJustBehind 26 = .ok (.iload_n 3, 1) := by decide +kernel
theorem dX2_stateJustBehind_27 : decode cX2_stateJustBehind 27 = .ok (.ireturn, 1) := by decide +kernel
theorem dX2_stateJustBehind_28 : decode cX2_stateJustBehind 28 = .ok (.aload_n 0, 1) := by decide +kernel
theorem dX2_stateJustBehind_29 : decode cX2_stateJustBehind 29 = .ok (.iload 4, 2) := by decide +kernel
theorem dX2_stateJustBehind_31 : decode cX2_stateJustBehind 31 = .ok (.invokevirtual 51, 3) := by decide +kernel
theorem dX2_stateJustBehind_34 : decode cX2_stateJustBehind 34 = .ok (.istore 5, 2) := by decide +kernel
theorem dX2_stateJustBehind_36 : decode cX2_stateJustBehind 36 = .ok (.aload_n 0, 1) := by decide +kernel
theorem dX2_stateJustBehind_37 : decode cX2_stateJustBehind 37 = .ok (.getfield 30, 3) := by decide +kernel
theorem dX2_stateJustBehind_40 : decode cX2_stateJustBehind 40 = .ok (.iload 5, 2) := by decide +kernel
theorem dX2_stateJustBehind_42 : decode cX2_stateJustBehind 42 = .ok (.iload_n 3, 1) := by decide +kernel
theorem dX2_stateJustBehind_43 : decode cX2_stateJustBehind 43 = .ok (.invokestatic 64, 3) := by decide +kernel
theorem dX2_stateJustBehind_46 : decode cX2_stateJustBehind 46 = .ok (.aload_n 0, 1) := by decide +kernel
theorem dX2_stateJustBehind_47 : decode cX2_stateJustBehind 47 = .ok (.getfield 24, 3) := by decide +kernel
theorem dX2_stateJustBehind_50 : decode cX2_stateJustBehind 50 = .ok (.iload 5, 2) := by decide +kernel
theorem dX2_stateJustBehind_52 : decode cX2_stateJustBehind 52 = .ok (.aload_n 0, 1) := by decide +kernel
theorem dX2_stateJustBehind_53 : decode cX2_stateJustBehind 53 = .ok (.iload_n 3, 1) := by decide +kernel
theorem dX2_stateJustBehind_54 : decode cX2_stateJustBehind 54 = .ok (.invokevirtual 91, 3) := by decide +kernel
theorem dX2_stateJustBehind_57 : decode cX2_stateJustBehind 57 = .ok (.invokestatic 64, 3) := by decide +kernel
theorem dX2_stateJustBehind_60 : decode cX2_stateJustBehind 60 = .ok (.aload_n 0, 1) := by decide +kernel
theorem dX2_stateJustBehind_61 : decode cX2_stateJustBehind 61 = .ok (.getfield 33, 3) := by decide +kernel
theorem dX2_stateJustBehind_64 : decode cX2_stateJustBehind 64 = .ok (.iload 5, 2) := by decide +kernel
theorem dX2_stateJustBehind_66 : decode cX2_stateJustBehind 66 = .ok (.aload_n 0, 1) := by decide +kernel
theorem dX2_stateJustBehind_67 : decode cX2_stateJustBehind 67 = .ok (.iload_n 3, 1) := by decide +kernel
theorem dX2_stateJustBehind_68 : decode cX2_stateJustBehind 68 = .ok (.invokevirtual 100, 3) := by decide +kernel
theorem dX2_stateJustBehind_71 : decode cX2_stateJustBehind 71 = .ok (.invokestatic 58, 3) := by decide +kernel
theorem dX2_stateJustBehind_74 : decode cX2_stateJustBehind 74 = .ok (.iconst 0, 1) := by decide +kernel
theorem dX2_stateJustBehind_75 : decode cX2_stateJustBehind 75 = .ok (.istore 6, 2) := by decide +kernel
theorem dX2_stateJustBehind_77 : decode cX2_stateJustBehind 77 = .ok (.iload 6, 2) := by decide +kernel
theorem dX2_stateJustBehind_79 : decode cX2_stateJustBehind 79 = .ok (.aload_n 0, 1) := by decide +kernel
theorem dX2_stateJustBehind_80 : decode cX2_stateJustBehind 80 = .ok (.getfield 41, 3) := by decide +kernel
theorem dX2_stateJustBehind_83 : decode cX2_stateJustBehind 83 = .ok (.if_icmp .ge 24, 3) := by decide +kernel
theorem dX2_stateJustBehind_86 : decode cX2_stateJustBehind 86 = .ok (.aload_n 0, 1) := by decide +kernel
theorem dX2_stateJustBehind_87 : decode cX2_stateJustBehind 87 = .ok (.iload 5, 2) := by decide +kernel
theorem dX2_stateJustBehind_89 : decode cX2_stateJustBehind 89 = .ok (.iload 6, 2) := by decide +kernel
theorem dX2_stateJustBehind_91 : decode cX2_stateJustBehind 91 = .ok (.aload_n 0, 1) := by decide +kernel
theorem dX2_stateJustBehind_92 : decode cX2_stateJustBehind 92 = .ok (.iload_n 3, 1) := by decide +kernel
theorem dX2_stateJustBehind_93 : decode cX2_stateJustBehind 93 = .ok (.iload 6, 2) := by decide +kernel
theorem dX2_stateJustBehind_95 : decode cX2_stateJustBehind 95 = .ok (.invokevirtual 97, 3) := by decide +kernel
theorem dX2_stateJustBehind_98 : decode cX2_stateJustBehind 98 = .ok (.invokevirtual 104, 3) := by decide +kernel
theorem dX2_stateJustBehind_101 : decode cX2_stateJustBehind 101 = .ok (.iinc 6 1, 3) := by decide +kernel
theorem dX2_stateJustBehind_104 : decode cX2_stateJustBehind 104 = .ok (.goto (-27), 3) := by decide +kernel
theorem dX2_stateJustBehind_107 : decode cX2_stateJustBehind 107 = .ok (.aload_n 0, 1) := by decide +kernel
theorem dX2_stateJustBehind_108 : decode cX2_stateJustBehind 108 = .ok (.getfield 24, 3) := by decide +kernel
theorem dX2_stateJustBehind_111 : decode cX2_stateJustBehind 111 = .ok (.iload_n 3, 1) := by decide +kernel
theorem dX2_stateJustBehind_112 : decode cX2_stateJustBehind 112 = .ok (.iload 5, 2) := by decide +kernel
theorem dX2_stateJustBehind_114 : decode cX2_stateJustBehind 114 = .ok (.invokestatic 64, 3) := by decide +kernel
theorem dX2_stateJustBehind_117 : decode cX2_stateJustBehind 117 = .ok (.aload_n 0, 1) := by decide +kernel
theorem dX2_stateJustBehind_118 : decode cX2_stateJustBehind 118 = .ok (.iload_n 1, 1) := by decide +kernel
theorem dX2_stateJustBehind_119 : decode cX2_stateJustBehind 119 = .ok (.iload_n 2, 1) := by decide +kernel
theorem dX2_stateJustBehind_120 : decode cX2_stateJustBehind 120 = .ok (.iload_n 3, 1) := by decide +kernel
theorem dX2_stateJustBehind_121 : decode cX2_stateJustBehind 121 = .ok (.iload 5, 2) := by decide +kernel
theorem dX2_stateJustBehind_123 : decode cX2_stateJustBehind 123 = .ok (.invokevirtual 80, 3) := by decide +kernel
theorem dX2_stateJustBehind_126 : decode cX2_stateJustBehind 126 = .ok (.pop, 1) := by decide +kernel
theorem dX2_stateJustBehind_127 : decode cX2_stateJustBehind 127 = .ok (.iload 5, 2) := by decide +kernel
theorem dX2_stateJustBehind_129 : decode cX2_stateJustBehind 129 = .ok (.ireturn, 1) := by decide +kernel
set_option maxRecDepth 20000 in
theorem ggX2_redirect_X2_moveOf : GoodIn wsX2_redirect wsX2_moveOf := goodIn_r _ [5, 6, 7, 8, 9, 4, 10, 11, 12, 13, 14, 15, 16, 17, 18, 19, 20, 33, 34, 35, 36, 37, 38, 39, 40, 41, 42, 43, 44] rfl rfl
set_option maxRecDepth 20000 in
theorem gX2_redirect_X2_moveOf : GoodIn wsX2_redirect (wsV RX2 97 RX2 yX2_moveOf wsX2_moveOf) := goodIn_app (goodIn_r _ [1, 2, 3, 4] rfl rfl) ggX2_redirect_X2_moveOf
set_option maxRecDepth 20000 in
theorem ggX2_redirect_X2_setMove : GoodIn wsX2_redirect wsX2_setMove := goodIn_r _ [24, 6, 25, 26, 19, 27, 33, 34, 35, 36, 37, 38, 39, 40, 41, 42, 43, 44] rfl rfl
set_option maxRecDepth 20000 in
theorem gX2_redirect_X2_setMove : GoodIn wsX2_redirect (wsV RX2 104 RX2 yX2_setMove wsX2_setMove) := goodIn_app (goodIn_r _ [21, 22, 23, 4] rfl rfl) ggX2_redirect_X2_setMove
set_option maxRecDepth 20000 in
theorem ggX2_redirect_X2_linkOf : GoodIn wsX2_redirect wsX2_linkOf := goodIn_r _ [31, 32, 7, 8, 9, 4, 10, 11, 17, 18, 19, 20, 33, 34, 35, 36, 37, 38, 39, 40, 41, 42, 43, 44] rfl rfl
set_option maxRecDepth 20000 in
theorem gX2_redirect_X2_linkOf : GoodIn wsX2_redirect (wsV RX2 91 RX2 yX2_linkOf wsX2_linkOf) := goodIn_app (goodIn_r _ [28, 29, 30, 4] rfl rfl) ggX2_redirect_X2_linkOf
theorem dX2_redirect_0 : decode cX2_redirect 0 = .ok (.iload_n 1, 1) := by decide +kernel
theorem dX2_redirect_1 : decode cX2_redirect 1 = .ok (.istore 5, 2) := by decide +kernel
theorem dX2_redirect_3 : decode cX2_redirect 3 = .ok (.iconst 0, 1) := by decide +kernel
theorem dX2_redirect_4 : decode cX2_redirect 4 = .ok (.istore 6, 2) := by decide +kernel
theorem dX2_redirect_6 : decode cX2_redirect 6 = .ok (.iload 6, 2) := by decide +kernel
theorem dX2_redirect_8 : decode cX2_redirect 8 = .ok (.bipush 121, 2) := by decide +kernel
theorem dX2_redirect_10 : decode cX2_redirect 10 = .ok (.if_icmp .ge 42, 3) := by decide +kernel
theorem dX2_redirect_13 : decode cX2_redirect 13 = .ok (.iload 5, 2) := by decide +kernel
theorem dX2_redirect_15 : decode cX2_redirect 15 = .ok (.ifCond .lt 37, 3) := by decide +kernel
theorem dX2_redirect_18 : decode cX2_redirect 18 = .ok (.aload_n 0, 1) := by decide +kernel
theorem dX2_redirect_19 : decode cX2_redirect 19 = .ok (.iload 5, 2) := by decide +kernel
theorem dX2_redirect_21 : decode cX2_redirect 21 = .ok (.iload_n 2, 1) := by decide +kernel
theorem dX2_redirect_22 : decode cX2_redirect 22 = .ok (.invokevirtual 97, 3) := by decide +kernel
theorem dX2_redirect_25 : decode cX2_redirect 25 = .ok (.iload_n 3, 1) := by decide +kernel
theorem dX2_redirect_26 : decode cX2_redirect 26 = .ok (.if_icmp .ne 26, 3) := by decide +kernel
theorem dX2_redirect_29 : decode cX2_redirect 29 = .ok (.aload_n 0, 1) := by decide +kernel
theorem dX2_redirect_30 : decode cX2_redirect 30 = .ok (.iload 5, 2) := by decide +kernel
theorem dX2_redirect_32 : decode cX2_redirect 32 = .ok (.iload_n 2, 1) := by decide +kernel
theorem dX2_redirect_33 : decode cX2_redirect 33 = .ok (.iload 4, 2) := by decide +kernel
theorem dX2_redirect_35 : decode cX2_redirect 35 = .ok (.invokevirtual 104, 3) := by decide +kernel
theorem dX2_redirect_38 : decode cX2_redirect 38 = .ok (.aload_n 0, 1) := by decide +kernel
theorem dX2_redirect_39 : decode cX2_redirect 39 = .ok (.iload 5, 2) := by decide +kernel
theorem dX2_redirect_41 : decode cX2_redirect 41 = .ok (.invokevirtual 91, 3) := by decide +kernel
theorem dX2_redirect_44 : decode cX2_redirect 44 = .ok (.istore 5, 2) := by decide +kernel
theorem dX2_redirect_46 : decode cX2_redirect 46 = .ok (.iinc 6 1, 3) := by decide +kernel
theorem dX2_redirect_49 : decode cX2_redirect 49 = .ok (.goto (-43), 3) := by decide +kernel
theorem dX2_redirect_52 : decode cX2_redirect 52 = .ok (.iload 5, 2) := by decide +kernel
theorem dX2_redirect_54 : decode cX2_redirect 54 = .ok (.ireturn, 1) := by decide +kernel
set_option maxRecDepth 20000 in
theorem ggX2_markEnd_X2_endsOf : GoodIn wsX2_markEnd wsX2_endsOf := goodIn_r _ [8, 3, 9, 10, 11, 7, 12, 13, 14, 15, 16, 17, 29, 30, 31, 32, 33, 34, 35, 36, 37, 38, 39, 40] rfl rfl
set_option maxRecDepth 20000 in
theorem gX2_markEnd_X2_endsOf : GoodIn wsX2_markEnd (wsV RX2 100 RX2 yX2_endsOf wsX2_endsOf) := goodIn_app (goodIn_r _ [4, 5, 6, 7] rfl rfl) ggX2_markEnd_X2_endsOf
set_option maxRecDepth 20000 in
theorem ggX2_markEnd_X3_put_ : GoodIn wsX2_markEnd wsX3_put_ := goodIn_r _ [20] rfl rfl
set_option maxRecDepth 20000 in
theorem gX2_markEnd_X3_put_ : GoodIn wsX2_markEnd (va_wsS RX2 58 yX3_put_ wsX3_put_) := goodIn_app (goodIn_r _ [18, 19, 16] rfl rfl) ggX2_markEnd_X3_put_
set_option maxRecDepth 20000 in
theorem ggX2_markEnd_X2_linkOf : GoodIn wsX2_markEnd wsX2_linkOf := goodIn_r _ [24, 25, 9, 10, 11, 7, 12, 13, 26, 27, 16, 28, 29, 30, 31, 32, 33, 34, 35, 36, 37, 38, 39, 40] rfl rfl
set_option maxRecDepth 20000 in
theorem gX2_markEnd_X2_linkOf : GoodIn wsX2_markEnd (wsV RX2 91 RX2 yX2_linkOf wsX2_linkOf) := goodIn_app (goodIn_r _ [21, 22, 23, 7] rfl rfl) ggX2_markEnd_X2_linkOf
theorem dX2_markEnd_0 : decode cX2_markEnd 0 = .ok (.lconst 1, 1) := by decide +kernel
theorem dX2_markEnd_1 : decode cX2_markEnd 1 = .ok (.aload_n 0, 1) := by decide +kernel
theorem dX2_markEnd_2 : decode cX2_markEnd 2 = .ok (.getfield 45, 3) := by decide +kernel
theorem dX2_markEnd_5 : decode cX2_markEnd 5 = .ok (.lshl, 1) := by decide +kernel
theorem dX2_markEnd_6 : decode cX2_markEnd 6 = .ok (.lstore_n 1, 1) := by decide +kernel
theorem dX2_markEnd_7 : decode cX2_markEnd 7 = .ok (.aload_n 0, 1) := by decide +kernel
theorem dX2_markEnd_8 : decode cX2_markEnd 8 = .ok (.getfield 55, 3) := by decide +kernel
theorem dX2_markEnd_11 : decode cX2_markEnd 11 = .ok (.istore_n 3, 1) := by decide +kernel
theorem dX2_markEnd_12 : decode cX2_markEnd 12 = .ok (.iconst 0, 1) := by decide +kernel
theorem dX2_markEnd_13 : decode cX2_markEnd 13 = .ok (.istore 4, 2) := by decide +kernel
theorem dX2_markEnd_15 : decode cX2_markEnd 15 = .ok (.iload 4, 2) := by decide +kernel
theorem dX2_markEnd_17 : decode cX2_markEnd 17 = .ok (.bipush 121, 2) := by decide +kernel
theorem dX2_markEnd_19 : decode cX2_markEnd 19 = .ok (.if_icmp .ge 34, 3) := by decide +kernel
theorem dX2_markEnd_22 : decode cX2_markEnd 22 = .ok (.iload_n 3, 1) := by decide +kernel
theorem dX2_markEnd_23 : decode cX2_markEnd 23 = .ok (.ifCond .lt 30, 3) := by decide +kernel
theorem dX2_markEnd_26 : decode cX2_markEnd 26 = .ok (.aload_n 0, 1) := by decide +kernel
theorem dX2_markEnd_27 : decode cX2_markEnd 27 = .ok (.getfield 33, 3) := by decide +kernel
theorem dX2_markEnd_30 : decode cX2_markEnd 30 = .ok (.iload_n 3, 1) := by decide +kernel
theorem dX2_markEnd_31 : decode cX2_markEnd 31 = .ok (.aload_n 0, 1) := by decide +kernel
theorem dX2_markEnd_32 : decode cX2_markEnd 32 = .ok (.iload_n 3, 1) := by decide +kernel
theorem dX2_markEnd_33 : decode cX2_markEnd 33 = .ok (.invokevirtual 100, 3) := by decide +kernel
theorem dX2_markEnd_36 : decode cX2_markEnd 36 = .ok (.lload_n 1, 1) := by decide +kernel
theorem dX2_markEnd_37 : decode cX2_markEnd 37 = .ok (.lor, 1) := by decide +kernel
theorem dX2_markEnd_38 : decode cX2_markEnd 38 = .ok (.invokestatic 58, 3) := by decide +kernel
theorem dX2_markEnd_41 : decode cX2_markEnd 41 = .ok (.aload_n 0, 1) := by decide +kernel
theorem dX2_markEnd_42 : decode cX2_markEnd 42 = .ok (.iload_n 3, 1) := by decide +kernel
theorem dX2_markEnd_43 : decode cX2_markEnd 43 = .ok (.invokevirtual 91, 3) := by decide +kernel
theorem dX2_markEnd_46 : decode cX2_markEnd 46 = .ok (.istore_n 3, 1) := by decide +kernel
theorem dX2_markEnd_47 : decode cX2_markEnd 47 = .ok (.iinc 4 1, 3) := by decide +kernel
theorem dX2_markEnd_50 : decode cX2_markEnd 50 = .ok (.goto (-35), 3) := by decide +kernel
theorem dX2_markEnd_53 : decode cX2_markEnd 53 = .ok (.return_, 1) := by decide +kernel
set_option maxRecDepth 20000 in
theorem ggX2_addState_X3_put : GoodIn wsX2_addState wsX3_put := goodIn_r _ [11] rfl rfl
set_option maxRecDepth 20000 in
theorem gX2_addState_X3_put : GoodIn wsX2_addState (va_wsS RX2 64 yX3_put wsX3_put) := goodIn_app (goodIn_r _ [8, 9, 10] rfl rfl) ggX2_addState_X3_put
set_option maxRecDepth 20000 in
theorem ggX2_addState_X3_put_ : GoodIn wsX2_addState wsX3_put_ := goodIn_r _ [14] rfl rfl
set_option maxRecDepth 20000 in
theorem gX2_addState_X3_put_ : GoodIn wsX2_addState (va_wsS RX2 58 yX3_put_ wsX3_put_) := goodIn_app (goodIn_r _ [12, 13, 10] rfl rfl) ggX2_addState_X3_put_
set_option maxRecDepth 20000 in
theorem ggX2_addState_X2_setMove : GoodIn wsX2_addState wsX2_setMove := goodIn_r _ [19, 20, 8, 9, 10, 11, 21, 22, 23, 24, 25, 26, 27, 28, 29, 30, 31, 32] rfl rfl
set_option maxRecDepth 20000 in
theorem gX2_addState_X2_setMove : GoodIn wsX2_addState (wsV RX2 104 RX2 yX2_setMove wsX2_setMove) := goodIn_app (goodIn_r _ [15, 16, 17, 18] rfl rfl) ggX2_addState_X2_setMove
theorem dX2_addState_0 : decode cX2_addState 0 = .ok (.aload_n 0, 1) := by decide +kernel
theorem dX2_addState_1 : decode cX2_addState 1 = .ok (.getfield 48, 3) := by decide +kernel
theorem dX2_addState_4 : decode cX2_addState 4 = .ok (.istore_n 2, 1) := by decide +kernel
theorem dX2_addState_5 : decode cX2_addState 5 = .ok (.aload_n 0, 1) := by decide +kernel
theorem dX2_addState_6 : decode cX2_addState 6 = .ok (.dup, 1) := by decide +kernel
theorem dX2_addState_7 : decode cX2_addState 7 = .ok (.getfield 48, 3) := by decide +kernel
theorem dX2_addState_10 : decode cX2_addState 10 = .ok (.iconst 1, 1) := by decide +kernel
theorem dX2_addState_11 : decode cX2_addState 11 = .ok (.iadd, 1) := by decide +kernel
theorem dX2_addState_12 : decode cX2_addState 12 = .ok (.putfield 48, 3) := by decide +kernel
theorem dX2_addState_15 : decode cX2_addState 15 = .ok (.aload_n 0, 1) := by decide +kernel
theorem dX2_addState_16 : decode cX2_addState 16 = .ok (.getfield 21, 3) := by decide +kernel
theorem dX2_addState_19 : decode cX2_addState 19 = .ok (.iload_n 2, 1) := by decide +kernel
theorem dX2_addState_20 : decode cX2_addState 20 = .ok (.iload_n 1, 1) := by decide +kernel
theorem dX2_addState_21 : decode cX2_addState 21 = .ok (.invokestatic 64, 3) := by decide +kernel
theorem dX2_addState_24 : decode cX2_addState 24 = .ok (.aload_n 0, 1) := by decide +kernel
theorem dX2_addState_25 : decode cX2_addState 25 = .ok (.getfield 24, 3) := by decide +kernel
theorem dX2_addState_28 : decode cX2_addState 28 = .ok (.iload_n 2, 1) := by decide +kernel
theorem dX2_addState_29 : decode cX2_addState 29 = .ok (.bipush (-4), 2) := by decide +kernel
theorem dX2_addState_31 : decode cX2_addState 31 = .ok (.invokestatic 64, 3) := by decide +kernel
theorem dX2_addState_34 : decode cX2_addState 34 = .ok (.aload_n 0, 1) := by decide +kernel
theorem dX2_addState_35 : decode cX2_addState 35 = .ok (.getfield 27, 3) := by decide +kernel
theorem dX2_addState_38 : decode cX2_addState 38 = .ok (.iload_n 2, 1) := by decide +kernel
theorem dX2_addState_39 : decode cX2_addState 39 = .ok (.aload_n 0, 1) := by decide +kernel
theorem dX2_addState_40 : decode cX2_addState 40 = .ok (.getfield 45, 3) := by decide +kernel
theorem dX2_addState_43 : decode cX2_addState 43 = .ok (.invokestatic 64, 3) := by decide +kernel
theorem dX2_addState_46 : decode cX2_addState 46 = .ok (.aload_n 0, 1) := by decide +kernel
theorem dX2_addState_47 : decode cX2_addState 47 = .ok (.getfield 30, 3) := by decide +kernel
theorem dX2_addState_50 : decode cX2_addState 50 = .ok (.iload_n 2, 1) := by decide +kernel
theorem dX2_addState_51 : decode cX2_addState 51 = .ok (.bipush (-4), 2) := by decide +kernel
theorem dX2_addState_53 : decode cX2_addState 53 = .ok (.invokestatic 64, 3) := by decide +kernel
theorem dX2_addState_56 : decode cX2_addState 56 = .ok (.aload_n 0, 1) := by decide +kernel
theorem dX2_addState_57 : decode cX2_addState 57 = .ok (.getfield 33, 3) := by decide +kernel
theorem dX2_addState_60 : decode cX2_addState 60 = .ok (.iload_n 2, 1) := by decide +kernel
theorem dX2_addState_61 : decode cX2_addState 61 = .ok (.lconst 0, 1) := by decide +kernel
theorem dX2_addState_62 : decode cX2_addState 62 = .ok (.invokestatic 58, 3) := by decide +kernel
theorem dX2_addState_65 : decode cX2_addState 65 = .ok (.iconst 0, 1) := by decide +kernel
theorem dX2_addState_66 : decode cX2_addState 66 = .ok (.istore_n 3, 1) := by decide +kernel
theorem dX2_addState_67 : decode cX2_addState 67 = .ok (.iload_n 3, 1) := by decide +kernel
theorem dX2_addState_68 : decode cX2_addState 68 = .ok (.iconst 5, 1) := by decide +kernel
theorem dX2_addState_69 : decode cX2_addState 69 = .ok (.if_icmp .ge 17, 3) := by decide +kernel
theorem dX2_addState_72 : decode cX2_addState 72 = .ok (.aload_n 0, 1) := by decide +kernel
theorem dX2_addState_73 : decode cX2_addState 73 = .ok (.iload_n 2, 1) := by decide +kernel
theorem dX2_addState_74 : decode cX2_addState 74 = .ok (.iload_n 3, 1) := by decide +kernel
theorem dX2_addState_75 : decode cX2_addState 75 = .ok (.bipush (-4), 2) := by decide +kernel
theorem dX2_addState_77 : decode cX2_addState 77 = .ok (.invokevirtual 104, 3) := by decide +kernel
theorem dX2_addState_80 : decode cX2_addState 80 = .ok (.iinc 3 1, 3) := by decide +kernel
theorem dX2_addState_83 : decode cX2_addState 83 = .ok (.goto (-16), 3) := by decide +kernel
theorem dX2_addState_86 : decode cX2_addState 86 = .ok (.iload_n 2, 1) := by decide +kernel
theorem dX2_addState_87 : decode cX2_addState 87 = .ok (.ireturn, 1) := by decide +kernel
set_option maxRecDepth 20000 in
theorem ggX2_setMove_X3_put : GoodIn wsX2_setMove wsX3_put := goodIn_r _ [5] rfl rfl
set_option maxRecDepth 20000 in
theorem gX2_setMove_X3_put : GoodIn wsX2_setMove (va_wsS RX2 64 yX3_put wsX3_put) := goodIn_app (goodIn_r _ [2, 3, 4] rfl rfl) ggX2_setMove_X3_put
theorem dX2_setMove_0 : decode cX2_setMove 0 = .ok (.aload_n 0, 1) := by decide +kernel
theorem dX2_setMove_1 : decode cX2_setMove 1 = .ok (.getfield 18, 3) := by decide +kernel
theorem dX2_setMove_4 : decode cX2_setMove 4 = .ok (.iload_n 1, 1) := by decide +kernel
theorem dX2_setMove_5 : decode cX2_setMove 5 = .ok (.iconst 5, 1) := by decide +kernel
theorem dX2_setMove_6 : decode cX2_setMove 6 = .ok (.imul, 1) := by decide +kernel
theorem dX2_setMove_7 : decode cX2_setMove 7 = .ok (.iload_n 2, 1) := by decide +kernel
theorem dX2_setMove_8 : decode cX2_setMove 8 = .ok (.iadd, 1) := by decide +kernel
theorem dX2_setMove_9 : decode cX2_setMove 9 = .ok (.iload_n 3, 1) := by decide +kernel
theorem dX2_setMove_10 : decode cX2_setMove 10 = .ok (.invokestatic 64, 3) := by decide +kernel
theorem dX2_setMove_13 : decode cX2_setMove 13 = .ok (.return_, 1) := by decide +kernel
theorem dX2_isLetter_0 : decode cX2_isLetter 0 = .ok (.iload_n 1, 1) := by decide +kernel
theorem dX2_isLetter_1 : decode cX2_isLetter 1 = .ok (.ifCond .lt 15, 3) := by decide +kernel
theorem dX2_isLetter_4 : decode cX2_isLetter 4 = .ok (.iload_n 1, 1) := by decide +kernel
theorem dX2_isLetter_5 : decode cX2_isLetter 5 = .ok (.aload_n 0, 1) := by decide +kernel
theorem dX2_isLetter_6 : decode cX2_isLetter 6 = .ok (.getfield 41, 3) := by decide +kernel
theorem dX2_isLetter_9 : decode cX2_isLetter 9 = .ok (.if_icmp .ge 7, 3) := by decide +kernel
theorem dX2_isLetter_12 : decode cX2_isLetter 12 = .ok (.iconst 1, 1) := by decide +kernel
theorem dX2_isLetter_13 : decode cX2_isLetter 13 = .ok (.goto 4, 3) := by decide +kernel
theorem dX2_isLetter_16 : decode cX2_isLetter 16 = .ok (.iconst 0, 1) := by decide +kernel
theorem dX2_isLetter_17 : decode cX2_isLetter 17 = .ok (.ireturn, 1) := by decide +kernel
theorem dX2_isState_0 : decode cX2_isState 0 = .ok (.iload_n 1, 1) := by decide +kernel
theorem dX2_isState_1 : decode cX2_isState 1 = .ok (.ifCond .lt 15, 3) := by decide +kernel
theorem dX2_isState_4 : decode cX2_isState 4 = .ok (.iload_n 1, 1) := by decide +kernel
theorem dX2_isState_5 : decode cX2_isState 5 = .ok (.aload_n 0, 1) := by decide +kernel
theorem dX2_isState_6 : decode cX2_isState 6 = .ok (.getfield 48, 3) := by decide +kernel
theorem dX2_isState_9 : decode cX2_isState 9 = .ok (.if_icmp .ge 7, 3) := by decide +kernel
theorem dX2_isState_12 : decode cX2_isState 12 = .ok (.iconst 1, 1) := by decide +kernel
theorem dX2_isState_13 : decode cX2_isState 13 = .ok (.goto 4, 3) := by decide +kernel
theorem dX2_isState_16 : decode cX2_isState 16 = .ok (.iconst 0, 1) := by decide +kernel
theorem dX2_isState_17 : decode cX2_isState 17 = .ok (.ireturn, 1) := by decide +kernel
theorem dX2_hasRoomFor_0 : decode cX2_hasRoomFor 0 = .ok (.aload_n 0, 1) := by decide +kernel
theorem dX2_hasRoomFor_1 : decode cX2_hasRoomFor 1 = .ok (.getfield 45, 3) := by decide +kernel
theorem dX2_hasRoomFor_4 : decode cX2_hasRoomFor 4 = .ok (.iload_n 1, 1) := by decide +kernel
theorem dX2_hasRoomFor_5 : decode cX2_hasRoomFor 5 = .ok (.iadd, 1) := by decide +kernel
theorem dX2_hasRoomFor_6 : decode cX2_hasRoomFor 6 = .ok (.bipush 60, 2) := by decide +kernel
theorem dX2_hasRoomFor_8 : decode cX2_hasRoomFor 8 = .ok (.if_icmp .gt 7, 3) := by decide +kernel
theorem dX2_hasRoomFor_11 : decode cX2_hasRoomFor 11 = .ok (.iconst 1, 1) := by decide +kernel
theorem dX2_hasRoomFor_12 : decode cX2_hasRoomFor 12 = .ok (.goto 4, 3) := by decide +kernel
theorem dX2_hasRoomFor_15 : decode cX2_hasRoomFor 15 = .ok (.iconst 0, 1) := by decide +kernel
theorem dX2_hasRoomFor_16 : decode cX2_hasRoomFor 16 = .ok (.ireturn, 1) := by decide +kernel
set_option maxRecDepth 20000 in
theorem ggX2_takesAllOf_X4_letterAt : GoodIn wsX2_takesAllOf wsX4_letterAt := goodIn_r _ [6, 7, 8, 9, 5, 10, 11, 12, 13, 14, 15, 22, 23, 24] rfl rfl
set_option maxRecDepth 20000 in
theorem gX2_takesAllOf_X4_letterAt : GoodIn wsX2_takesAllOf (wsV RX2 111 RX4 yX4_letterAt wsX4_letterAt) := goodIn_app (goodIn_r _ [2, 3, 4, 5] rfl rfl) ggX2_takesAllOf_X4_letterAt
set_option maxRecDepth 20000 in
theorem ggX2_takesAllOf_X2_isLetter : GoodIn wsX2_takesAllOf wsX2_isLetter := goodIn_r _ [20, 21, 25, 26, 27, 28, 29, 30, 31, 32, 33, 34, 35, 36] rfl rfl
set_option maxRecDepth 20000 in
theorem gX2_takesAllOf_X2_isLetter : GoodIn wsX2_takesAllOf (wsV RX2 73 RX2 yX2_isLetter wsX2_isLetter) := goodIn_app (goodIn_r _ [16, 17, 18, 19] rfl rfl) ggX2_takesAllOf_X2_isLetter
theorem dX2_takesAllOf_0 : decode cX2_takesAllOf 0 = .ok (.iconst 0, 1) := by decide +kernel
theorem dX2_takesAllOf_1 : decode cX2_takesAllOf 1 = .ok (.istore_n 2, 1) := by decide +kernel
theorem dX2_takesAllOf_2 : decode cX2_takesAllOf 2 = .ok (.iload_n 2, 1) := by decide +kernel
theorem dX2_takesAllOf_3 : decode cX2_takesAllOf 3 = .ok (.aload_n 1, 1) := by decide +kernel
theorem dX2_takesAllOf_4 : decode cX2_takesAllOf 4 = .ok (.getfield 108, 3) := by decide +kernel
theorem dX2_takesAllOf_7 : decode cX2_takesAllOf 7 = .ok (.if_icmp .ge 23, 3) := by decide +kernel
theorem dX2_takesAllOf_10 : decode cX2_takesAllOf 10 = .ok (.aload_n 0, 1) := by decide +kernel
theorem dX2_takesAllOf_11 : decode cX2_takesAllOf 11 = .ok (.aload_n 1, 1) := by decide +kernel
theorem dX2_takesAllOf_12 : decode cX2_takesAllOf 12 = .ok (.iload_n 2, 1) := by decide +kernel
theorem dX2_takesAllOf_13 : decode cX2_takesAllOf 13 = .ok (.invokevirtual 111, 3) := by decide +kernel
theorem dX2_takesAllOf_16 : decode cX2_takesAllOf 16 = .ok (.invokevirtual 73, 3) := by decide +kernel
theorem dX2_takesAllOf_19 : decode cX2_takesAllOf 19 = .ok (.ifCond .ne 5, 3) := by decide +kernel
theorem dX2_takesAllOf_22 : decode cX2_takesAllOf 22 = .ok (.iconst 0, 1) := by decide +kernel
theorem dX2_takesAllOf_23 : decode cX2_takesAllOf 23 = .ok (.ireturn, 1) := by decide +kernel
theorem dX2_takesAllOf_24 : decode cX2_takesAllOf 24 = .ok (.iinc 2 1, 3) := by decide +kernel
theorem dX2_takesAllOf_27 : decode cX2_takesAllOf 27 = .ok (.goto (-25), 3) := by decide +kernel
theorem dX2_takesAllOf_30 : decode cX2_takesAllOf 30 = .ok (.iconst 1, 1) := by decide +kernel
theorem dX2_takesAllOf_31 : decode cX2_takesAllOf 31 = .ok (.ireturn, 1) := by decide +kernel
theorem dX2_letterLeftOver_0 : decode cX2_letterLeftOver 0 = .ok (.aload_n 0, 1) := by decide +kernel
theorem dX2_letterLeftOver_1 : decode cX2_letterLeftOver 1 = .ok (.getfield 41, 3) := by decide +kernel
theorem dX2_letterLeftOver_4 : decode cX2_letterLeftOver 4 = .ok (.ifCond .le 14, 3) := by decide +kernel
theorem dX2_letterLeftOver_7 : decode cX2_letterLeftOver 7 = .ok (.lload_n 1, 1) := by decide +kernel
theorem dX2_letterLeftOver_8 : decode cX2_letterLeftOver 8 = .ok (.aload_n 0, 1) := by decide +kernel
theorem dX2_letterLeftOver_9 : decode cX2_letterLeftOver 9 = .ok (.getfield 41, 3) := by decide +kernel
theorem dX2_letterLeftOver_12 : decode cX2_letterLeftOver 12 = .ok (.i2l, 1) := by decide +kernel
theorem dX2_letterLeftOver_13 : decode cX2_letterLeftOver 13 = .ok (.lrem, 1) := by decide +kernel
theorem dX2_letterLeftOver_14 : decode cX2_letterLeftOver 14 = .ok (.l2i, 1) := by decide +kernel
theorem dX2_letterLeftOver_15 : decode cX2_letterLeftOver 15 = .ok (.goto 4, 3) := by decide +kernel
theorem dX2_letterLeftOver_18 : decode cX2_letterLeftOver 18 = .ok (.iconst 0, 1) := by decide +kernel
theorem dX2_letterLeftOver_19 : decode cX2_letterLeftOver 19 = .ok (.ireturn, 1) := by decide +kernel
set_option maxRecDepth 20000 in
theorem ggX2_letterAt_X3_at : GoodIn wsX2_letterAt wsX3_at := goodIn_r _ [5] rfl rfl
set_option maxRecDepth 20000 in
theorem gX2_letterAt_X3_at : GoodIn wsX2_letterAt (va_wsS RX2 112 yX3_at wsX3_at) := goodIn_app (goodIn_r _ [2, 3, 4] rfl rfl) ggX2_letterAt_X3_at
theorem dX2_letterAt_0 : decode cX2_letterAt 0 = .ok (.aload_n 0, 1) := by decide +kernel
theorem dX2_letterAt_1 : decode cX2_letterAt 1 = .ok (.getfield 9, 3) := by decide +kernel
theorem dX2_letterAt_4 : decode cX2_letterAt 4 = .ok (.iload_n 1, 1) := by decide +kernel
theorem dX2_letterAt_5 : decode cX2_letterAt 5 = .ok (.invokestatic 112, 3) := by decide +kernel
theorem dX2_letterAt_8 : decode cX2_letterAt 8 = .ok (.ireturn, 1) := by decide +kernel
set_option maxRecDepth 20000 in
theorem ggX2_againAt_X3_at : GoodIn wsX2_againAt wsX3_at := goodIn_r _ [5] rfl rfl
set_option maxRecDepth 20000 in
theorem gX2_againAt_X3_at : GoodIn wsX2_againAt (va_wsS RX2 112 yX3_at wsX3_at) := goodIn_app (goodIn_r _ [2, 3, 4] rfl rfl) ggX2_againAt_X3_at
theorem dX2_againAt_0 : decode cX2_againAt 0 = .ok (.aload_n 0, 1) := by decide +kernel
theorem dX2_againAt_1 : decode cX2_againAt 1 = .ok (.getfield 15, 3) := by decide +kernel
theorem dX2_againAt_4 : decode cX2_againAt 4 = .ok (.iload_n 1, 1) := by decide +kernel
theorem dX2_againAt_5 : decode cX2_againAt 5 = .ok (.invokestatic 112, 3) := by decide +kernel
theorem dX2_againAt_8 : decode cX2_againAt 8 = .ok (.ireturn, 1) := by decide +kernel
theorem dX2_lastState_0 : decode cX2_lastState 0 = .ok (.aload_n 0, 1) := by decide +kernel
theorem dX2_lastState_1 : decode cX2_lastState 1 = .ok (.getfield 55, 3) := by decide +kernel
theorem dX2_lastState_4 : decode cX2_lastState 4 = .ok (.ireturn, 1) := by decide +kernel
set_option maxRecDepth 20000 in
theorem ggX2_moveOf_X2_isState : GoodIn wsX2_moveOf wsX2_isState := goodIn_r _ [6, 7, 17, 18, 19, 20, 21, 22, 23, 24, 25, 26, 27, 28] rfl rfl
set_option maxRecDepth 20000 in
theorem gX2_moveOf_X2_isState : GoodIn wsX2_moveOf (wsV RX2 116 RX2 yX2_isState wsX2_isState) := goodIn_app (goodIn_r _ [2, 3, 4, 5] rfl rfl) ggX2_moveOf_X2_isState
set_option maxRecDepth 20000 in
theorem ggX2_moveOf_X2_isLetter : GoodIn wsX2_moveOf wsX2_isLetter := goodIn_r _ [11, 12, 17, 18, 19, 20, 21, 22, 23, 24, 25, 26, 27, 28] rfl rfl
set_option maxRecDepth 20000 in
theorem gX2_moveOf_X2_isLetter : GoodIn wsX2_moveOf (wsV RX2 73 RX2 yX2_isLetter wsX2_isLetter) := goodIn_app (goodIn_r _ [8, 9, 10, 5] rfl rfl) ggX2_moveOf_X2_isLetter
set_option maxRecDepth 20000 in
theorem ggX2_moveOf_X3_at : GoodIn wsX2_moveOf wsX3_at := goodIn_r _ [16] rfl rfl
set_option maxRecDepth 20000 in
theorem gX2_moveOf_X3_at : GoodIn wsX2_moveOf (va_wsS RX2 112 yX3_at wsX3_at) := goodIn_app (goodIn_r _ [13, 14, 15] rfl rfl) ggX2_moveOf_X3_at
theorem dX2_moveOf_0 : decode cX2_moveOf 0 = .ok (.aload_n 0, 1) := by decide +kernel
theorem dX2_moveOf_1 : decode cX2_moveOf 1 = .ok (.iload_n 1, 1) := by decide +kernel
theorem dX2_moveOf_2 : decode cX2_moveOf 2 = .ok (.invokevirtual 116, 3) := by decide +kernel
theorem dX2_moveOf_5 : decode cX2_moveOf 5 = .ok (.ifCond .eq 26, 3) := by decide +kernel
theorem dX2_moveOf_8 : decode cX2_moveOf 8 = .ok (.aload_n 0, 1) := by decide +kernel
theorem dX2_moveOf_9 : decode cX2_moveOf 9 = .ok (.iload_n 2, 1) := by decide +kernel
theorem dX2_moveOf_10 : decode cX2_moveOf 10 = .ok (.invokevirtual 73, 3) := by decide +kernel
theorem dX2_moveOf_13 : decode cX2_moveOf 13 = .ok (.ifCond .eq 18, 3) := by decide +kernel
theorem dX2_moveOf_16 : decode cX2_moveOf 16 = .ok (.aload_n 0, 1) := by decide +kernel
theorem dX2_moveOf_17 : decode cX2_moveOf 17 = .ok (.getfield 18, 3) := by decide +kernel
theorem dX2_moveOf_20 : decode cX2_moveOf 20 = .ok (.iload_n 1, 1) := by decide +kernel
theorem dX2_moveOf_21 : decode cX2_moveOf 21 = .ok (.iconst 5, 1) := by decide +kernel
theorem dX2_moveOf_22 : decode cX2_moveOf 22 = .ok (.imul, 1) := by decide +kernel
theorem dX2_moveOf_23 : decode cX2_moveOf 23 = .ok (.iload_n 2, 1) := by decide +kernel
theorem dX2_moveOf_24 : decode cX2_moveOf 24 = .ok (.iadd, 1) := by decide +kernel
theorem dX2_moveOf_25 : decode cX2_moveOf 25 = .ok (.invokestatic 112, 3) := by decide +kernel
theorem dX2_moveOf_28 : decode cX2_moveOf 28 = .ok (.goto 5, 3) := by decide +kernel
theorem dX2_moveOf_31 : decode cX2_moveOf 31 = .ok (.bipush (-4), 2) := by decide +kernel
theorem dX2_moveOf_33 : decode cX2_moveOf 33 = .ok (.ireturn, 1) := by decide +kernel
set_option maxRecDepth 20000 in
theorem ggX2_longestOf_X3_at : GoodIn wsX2_longestOf wsX3_at := goodIn_r _ [5] rfl rfl
set_option maxRecDepth 20000 in
theorem gX2_longestOf_X3_at : GoodIn wsX2_longestOf (va_wsS RX2 112 yX3_at wsX3_at) := goodIn_app (goodIn_r _ [2, 3, 4] rfl rfl) ggX2_longestOf_X3_at
theorem dX2_longestOf_0 : decode cX2_longestOf 0 = .ok (.aload_n 0, 1) := by decide +kernel
theorem dX2_longestOf_1 : decode cX2_longestOf 1 = .ok (.getfield 21, 3) := by decide +kernel
theorem dX2_longestOf_4 : decode cX2_longestOf 4 = .ok (.iload_n 1, 1) := by decide +kernel
theorem dX2_longestOf_5 : decode cX2_longestOf 5 = .ok (.invokestatic 112, 3) := by decide +kernel
theorem dX2_longestOf_8 : decode cX2_longestOf 8 = .ok (.ireturn, 1) := by decide +kernel
set_option maxRecDepth 20000 in
theorem ggX2_shortestOf_X2_linkOf : GoodIn wsX2_shortestOf wsX2_linkOf := goodIn_r _ [5, 6, 7, 8, 9, 4, 10, 11, 12, 13, 14, 15, 21, 22, 23, 24, 25, 26, 27, 28, 29, 30, 31, 32] rfl rfl
set_option maxRecDepth 20000 in
theorem gX2_shortestOf_X2_linkOf : GoodIn wsX2_shortestOf (wsV RX2 91 RX2 yX2_linkOf wsX2_linkOf) := goodIn_app (goodIn_r _ [1, 2, 3, 4] rfl rfl) ggX2_shortestOf_X2_linkOf
set_option maxRecDepth 20000 in
theorem ggX2_shortestOf_X2_longestOf : GoodIn wsX2_shortestOf wsX2_longestOf := goodIn_r _ [19, 20, 12, 13, 14, 15, 21, 22, 23, 24, 25, 26, 27, 28, 29, 30, 31, 32] rfl rfl
set_option maxRecDepth 20000 in
theorem gX2_shortestOf_X2_longestOf : GoodIn wsX2_shortestOf (wsV RX2 94 RX2 yX2_longestOf wsX2_longestOf) := goodIn_app (goodIn_r _ [16, 17, 18, 4] rfl rfl) ggX2_shortestOf_X2_longestOf
theorem dX2_shortestOf_0 : decode cX2_shortestOf 0 = .ok (.iload_n 1, 1) := by decide +kernel
theorem dX2_shortestOf_1 : decode cX2_shortestOf 1 = .ok (.ifCond .le 17, 3) := by decide +kernel
theorem dX2_shortestOf_4 : decode cX2_shortestOf 4 = .ok (.aload_n 0, 1) := by decide +kernel
theorem dX2_shortestOf_5 : decode cX2_shortestOf 5 = .ok (.aload_n 0, 1) := by decide +kernel
theorem dX2_shortestOf_6 : decode cX2_shortestOf 6 = .ok (.iload_n 1, 1) := by decide +kernel
theorem dX2_shortestOf_7 : decode cX2_shortestOf 7 = .ok (.invokevirtual 91, 3) := by decide +kernel
theorem dX2_shortestOf_10 : decode cX2_shortestOf 10 = .ok (.invokevirtual 94, 3) := by decide +kernel
theorem dX2_shortestOf_13 : decode cX2_shortestOf 13 = .ok (.iconst 1, 1) := by decide +kernel
theorem dX2_shortestOf_14 : decode cX2_shortestOf 14 = .ok (.iadd, 1) := by decide +kernel
theorem dX2_shortestOf_15 : decode cX2_shortestOf 15 = .ok (.goto 4, 3) := by decide +kernel
theorem dX2_shortestOf_18 : decode cX2_shortestOf 18 = .ok (.iconst 0, 1) := by decide +kernel
theorem dX2_shortestOf_19 : decode cX2_shortestOf 19 = .ok (.ireturn, 1) := by decide +kernel
set_option maxRecDepth 20000 in
theorem ggX2_linkOf_X2_isState : GoodIn wsX2_linkOf wsX2_isState := goodIn_r _ [6, 7, 12, 13, 14, 15, 16, 17, 18, 19, 20, 21, 22, 23] rfl rfl
set_option maxRecDepth 20000 in
theorem gX2_linkOf_X2_isState : GoodIn wsX2_linkOf (wsV RX2 116 RX2 yX2_isState wsX2_isState) := goodIn_app (goodIn_r _ [2, 3, 4, 5] rfl rfl) ggX2_linkOf_X2_isState
set_option maxRecDepth 20000 in
theorem ggX2_linkOf_X3_at : GoodIn wsX2_linkOf wsX3_at := goodIn_r _ [11] rfl rfl
set_option maxRecDepth 20000 in
theorem gX2_linkOf_X3_at : GoodIn wsX2_linkOf (va_wsS RX2 112 yX3_at wsX3_at) := goodIn_app (goodIn_r _ [8, 9, 10] rfl rfl) ggX2_linkOf_X3_at
theorem dX2_linkOf_0 : decode cX2_linkOf 0 = .ok (.aload_n 0, 1) := by decide +kernel
theorem dX2_linkOf_1 : decode cX2_linkOf 1 = .ok (.iload_n 1, 1) := by decide +kernel
theorem dX2_linkOf_2 : decode cX2_linkOf 2 = .ok (.invokevirtual 116, 3) := by decide +kernel
theorem dX2_linkOf_5 : decode cX2_linkOf 5 = .ok (.ifCond .eq 14, 3) := by decide +kernel
theorem dX2_linkOf_8 : decode cX2_linkOf 8 = .ok (.aload_n 0, 1) := by decide +kernel
theorem dX2_linkOf_9 : decode cX2_linkOf 9 = .ok (.getfield 24, 3) := by decide +kernel
theorem dX2_linkOf_12 : decode cX2_linkOf 12 = .ok (.iload_n 1, 1) := by decide +kernel
theorem dX2_linkOf_13 : decode cX2_linkOf 13 = .ok (.invokestatic 112, 3) := by decide +kernel
theorem dX2_linkOf_16 : decode cX2_linkOf 16 = .ok (.goto 5, 3) := by decide +kernel
theorem dX2_linkOf_19 : decode cX2_linkOf 19 = .ok (.bipush (-4), 2) := by decide +kernel
theorem dX2_linkOf_21 : decode cX2_linkOf 21 = .ok (.ireturn, 1) := by decide +kernel
set_option maxRecDepth 20000 in
theorem ggX2_madeBehind_X3_at : GoodIn wsX2_madeBehind wsX3_at := goodIn_r _ [5] rfl rfl
set_option maxRecDepth 20000 in
theorem gX2_madeBehind_X3_at : GoodIn wsX2_madeBehind (va_wsS RX2 112 yX3_at wsX3_at) := goodIn_app (goodIn_r _ [2, 3, 4] rfl rfl) ggX2_madeBehind_X3_at
theorem dX2_madeBehind_0 : decode cX2_madeBehind 0 = .ok (.aload_n 0, 1) := by decide +kernel
theorem dX2_madeBehind_1 : decode cX2_madeBehind 1 = .ok (.getfield 27, 3) := by decide +kernel
theorem dX2_madeBehind_4 : decode cX2_madeBehind 4 = .ok (.iload_n 1, 1) := by decide +kernel
theorem dX2_madeBehind_5 : decode cX2_madeBehind 5 = .ok (.invokestatic 112, 3) := by decide +kernel
theorem dX2_madeBehind_8 : decode cX2_madeBehind 8 = .ok (.ireturn, 1) := by decide +kernel
set_option maxRecDepth 20000 in
theorem ggX2_originalOf_X2_isState : GoodIn wsX2_originalOf wsX2_isState := goodIn_r _ [6, 7, 12, 13, 14, 15, 16, 17, 18, 19, 20, 21, 22, 23] rfl rfl
set_option maxRecDepth 20000 in
theorem gX2_originalOf_X2_isState : GoodIn wsX2_originalOf (wsV RX2 116 RX2 yX2_isState wsX2_isState) := goodIn_app (goodIn_r _ [2, 3, 4, 5] rfl rfl) ggX2_originalOf_X2_isState
set_option maxRecDepth 20000 in
theorem ggX2_originalOf_X3_at : GoodIn wsX2_originalOf wsX3_at := goodIn_r _ [11] rfl rfl
set_option maxRecDepth 20000 in
theorem gX2_originalOf_X3_at : GoodIn wsX2_originalOf (va_wsS RX2 112 yX3_at wsX3_at) := goodIn_app (goodIn_r _ [8, 9, 10] rfl rfl) ggX2_originalOf_X3_at
theorem dX2_originalOf_0 : decode cX2_originalOf 0 = .ok (.aload_n 0, 1) := by decide +kernel
theorem dX2_originalOf_1 : decode cX2_originalOf 1 = .ok (.iload_n 1, 1) := by decide +kernel
theorem dX2_originalOf_2 : decode cX2_originalOf 2 = .ok (.invokevirtual 116, 3) := by decide +kernel
theorem dX2_originalOf_5 : decode cX2_originalOf 5 = .ok (.ifCond .eq 14, 3) := by decide +kernel
theorem dX2_originalOf_8 : decode cX2_originalOf 8 = .ok (.aload_n 0, 1) := by decide +kernel
theorem dX2_originalOf_9 : decode cX2_originalOf 9 = .ok (.getfield 30, 3) := by decide +kernel
theorem dX2_originalOf_12 : decode cX2_originalOf 12 = .ok (.iload_n 1, 1) := by decide +kernel
theorem dX2_originalOf_13 : decode cX2_originalOf 13 = .ok (.invokestatic 112, 3) := by decide +kernel
theorem dX2_originalOf_16 : decode cX2_originalOf 16 = .ok (.goto 5, 3) := by decide +kernel
theorem dX2_originalOf_19 : decode cX2_originalOf 19 = .ok (.bipush (-4), 2) := by decide +kernel
theorem dX2_originalOf_21 : decode cX2_originalOf 21 = .ok (.ireturn, 1) := by decide +kernel
set_option maxRecDepth 20000 in
theorem ggX2_endsOf_X2_isState : GoodIn wsX2_endsOf wsX2_isState := goodIn_r _ [6, 7, 12, 13, 14, 15, 16, 17, 18, 19, 20, 21, 22, 23] rfl rfl
set_option maxRecDepth 20000 in
theorem gX2_endsOf_X2_isState : GoodIn wsX2_endsOf (wsV RX2 116 RX2 yX2_isState wsX2_isState) := goodIn_app (goodIn_r _ [2, 3, 4, 5] rfl rfl) ggX2_endsOf_X2_isState
set_option maxRecDepth 20000 in
theorem ggX2_endsOf_X3_at_ : GoodIn wsX2_endsOf wsX3_at_ := goodIn_r _ [11] rfl rfl
set_option maxRecDepth 20000 in
theorem gX2_endsOf_X3_at_ : GoodIn wsX2_endsOf (va_wsS RX2 119 yX3_at_ wsX3_at_) := goodIn_app (goodIn_r _ [8, 9, 10] rfl rfl) ggX2_endsOf_X3_at_
theorem dX2_endsOf_0 : decode cX2_endsOf 0 = .ok (.aload_n 0, 1) := by decide +kernel
theorem dX2_endsOf_1 : decode cX2_endsOf 1 = .ok (.iload_n 1, 1) := by decide +kernel
theorem dX2_endsOf_2 : decode cX2_endsOf 2 = .ok (.invokevirtual 116, 3) := by decide +kernel
theorem dX2_endsOf_5 : decode cX2_endsOf 5 = .ok (.ifCond .eq 14, 3) := by decide +kernel
theorem dX2_endsOf_8 : decode cX2_endsOf 8 = .ok (.aload_n 0, 1) := by decide +kernel
theorem dX2_endsOf_9 : decode cX2_endsOf 9 = .ok (.getfield 33, 3) := by decide +kernel
theorem dX2_endsOf_12 : decode cX2_endsOf 12 = .ok (.iload_n 1, 1) := by decide +kernel
theorem dX2_endsOf_13 : decode cX2_endsOf 13 = .ok (.invokestatic 119, 3) := by decide +kernel
theorem dX2_endsOf_16 : decode cX2_endsOf 16 = .ok (.goto 4, 3) := by decide +kernel
theorem dX2_endsOf_19 : decode cX2_endsOf 19 = .ok (.lconst 0, 1) := by decide +kernel
theorem dX2_endsOf_20 : decode cX2_endsOf 20 = .ok (.lreturn, 1) := by decide +kernel
set_option maxRecDepth 20000 in
theorem ggX2_firstEndOf_X2_endsOf : GoodIn wsX2_firstEndOf wsX2_endsOf := goodIn_r _ [5, 6, 7, 8, 9, 4, 10, 11, 12, 13, 14, 15, 27, 28, 29, 30, 31, 32, 33, 34, 35, 36, 37, 38] rfl rfl
set_option maxRecDepth 20000 in
theorem gX2_firstEndOf_X2_endsOf : GoodIn wsX2_firstEndOf (wsV RX2 100 RX2 yX2_endsOf wsX2_endsOf) := goodIn_app (goodIn_r _ [1, 2, 3, 4] rfl rfl) ggX2_firstEndOf_X2_endsOf
set_option maxRecDepth 20000 in
theorem ggX2_firstEndOf_X0_firstOf : GoodIn wsX2_firstEndOf wsX0_firstOf := goodIn_r _ [19, 20, 21, 22, 23, 24, 25, 26] rfl rfl
set_option maxRecDepth 20000 in
theorem gX2_firstEndOf_X0_firstOf : GoodIn wsX2_firstEndOf (va_wsS RX2 122 yX0_firstOf wsX0_firstOf) := goodIn_app (goodIn_r _ [16, 17, 18] rfl rfl) ggX2_firstEndOf_X0_firstOf
theorem dX2_firstEndOf_0 : decode cX2_firstEndOf 0 = .ok (.aload_n 0, 1) := by decide +kernel
theorem dX2_firstEndOf_1 : decode cX2_firstEndOf 1 = .ok (.iload_n 1, 1) := by decide +kernel
theorem dX2_firstEndOf_2 : decode cX2_firstEndOf 2 = .ok (.invokevirtual 100, 3) := by decide +kernel
theorem dX2_firstEndOf_5 : decode cX2_firstEndOf 5 = .ok (.invokestatic 122, 3) := by decide +kernel
theorem dX2_firstEndOf_8 : decode cX2_firstEndOf 8 = .ok (.ireturn, 1) := by decide +kernel
set_option maxRecDepth 20000 in
theorem ggX2_clones_X2_originalOf : GoodIn wsX2_clones wsX2_originalOf := goodIn_r _ [6, 7, 8, 9, 10, 5, 11, 1, 12, 13, 14, 15, 16, 17, 18, 19, 20, 21, 22, 23, 24, 25, 26, 27] rfl rfl
set_option maxRecDepth 20000 in
theorem gX2_clones_X2_originalOf : GoodIn wsX2_clones (wsV RX2 128 RX2 yX2_originalOf wsX2_originalOf) := goodIn_app (goodIn_r _ [2, 3, 4, 5] rfl rfl) ggX2_clones_X2_originalOf
theorem dX2_clones_0 : decode cX2_clones 0 = .ok (.iconst 0, 1) := by decide +kernel
theorem dX2_clones_1 : decode cX2_clones 1 = .ok (.istore_n 1, 1) := by decide +kernel
theorem dX2_clones_2 : decode cX2_clones 2 = .ok (.iconst 0, 1) := by decide +kernel
theorem dX2_clones_3 : decode cX2_clones 3 = .ok (.istore_n 2, 1) := by decide +kernel
theorem dX2_clones_4 : decode cX2_clones 4 = .ok (.iload_n 2, 1) := by decide +kernel
theorem dX2_clones_5 : decode cX2_clones 5 = .ok (.aload_n 0, 1) := by decide +kernel
theorem dX2_clones_6 : decode cX2_clones 6 = .ok (.getfield 48, 3) := by decide +kernel
theorem dX2_clones_9 : decode cX2_clones 9 = .ok (.if_icmp .ge 22, 3) := by decide +kernel
theorem dX2_clones_12 : decode cX2_clones 12 = .ok (.aload_n 0, 1) := by decide +kernel
theorem dX2_clones_13 : decode cX2_clones 13 = .ok (.iload_n 2, 1) := by decide +kernel
theorem dX2_clones_14 : decode cX2_clones 14 = .ok (.invokevirtual 128, 3) := by decide +kernel
theorem dX2_clones_17 : decode cX2_clones 17 = .ok (.bipush (-4), 2) := by decide +kernel
theorem dX2_clones_19 : decode cX2_clones 19 = .ok (.if_icmp .eq 6, 3) := by decide +kernel
theorem dX2_clones_22 : decode cX2_clones 22 = .ok (.iinc 1 1, 3) := by decide +kernel
theorem dX2_clones_25 : decode cX2_clones 25 = .ok (.iinc 2 1, 3) := by decide +kernel
theorem dX2_clones_28 : decode cX2_clones 28 = .ok (.goto (-24), 3) := by decide +kernel
theorem dX2_clones_31 : decode cX2_clones 31 = .ok (.iload_n 1, 1) := by decide +kernel
theorem dX2_clones_32 : decode cX2_clones 32 = .ok (.ireturn, 1) := by decide +kernel
set_option maxRecDepth 20000 in
theorem ggX2_movesInAll_X2_moveOf : GoodIn wsX2_movesInAll wsX2_moveOf := goodIn_r _ [7, 8, 9, 10, 11, 6, 12, 1, 13, 14, 15, 16, 2, 17, 18, 19, 20, 21, 22, 23, 24, 25, 26, 27, 28, 29, 30, 31, 32] rfl rfl
set_option maxRecDepth 20000 in
theorem gX2_movesInAll_X2_moveOf : GoodIn wsX2_movesInAll (wsV RX2 97 RX2 yX2_moveOf wsX2_moveOf) := goodIn_app (goodIn_r _ [3, 4, 5, 6] rfl rfl) ggX2_movesInAll_X2_moveOf
theorem dX2_movesInAll_0 : decode cX2_movesInAll 0 = .ok (.iconst 0, 1) := by decide +kernel
theorem dX2_movesInAll_1 : decode cX2_movesInAll 1 = .ok (.istore_n 1, 1) := by decide +kernel
theorem dX2_movesInAll_2 : decode cX2_movesInAll 2 = .ok (.iconst 0, 1) := by decide +kernel
theorem dX2_movesInAll_3 : decode cX2_movesInAll 3 = .ok (.istore_n 2, 1) := by decide +kernel
theorem dX2_movesInAll_4 : decode cX2_movesInAll 4 = .ok (.iload_n 2, 1) := by decide +kernel
theorem dX2_movesInAll_5 : decode cX2_movesInAll 5 = .ok (.aload_n 0, 1) := by decide +kernel
theorem dX2_movesInAll_6 : decode cX2_movesInAll 6 = .ok (.getfield 48, 3) := by decide +kernel
theorem dX2_movesInAll_9 : decode cX2_movesInAll 9 = .ok (.if_icmp .ge 39, 3) := by decide +kernel
theorem dX2_movesInAll_12 : decode cX2_movesInAll 12 = .ok (.iconst 0, 1) := by decide +kernel
theorem dX2_movesInAll_13 : decode cX2_movesInAll 13 = .ok (.istore_n 3, 1) := by decide +kernel
theorem dX2_movesInAll_14 : decode cX2_movesInAll 14 = .ok (.iload_n 3, 1) := by decide +kernel
theorem dX2_movesInAll_15 : decode cX2_movesInAll 15 = .ok (.aload_n 0, 1) := by decide +kernel
theorem dX2_movesInAll_16 : decode cX2_movesInAll 16 = .ok (.getfield 41, 3) := by decide +kernel
theorem dX2_movesInAll_19 : decode cX2_movesInAll 19 = .ok (.if_icmp .ge 23, 3) := by decide +kernel
theorem dX2_movesInAll_22 : decode cX2_movesInAll 22 = .ok (.aload_n 0, 1) := by decide +kernel
theorem dX2_movesInAll_23 : decode cX2_movesInAll 23 = .ok (.iload_n 2, 1) := by decide +kernel
theorem dX2_movesInAll_24 : decode cX2_movesInAll 24 = .ok (.iload_n 3, 1) := by decide +kernel
theorem dX2_movesInAll_25 : decode cX2_movesInAll 25 = .ok (.invokevirtual 97, 3) := by decide +kernel
theorem dX2_movesInAll_28 : decode cX2_movesInAll 28 = .ok (.bipush (-4), 2) := by decide +kernel
theorem dX2_movesInAll_30 : decode cX2_movesInAll 30 = .ok (.if_icmp .eq 6, 3) := by decide +kernel
theorem dX2_movesInAll_33 : decode cX2_movesInAll 33 = .ok (.iinc 1 1, 3) := by decide +kernel
theorem dX2_movesInAll_36 : decode cX2_movesInAll 36 = .ok (.iinc 3 1, 3) := by decide +kernel
theorem dX2_movesInAll_39 : decode cX2_movesInAll 39 = .ok (.goto (-25), 3) := by decide +kernel
theorem dX2_movesInAll_42 : decode cX2_movesInAll 42 = .ok (.iinc 2 1, 3) := by decide +kernel
theorem dX2_movesInAll_45 : decode cX2_movesInAll 45 = .ok (.goto (-41), 3) := by decide +kernel
theorem dX2_movesInAll_48 : decode cX2_movesInAll 48 = .ok (.iload_n 1, 1) := by decide +kernel
theorem dX2_movesInAll_49 : decode cX2_movesInAll 49 = .ok (.ireturn, 1) := by decide +kernel
theorem dX3_at_0 : decode cX3_at 0 = .ok (.aload_n 0, 1) := by decide +kernel
theorem dX3_at_1 : decode cX3_at 1 = .ok (.ifnull 19, 3) := by decide +kernel
theorem dX3_at_4 : decode cX3_at 4 = .ok (.iload_n 1, 1) := by decide +kernel
theorem dX3_at_5 : decode cX3_at 5 = .ok (.ifCond .lt 15, 3) := by decide +kernel
theorem dX3_at_8 : decode cX3_at 8 = .ok (.iload_n 1, 1) := by decide +kernel
theorem dX3_at_9 : decode cX3_at 9 = .ok (.aload_n 0, 1) := by decide +kernel
theorem dX3_at_10 : decode cX3_at 10 = .ok (.arraylength, 1) := by decide +kernel
theorem dX3_at_11 : decode cX3_at 11 = .ok (.if_icmp .ge 9, 3) := by decide +kernel
theorem dX3_at_14 : decode cX3_at 14 = .ok (.aload_n 0, 1) := by decide +kernel
theorem dX3_at_15 : decode cX3_at 15 = .ok (.iload_n 1, 1) := by decide +kernel
theorem dX3_at_16 : decode cX3_at 16 = .ok (.iaload, 1) := by decide +kernel
theorem dX3_at_17 : decode cX3_at 17 = .ok (.goto 4, 3) := by decide +kernel
theorem dX3_at_20 : decode cX3_at 20 = .ok (.iconst 0, 1) := by decide +kernel
theorem dX3_at_21 : decode cX3_at 21 = .ok (.ireturn, 1) := by decide +kernel
theorem dX3_at__0 : decode cX3_at_ 0 = .ok (.aload_n 0, 1) := by decide +kernel
theorem dX3_at__1 : decode cX3_at_ 1 = .ok (.ifnull 19, 3) := by decide +kernel
theorem dX3_at__4 : decode cX3_at_ 4 = .ok (.iload_n 1, 1) := by decide +kernel
theorem dX3_at__5 : decode cX3_at_ 5 = .ok (.ifCond .lt 15, 3) := by decide +kernel
theorem dX3_at__8 : decode cX3_at_ 8 = .ok (.iload_n 1, 1) := by decide +kernel
theorem dX3_at__9 : decode cX3_at_ 9 = .ok (.aload_n 0, 1) := by decide +kernel
theorem dX3_at__10 : decode cX3_at_ 10 = .ok (.arraylength, 1) := by decide +kernel
theorem dX3_at__11 : decode cX3_at_ 11 = .ok (.if_icmp .ge 9, 3) := by decide +kernel
theorem dX3_at__14 : decode cX3_at_ 14 = .ok (.aload_n 0, 1) := by decide +kernel
theorem dX3_at__15 : decode cX3_at_ 15 = .ok (.iload_n 1, 1) := by decide +kernel
theorem dX3_at__16 : decode cX3_at_ 16 = .ok (.laload, 1) := by decide +kernel
theorem dX3_at__17 : decode cX3_at_ 17 = .ok (.goto 4, 3) := by decide +kernel
theorem dX3_at__20 : decode cX3_at_ 20 = .ok (.lconst 0, 1) := by decide +kernel
theorem dX3_at__21 : decode cX3_at_ 21 = .ok (.lreturn, 1) := by decide +kernel
theorem dX3_put_0 : decode cX3_put 0 = .ok (.aload_n 0, 1) := by decide +kernel
theorem dX3_put_1 : decode cX3_put 1 = .ok (.ifnull 17, 3) := by decide +kernel
theorem dX3_put_4 : decode cX3_put 4 = .ok (.iload_n 1, 1) := by decide +kernel
theorem dX3_put_5 : decode cX3_put 5 = .ok (.ifCond .lt 13, 3) := by decide +kernel
theorem dX3_put_8 : decode cX3_put 8 = .ok (.iload_n 1, 1) := by decide +kernel
theorem dX3_put_9 : decode cX3_put 9 = .ok (.aload_n 0, 1) := by decide +kernel
theorem dX3_put_10 : decode cX3_put 10 = .ok (.arraylength, 1) := by decide +kernel
theorem dX3_put_11 : decode cX3_put 11 = .ok (.if_icmp .ge 7, 3) := by decide +kernel
theorem dX3_put_14 : decode cX3_put 14 = .ok (.aload_n 0, 1) := by decide +kernel
theorem dX3_put_15 : decode cX3_put 15 = .ok (.iload_n 1, 1) := by decide +kernel
theorem dX3_put_16 : decode cX3_put 16 = .ok (.iload_n 2, 1) := by decide +kernel
theorem dX3_put_17 : decode cX3_put 17 = .ok (.iastore, 1) := by decide +kernel
theorem dX3_put_18 : decode cX3_put 18 = .ok (.return_, 1) := by decide +kernel
theorem dX3_put__0 : decode cX3_put_ 0 = .ok (.aload_n 0, 1) := by decide +kernel
theorem dX3_put__1 : decode cX3_put_ 1 = .ok (.ifnull 17, 3) := by decide +kernel
theorem dX3_put__4 : decode cX3_put_ 4 = .ok (.iload_n 1, 1) := by decide +kernel
theorem dX3_put__5 : decode cX3_put_ 5 = .ok (.ifCond .lt 13, 3) := by decide +kernel
theorem dX3_put__8 : decode cX3_put_ 8 = .ok (.iload_n 1, 1) := by decide +kernel
theorem dX3_put__9 : decode cX3_put_ 9 = .ok (.aload_n 0, 1) := by decide +kernel
theorem dX3_put__10 : decode cX3_put_ 10 = .ok (.arraylength, 1) := by decide +kernel
theorem dX3_put__11 : decode cX3_put_ 11 = .ok (.if_icmp .ge 7, 3) := by decide +kernel
theorem dX3_put__14 : decode cX3_put_ 14 = .ok (.aload_n 0, 1) := by decide +kernel
theorem dX3_put__15 : decode cX3_put_ 15 = .ok (.iload_n 1, 1) := by decide +kernel
theorem dX3_put__16 : decode cX3_put_ 16 = .ok (.lload_n 2, 1) := by decide +kernel
theorem dX3_put__17 : decode cX3_put_ 17 = .ok (.lastore, 1) := by decide +kernel
theorem dX3_put__18 : decode cX3_put_ 18 = .ok (.return_, 1) := by decide +kernel
theorem dX4_init_0 : decode cX4_init 0 = .ok (.aload_n 0, 1) := by decide +kernel
theorem dX4_init_1 : decode cX4_init 1 = .ok (.invokespecial 3, 3) := by decide +kernel
theorem dX4_init_4 : decode cX4_init 4 = .ok (.aload_n 0, 1) := by decide +kernel
theorem dX4_init_5 : decode cX4_init 5 = .ok (.bipush 64, 2) := by decide +kernel
theorem dX4_init_7 : decode cX4_init 7 = .ok (.newarray .int, 2) := by decide +kernel
theorem dX4_init_9 : decode cX4_init 9 = .ok (.putfield 9, 3) := by decide +kernel
theorem dX4_init_12 : decode cX4_init 12 = .ok (.aload_n 0, 1) := by decide +kernel
theorem dX4_init_13 : decode cX4_init 13 = .ok (.iconst 0, 1) := by decide +kernel
theorem dX4_init_14 : decode cX4_init 14 = .ok (.putfield 15, 3) := by decide +kernel
theorem dX4_init_17 : decode cX4_init 17 = .ok (.aload_n 0, 1) := by decide +kernel
theorem dX4_init_18 : decode cX4_init 18 = .ok (.iconst 0, 1) := by decide +kernel
theorem dX4_init_19 : decode cX4_init 19 = .ok (.putfield 19, 3) := by decide +kernel
theorem dX4_init_22 : decode cX4_init 22 = .ok (.return_, 1) := by decide +kernel
set_option maxRecDepth 20000 in
theorem ggX4_layOut_X4_write : GoodIn wsX4_layOut wsX4_write := goodIn_r _ [7, 8, 9, 10, 11, 12, 13, 14, 15] rfl rfl
set_option maxRecDepth 20000 in
theorem gX4_layOut_X4_write : GoodIn wsX4_layOut (wsV RX4 23 RX4 yX4_write wsX4_write) := goodIn_app (goodIn_r _ [3, 4, 5, 6] rfl rfl) ggX4_layOut_X4_write
theorem dX4_layOut_0 : decode cX4_layOut 0 = .ok (.aload_n 0, 1) := by decide +kernel
theorem dX4_layOut_1 : decode cX4_layOut 1 = .ok (.iconst 1, 1) := by decide +kernel
theorem dX4_layOut_2 : decode cX4_layOut 2 = .ok (.putfield 15, 3) := by decide +kernel
theorem dX4_layOut_5 : decode cX4_layOut 5 = .ok (.aload_n 0, 1) := by decide +kernel
theorem dX4_layOut_6 : decode cX4_layOut 6 = .ok (.iload_n 1, 1) := by decide +kernel
theorem dX4_layOut_7 : decode cX4_layOut 7 = .ok (.putfield 19, 3) := by decide +kernel
theorem dX4_layOut_10 : decode cX4_layOut 10 = .ok (.iconst 0, 1) := by decide +kernel
theorem dX4_layOut_11 : decode cX4_layOut 11 = .ok (.istore_n 2, 1) := by decide +kernel
theorem dX4_layOut_12 : decode cX4_layOut 12 = .ok (.iload_n 2, 1) := by decide +kernel
theorem dX4_layOut_13 : decode cX4_layOut 13 = .ok (.iload_n 1, 1) := by decide +kernel
theorem dX4_layOut_14 : decode cX4_layOut 14 = .ok (.if_icmp .ge 16, 3) := by decide +kernel
theorem dX4_layOut_17 : decode cX4_layOut 17 = .ok (.aload_n 0, 1) := by decide +kernel
theorem dX4_layOut_18 : decode cX4_layOut 18 = .ok (.iload_n 2, 1) := by decide +kernel
theorem dX4_layOut_19 : decode cX4_layOut 19 = .ok (.bipush 97, 2) := by decide +kernel
theorem dX4_layOut_21 : decode cX4_layOut 21 = .ok (.invokevirtual 23, 3) := by decide +kernel
theorem dX4_layOut_24 : decode cX4_layOut 24 = .ok (.iinc 2 1, 3) := by decide +kernel
theorem dX4_layOut_27 : decode cX4_layOut 27 = .ok (.goto (-15), 3) := by decide +kernel
theorem dX4_layOut_30 : decode cX4_layOut 30 = .ok (.return_, 1) := by decide +kernel
theorem dX4_takeAway_0 : decode cX4_takeAway 0 = .ok (.aload_n 0, 1) := by decide +kernel
theorem dX4_takeAway_1 : decode cX4_takeAway 1 = .ok (.iconst 0, 1) := by decide +kernel
theorem dX4_takeAway_2 : decode cX4_takeAway 2 = .ok (.putfield 15, 3) := by decide +kernel
theorem dX4_takeAway_5 : decode cX4_takeAway 5 = .ok (.aload_n 0, 1) := by decide +kernel
theorem dX4_takeAway_6 : decode cX4_takeAway 6 = .ok (.iconst 0, 1) := by decide +kernel
theorem dX4_takeAway_7 : decode cX4_takeAway 7 = .ok (.putfield 19, 3) := by decide +kernel
theorem dX4_takeAway_10 : decode cX4_takeAway 10 = .ok (.return_, 1) := by decide +kernel
theorem dX4_hasPlace_0 : decode cX4_hasPlace 0 = .ok (.iload_n 1, 1) := by decide +kernel
theorem dX4_hasPlace_1 : decode cX4_hasPlace 1 = .ok (.ifCond .lt 15, 3) := by decide +kernel
theorem dX4_hasPlace_4 : decode cX4_hasPlace 4 = .ok (.iload_n 1, 1) := by decide +kernel
theorem dX4_hasPlace_5 : decode cX4_hasPlace 5 = .ok (.aload_n 0, 1) := by decide +kernel
theorem dX4_hasPlace_6 : decode cX4_hasPlace 6 = .ok (.getfield 19, 3) := by decide +kernel
theorem dX4_hasPlace_9 : decode cX4_hasPlace 9 = .ok (.if_icmp .ge 7, 3) := by decide +kernel
theorem dX4_hasPlace_12 : decode cX4_hasPlace 12 = .ok (.iconst 1, 1) := by decide +kernel
theorem dX4_hasPlace_13 : decode cX4_hasPlace 13 = .ok (.goto 4, 3) := by decide +kernel
theorem dX4_hasPlace_16 : decode cX4_hasPlace 16 = .ok (.iconst 0, 1) := by decide +kernel
theorem dX4_hasPlace_17 : decode cX4_hasPlace 17 = .ok (.ireturn, 1) := by decide +kernel
set_option maxRecDepth 20000 in
theorem ggX4_signAt_X3_at : GoodIn wsX4_signAt wsX3_at := goodIn_r _ [5] rfl rfl
set_option maxRecDepth 20000 in
theorem gX4_signAt_X3_at : GoodIn wsX4_signAt (va_wsS RX4 27 yX3_at wsX3_at) := goodIn_app (goodIn_r _ [2, 3, 4] rfl rfl) ggX4_signAt_X3_at
theorem dX4_signAt_0 : decode cX4_signAt 0 = .ok (.aload_n 0, 1) := by decide +kernel
theorem dX4_signAt_1 : decode cX4_signAt 1 = .ok (.getfield 9, 3) := by decide +kernel
theorem dX4_signAt_4 : decode cX4_signAt 4 = .ok (.iload_n 1, 1) := by decide +kernel
theorem dX4_signAt_5 : decode cX4_signAt 5 = .ok (.invokestatic 27, 3) := by decide +kernel
theorem dX4_signAt_8 : decode cX4_signAt 8 = .ok (.ireturn, 1) := by decide +kernel
set_option maxRecDepth 20000 in
theorem ggX4_write_X3_put : GoodIn wsX4_write wsX3_put := goodIn_r _ [5] rfl rfl
set_option maxRecDepth 20000 in
theorem gX4_write_X3_put : GoodIn wsX4_write (va_wsS RX4 33 yX3_put wsX3_put) := goodIn_app (goodIn_r _ [2, 3, 4] rfl rfl) ggX4_write_X3_put
theorem dX4_write_0 : decode cX4_write 0 = .ok (.aload_n 0, 1) := by decide +kernel
theorem dX4_write_1 : decode cX4_write 1 = .ok (.getfield 9, 3) := by decide +kernel
theorem dX4_write_4 : decode cX4_write 4 = .ok (.iload_n 1, 1) := by decide +kernel
theorem dX4_write_5 : decode cX4_write 5 = .ok (.iload_n 2, 1) := by decide +kernel
theorem dX4_write_6 : decode cX4_write 6 = .ok (.invokestatic 33, 3) := by decide +kernel
theorem dX4_write_9 : decode cX4_write 9 = .ok (.return_, 1) := by decide +kernel
set_option maxRecDepth 20000 in
theorem ggX4_letterAt_X4_signAt : GoodIn wsX4_letterAt wsX4_signAt := goodIn_r _ [5, 6, 7, 8, 9, 10, 11, 12, 13] rfl rfl
set_option maxRecDepth 20000 in
theorem gX4_letterAt_X4_signAt : GoodIn wsX4_letterAt (wsV RX4 37 RX4 yX4_signAt wsX4_signAt) := goodIn_app (goodIn_r _ [1, 2, 3, 4] rfl rfl) ggX4_letterAt_X4_signAt
theorem dX4_letterAt_0 : decode cX4_letterAt 0 = .ok (.aload_n 0, 1) := by decide +kernel
theorem dX4_letterAt_1 : decode cX4_letterAt 1 = .ok (.iload_n 1, 1) := by decide +kernel
theorem dX4_letterAt_2 : decode cX4_letterAt 2 = .ok (.invokevirtual 37, 3) := by decide +kernel
theorem dX4_letterAt_5 : decode cX4_letterAt 5 = .ok (.bipush 97, 2) := by decide +kernel
theorem dX4_letterAt_7 : decode cX4_letterAt 7 = .ok (.isub, 1) := by decide +kernel
theorem dX4_letterAt_8 : decode cX4_letterAt 8 = .ok (.ireturn, 1) := by decide +kernel
set_option maxRecDepth 20000 in
theorem ggX4_addLetter_X4_write : GoodIn wsX4_addLetter wsX4_write := goodIn_r _ [6, 7, 8, 9, 10, 11, 12, 13, 14] rfl rfl
set_option maxRecDepth 20000 in
theorem gX4_addLetter_X4_write : GoodIn wsX4_addLetter (wsV RX4 23 RX4 yX4_write wsX4_write) := goodIn_app (goodIn_r _ [2, 3, 4, 5] rfl rfl) ggX4_addLetter_X4_write
theorem dX4_addLetter_0 : decode cX4_addLetter 0 = .ok (.aload_n 0, 1) := by decide +kernel
theorem dX4_addLetter_1 : decode cX4_addLetter 1 = .ok (.getfield 19, 3) := by decide +kernel
theorem dX4_addLetter_4 : decode cX4_addLetter 4 = .ok (.bipush 64, 2) := by decide +kernel
theorem dX4_addLetter_6 : decode cX4_addLetter 6 = .ok (.if_icmp .ge 25, 3) := by decide +kernel
theorem dX4_addLetter_9 : decode cX4_addLetter 9 = .ok (.aload_n 0, 1) := by decide +kernel
theorem dX4_addLetter_10 : decode cX4_addLetter 10 = .ok (.aload_n 0, 1) := by decide +kernel
theorem dX4_addLetter_11 : decode cX4_addLetter 11 = .ok (.getfield 19, 3) := by decide +kernel
theorem dX4_addLetter_14 : decode cX4_addLetter 14 = .ok (.bipush 97, 2) := by decide +kernel
theorem dX4_addLetter_16 : decode cX4_addLetter 16 = .ok (.iload_n 1, 1) := by decide +kernel
theorem dX4_addLetter_17 : decode cX4_addLetter 17 = .ok (.iadd, 1) := by decide +kernel
theorem dX4_addLetter_18 : decode cX4_addLetter 18 = .ok (.invokevirtual 23, 3) := by decide +kernel
theorem dX4_addLetter_21 : decode cX4_addLetter 21 = .ok (.aload_n 0, 1) := by decide +kernel
theorem dX4_addLetter_22 : decode cX4_addLetter 22 = .ok (.dup, 1) := by decide +kernel
theorem dX4_addLetter_23 : decode cX4_addLetter 23 = .ok (.getfield 19, 3) := by decide +kernel
theorem dX4_addLetter_26 : decode cX4_addLetter 26 = .ok (.iconst 1, 1) := by decide +kernel
theorem dX4_addLetter_27 : decode cX4_addLetter 27 = .ok (.iadd, 1) := by decide +kernel
theorem dX4_addLetter_28 : decode cX4_addLetter 28 = .ok (.putfield 19, 3) := by decide +kernel
theorem dX4_addLetter_31 : decode cX4_addLetter 31 = .ok (.return_, 1) := by decide +kernel
set_option maxRecDepth 20000 in
theorem ggX4_copyWord_X4_layOut : GoodIn wsX4_copyWord wsX4_layOut := goodIn_r _ [5, 6, 7, 8, 9, 10, 4, 11, 12, 13, 14, 15, 16, 30, 31, 32] rfl rfl
set_option maxRecDepth 20000 in
theorem gX4_copyWord_X4_layOut : GoodIn wsX4_copyWord (wsV RX4 41 RX4 yX4_layOut wsX4_layOut) := goodIn_app (goodIn_r _ [1, 2, 3, 4] rfl rfl) ggX4_copyWord_X4_layOut
set_option maxRecDepth 20000 in
theorem ggX4_copyWord_X2_letterAt : GoodIn wsX4_copyWord wsX2_letterAt := goodIn_r _ [21, 22, 23, 24, 15, 25, 33, 34, 35, 36, 37, 38, 39, 40, 41, 42, 43, 44] rfl rfl
set_option maxRecDepth 20000 in
theorem gX4_copyWord_X2_letterAt : GoodIn wsX4_copyWord (wsV RX4 45 RX2 yX2_letterAt wsX2_letterAt) := goodIn_app (goodIn_r _ [17, 18, 19, 20] rfl rfl) ggX4_copyWord_X2_letterAt
set_option maxRecDepth 20000 in
theorem ggX4_copyWord_X4_addLetter : GoodIn wsX4_copyWord wsX4_addLetter := goodIn_r _ [29, 7, 8, 9, 10, 4, 11, 12, 13, 14, 15, 16, 30, 31, 32] rfl rfl
set_option maxRecDepth 20000 in
theorem gX4_copyWord_X4_addLetter : GoodIn wsX4_copyWord (wsV RX4 50 RX4 yX4_addLetter wsX4_addLetter) := goodIn_app (goodIn_r _ [26, 27, 28, 4] rfl rfl) ggX4_copyWord_X4_addLetter
theorem dX4_copyWord_0 : decode cX4_copyWord 0 = .ok (.aload_n 0, 1) := by decide +kernel
theorem dX4_copyWord_1 : decode cX4_copyWord 1 = .ok (.iconst 0, 1) := by decide +kernel
theorem dX4_copyWord_2 : decode cX4_copyWord 2 = .ok (.invokevirtual 41, 3) := by decide +kernel
theorem dX4_copyWord_5 : decode cX4_copyWord 5 = .ok (.iload_n 2, 1) := by decide +kernel
theorem dX4_copyWord_6 : decode cX4_copyWord 6 = .ok (.iload_n 3, 1) := by decide +kernel
theorem dX4_copyWord_7 : decode cX4_copyWord 7 = .ok (.isub, 1) := by decide +kernel
theorem dX4_copyWord_8 : decode cX4_copyWord 8 = .ok (.istore 4, 2) := by decide +kernel
theorem dX4_copyWord_10 : decode cX4_copyWord 10 = .ok (.iload 4, 2) := by decide +kernel
theorem dX4_copyWord_12 : decode cX4_copyWord 12 = .ok (.iload_n 2, 1) := by decide +kernel
theorem dX4_copyWord_13 : decode cX4_copyWord 13 = .ok (.if_icmp .ge 19, 3) := by decide +kernel
theorem dX4_copyWord_16 : decode cX4_copyWord 16 = .ok (.aload_n 0, 1) := by decide +kernel
theorem dX4_copyWord_17 : decode cX4_copyWord 17 = .ok (.aload_n 1, 1) := by decide +kernel
theorem dX4_copyWord_18 : decode cX4_copyWord 18 = .ok (.iload 4, 2) := by decide +kernel
theorem dX4_copyWord_20 : decode cX4_copyWord 20 = .ok (.invokevirtual 45, 3) := by decide +kernel
theorem dX4_copyWord_23 : decode cX4_copyWord 23 = .ok (.invokevirtual 50, 3) := by decide +kernel
theorem dX4_copyWord_26 : decode cX4_copyWord 26 = .ok (.iinc 4 1, 3) := by decide +kernel
theorem dX4_copyWord_29 : decode cX4_copyWord 29 = .ok (.goto (-19), 3) := by decide +kernel
theorem dX4_copyWord_32 : decode cX4_copyWord 32 = .ok (.return_, 1) := by decide +kernel
theorem dX5_init_0 : decode cX5_init 0 = .ok (.aload_n 0, 1) := by decide +kernel
theorem dX5_init_1 : decode cX5_init 1 = .ok (.invokespecial 3, 3) := by decide +kernel
theorem dX5_init_4 : decode cX5_init 4 = .ok (.aload_n 0, 1) := by decide +kernel
theorem dX5_init_5 : decode cX5_init 5 = .ok (.aload_n 1, 1) := by decide +kernel
theorem dX5_init_6 : decode cX5_init 6 = .ok (.putfield 9, 3) := by decide +kernel
theorem dX5_init_9 : decode cX5_init 9 = .ok (.aload_n 0, 1) := by decide +kernel
theorem dX5_init_10 : decode cX5_init 10 = .ok (.bipush 62, 2) := by decide +kernel
theorem dX5_init_12 : decode cX5_init 12 = .ok (.newarray .int, 2) := by decide +kernel
theorem dX5_init_14 : decode cX5_init 14 = .ok (.putfield 15, 3) := by decide +kernel
theorem dX5_init_17 : decode cX5_init 17 = .ok (.aload_n 0, 1) := by decide +kernel
theorem dX5_init_18 : decode cX5_init 18 = .ok (.bipush 121, 2) := by decide +kernel
theorem dX5_init_20 : decode cX5_init 20 = .ok (.newarray .int, 2) := by decide +kernel
theorem dX5_init_22 : decode cX5_init 22 = .ok (.putfield 19, 3) := by decide +kernel
theorem dX5_init_25 : decode cX5_init 25 = .ok (.aload_n 0, 1) := by decide +kernel
theorem dX5_init_26 : decode cX5_init 26 = .ok (.bipush 121, 2) := by decide +kernel
theorem dX5_init_28 : decode cX5_init 28 = .ok (.newarray .int, 2) := by decide +kernel
theorem dX5_init_30 : decode cX5_init 30 = .ok (.putfield 22, 3) := by decide +kernel
theorem dX5_init_33 : decode cX5_init 33 = .ok (.aload_n 0, 1) := by decide +kernel
theorem dX5_init_34 : decode cX5_init 34 = .ok (.bipush 61, 2) := by decide +kernel
theorem dX5_init_36 : decode cX5_init 36 = .ok (.newarray .long, 2) := by decide +kernel
theorem dX5_init_38 : decode cX5_init 38 = .ok (.putfield 25, 3) := by decide +kernel
theorem dX5_init_41 : decode cX5_init 41 = .ok (.return_, 1) := by decide +kernel
