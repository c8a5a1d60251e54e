set_option maxRecDepth 20000 in
theorem ggX5_stateOf_X4_letterAt : GoodIn wsX5_stateOf wsX4_letterAt := goodIn_r _ [7, 8, 9, 10, 6, 11, 12, 13, 14, 15, 16, 34, 35, 36] rfl rfl
set_option maxRecDepth 20000 in
theorem gX5_stateOf_X4_letterAt : GoodIn wsX5_stateOf (wsV RX5 35 RX4 yX4_letterAt wsX4_letterAt) := goodIn_app (goodIn_r _ [3, 4, 5, 6] rfl rfl) ggX5_stateOf_X4_letterAt
set_option maxRecDepth 20000 in
theorem ggX5_stateOf_X2_moveOf : GoodIn wsX5_stateOf wsX2_moveOf := goodIn_r _ [21, 22, 23, 24, 25, 20, 26, 27, 28, 29, 30, 31, 32, 33, 14, 15, 16, 42, 43, 44, 45, 46, 47, 48, 49, 50, 51, 52, 53] rfl rfl
set_option maxRecDepth 20000 in
theorem gX5_stateOf_X2_moveOf : GoodIn wsX5_stateOf (wsV RX5 39 RX2 yX2_moveOf wsX2_moveOf) := goodIn_app (goodIn_r _ [17, 18, 19, 20] rfl rfl) ggX5_stateOf_X2_moveOf
theorem dX5_stateOf_0 : decode cX5_stateOf 0 = .ok (.iconst 0, 1) := by decide +kernel
theorem dX5_stateOf_1 : decode cX5_stateOf 1 = .ok (.istore_n 2, 1) := by decide +kernel
theorem dX5_stateOf_2 : decode cX5_stateOf 2 = .ok (.iconst 0, 1) := by decide +kernel
theorem dX5_stateOf_3 : decode cX5_stateOf 3 = .ok (.istore_n 3, 1) := by decide +kernel
theorem dX5_stateOf_4 : decode cX5_stateOf 4 = .ok (.iload_n 3, 1) := by decide +kernel
theorem dX5_stateOf_5 : decode cX5_stateOf 5 = .ok (.aload_n 1, 1) := by decide +kernel
theorem dX5_stateOf_6 : decode cX5_stateOf 6 = .ok (.getfield 29, 3) := by decide +kernel
theorem dX5_stateOf_9 : decode cX5_stateOf 9 = .ok (.if_icmp .ge 29, 3) := by decide +kernel
theorem dX5_stateOf_12 : decode cX5_stateOf 12 = .ok (.iload_n 2, 1) := by decide +kernel
theorem dX5_stateOf_13 : decode cX5_stateOf 13 = .ok (.bipush (-4), 2) := by decide +kernel
theorem dX5_stateOf_15 : decode cX5_stateOf 15 = .ok (.if_icmp .eq 23, 3) := by decide +kernel
theorem dX5_stateOf_18 : decode cX5_stateOf 18 = .ok (.aload_n 0, 1) := by decide +kernel
theorem dX5_stateOf_19 : decode cX5_stateOf 19 = .ok (.getfield 9, 3) := by decide +kernel
theorem dX5_stateOf_22 : decode cX5_stateOf 22 = .ok (.iload_n 2, 1) := by decide +kernel
theorem dX5_stateOf_23 : decode cX5_stateOf 23 = .ok (.aload_n 1, 1) := by decide +kernel
theorem dX5_stateOf_24 : decode cX5_stateOf 24 = .ok (.iload_n 3, 1) := by decide +kernel
theorem dX5_stateOf_25 : decode cX5_stateOf 25 = .ok (.invokevirtual 35, 3) := by decide +kernel
theorem dX5_stateOf_28 : decode cX5_stateOf 28 = .ok (.invokevirtual 39, 3) := by decide +kernel
theorem dX5_stateOf_31 : decode cX5_stateOf 31 = .ok (.istore_n 2, 1) := by decide +kernel
theorem dX5_stateOf_32 : decode cX5_stateOf 32 = .ok (.iinc 3 1, 3) := by decide +kernel
theorem dX5_stateOf_35 : decode cX5_stateOf 35 = .ok (.goto (-31), 3) := by decide +kernel
theorem dX5_stateOf_38 : decode cX5_stateOf 38 = .ok (.iload_n 2, 1) := by decide +kernel
theorem dX5_stateOf_39 : decode cX5_stateOf 39 = .ok (.ireturn, 1) := by decide +kernel
set_option maxRecDepth 20000 in
theorem ggX5_unlikeUpTo_X2_againAt : GoodIn wsX5_unlikeUpTo wsX2_againAt := goodIn_r _ [6, 7, 8, 9, 10, 11, 17, 18, 19, 20, 21, 22, 23, 24, 25, 26, 27, 28] rfl rfl
set_option maxRecDepth 20000 in
theorem gX5_unlikeUpTo_X2_againAt : GoodIn wsX5_unlikeUpTo (wsV RX5 45 RX2 yX2_againAt wsX2_againAt) := goodIn_app (goodIn_r _ [2, 3, 4, 5] rfl rfl) ggX5_unlikeUpTo_X2_againAt
theorem dX5_unlikeUpTo_0 : decode cX5_unlikeUpTo 0 = .ok (.iconst 0, 1) := by decide +kernel
theorem dX5_unlikeUpTo_1 : decode cX5_unlikeUpTo 1 = .ok (.istore_n 2, 1) := by decide +kernel
theorem dX5_unlikeUpTo_2 : decode cX5_unlikeUpTo 2 = .ok (.iconst 1, 1) := by decide +kernel
theorem dX5_unlikeUpTo_3 : decode cX5_unlikeUpTo 3 = .ok (.istore_n 3, 1) := by decide +kernel
theorem dX5_unlikeUpTo_4 : decode cX5_unlikeUpTo 4 = .ok (.iload_n 3, 1) := by decide +kernel
theorem dX5_unlikeUpTo_5 : decode cX5_unlikeUpTo 5 = .ok (.iload_n 1, 1) := by decide +kernel
theorem dX5_unlikeUpTo_6 : decode cX5_unlikeUpTo 6 = .ok (.if_icmp .gt 22, 3) := by decide +kernel
theorem dX5_unlikeUpTo_9 : decode cX5_unlikeUpTo 9 = .ok (.iload_n 2, 1) := by decide +kernel
theorem dX5_unlikeUpTo_10 : decode cX5_unlikeUpTo 10 = .ok (.iload_n 3, 1) := by decide +kernel
theorem dX5_unlikeUpTo_11 : decode cX5_unlikeUpTo 11 = .ok (.aload_n 0, 1) := by decide +kernel
theorem dX5_unlikeUpTo_12 : decode cX5_unlikeUpTo 12 = .ok (.getfield 9, 3) := by decide +kernel
theorem dX5_unlikeUpTo_15 : decode cX5_unlikeUpTo 15 = .ok (.iload_n 3, 1) := by decide +kernel
theorem dX5_unlikeUpTo_16 : decode cX5_unlikeUpTo 16 = .ok (.invokevirtual 45, 3) := by decide +kernel
theorem dX5_unlikeUpTo_19 : decode cX5_unlikeUpTo 19 = .ok (.isub, 1) := by decide +kernel
theorem dX5_unlikeUpTo_20 : decode cX5_unlikeUpTo 20 = .ok (.iadd, 1) := by decide +kernel
theorem dX5_unlikeUpTo_21 : decode cX5_unlikeUpTo 21 = .ok (.istore_n 2, 1) := by decide +kernel
theorem dX5_unlikeUpTo_22 : decode cX5_unlikeUpTo 22 = .ok (.iinc 3 1, 3) := by decide +kernel
theorem dX5_unlikeUpTo_25 : decode cX5_unlikeUpTo 25 = .ok (.goto (-21), 3) := by decide +kernel
theorem dX5_unlikeUpTo_28 : decode cX5_unlikeUpTo 28 = .ok (.iload_n 2, 1) := by decide +kernel
theorem dX5_unlikeUpTo_29 : decode cX5_unlikeUpTo 29 = .ok (.ireturn, 1) := by decide +kernel
set_option maxRecDepth 20000 in
theorem ggX5_lengthsTogether_X5_sumUpTo : GoodIn wsX5_lengthsTogether wsX5_sumUpTo := goodIn_r _ [6] rfl rfl
set_option maxRecDepth 20000 in
theorem gX5_lengthsTogether_X5_sumUpTo : GoodIn wsX5_lengthsTogether (va_wsS RX5 49 yX5_sumUpTo wsX5_sumUpTo) := goodIn_app (goodIn_r _ [3, 4, 5] rfl rfl) ggX5_lengthsTogether_X5_sumUpTo
set_option maxRecDepth 20000 in
theorem ggX5_lengthsTogether_X2_againAt : GoodIn wsX5_lengthsTogether wsX2_againAt := goodIn_r _ [11, 12, 13, 14, 15, 16, 22, 23, 24, 25, 26, 27, 28, 29, 30, 31, 32, 33] rfl rfl
set_option maxRecDepth 20000 in
theorem gX5_lengthsTogether_X2_againAt : GoodIn wsX5_lengthsTogether (wsV RX5 45 RX2 yX2_againAt wsX2_againAt) := goodIn_app (goodIn_r _ [7, 8, 9, 10] rfl rfl) ggX5_lengthsTogether_X2_againAt
theorem dX5_lengthsTogether_0 : decode cX5_lengthsTogether 0 = .ok (.iconst 0, 1) := by decide +kernel
theorem dX5_lengthsTogether_1 : decode cX5_lengthsTogether 1 = .ok (.istore_n 1, 1) := by decide +kernel
theorem dX5_lengthsTogether_2 : decode cX5_lengthsTogether 2 = .ok (.iconst 1, 1) := by decide +kernel
theorem dX5_lengthsTogether_3 : decode cX5_lengthsTogether 3 = .ok (.istore_n 2, 1) := by decide +kernel
theorem dX5_lengthsTogether_4 : decode cX5_lengthsTogether 4 = .ok (.iload_n 2, 1) := by decide +kernel
theorem dX5_lengthsTogether_5 : decode cX5_lengthsTogether 5 = .ok (.aload_n 0, 1) := by decide +kernel
theorem dX5_lengthsTogether_6 : decode cX5_lengthsTogether 6 = .ok (.getfield 9, 3) := by decide +kernel
theorem dX5_lengthsTogether_9 : decode cX5_lengthsTogether 9 = .ok (.getfield 48, 3) := by decide +kernel
theorem dX5_lengthsTogether_12 : decode cX5_lengthsTogether 12 = .ok (.if_icmp .gt 28, 3) := by decide +kernel
theorem dX5_lengthsTogether_15 : decode cX5_lengthsTogether 15 = .ok (.iload_n 1, 1) := by decide +kernel
theorem dX5_lengthsTogether_16 : decode cX5_lengthsTogether 16 = .ok (.iload_n 2, 1) := by decide +kernel
theorem dX5_lengthsTogether_17 : decode cX5_lengthsTogether 17 = .ok (.invokestatic 49, 3) := by decide +kernel
theorem dX5_lengthsTogether_20 : decode cX5_lengthsTogether 20 = .ok (.aload_n 0, 1) := by decide +kernel
theorem dX5_lengthsTogether_21 : decode cX5_lengthsTogether 21 = .ok (.getfield 9, 3) := by decide +kernel
theorem dX5_lengthsTogether_24 : decode cX5_lengthsTogether 24 = .ok (.iload_n 2, 1) := by decide +kernel
theorem dX5_lengthsTogether_25 : decode cX5_lengthsTogether 25 = .ok (.invokevirtual 45, 3) := by decide +kernel
theorem dX5_lengthsTogether_28 : decode cX5_lengthsTogether 28 = .ok (.invokestatic 49, 3) := by decide +kernel
theorem dX5_lengthsTogether_31 : decode cX5_lengthsTogether 31 = .ok (.isub, 1) := by decide +kernel
theorem dX5_lengthsTogether_32 : decode cX5_lengthsTogether 32 = .ok (.iadd, 1) := by decide +kernel
theorem dX5_lengthsTogether_33 : decode cX5_lengthsTogether 33 = .ok (.istore_n 1, 1) := by decide +kernel
theorem dX5_lengthsTogether_34 : decode cX5_lengthsTogether 34 = .ok (.iinc 2 1, 3) := by decide +kernel
theorem dX5_lengthsTogether_37 : decode cX5_lengthsTogether 37 = .ok (.goto (-33), 3) := by decide +kernel
theorem dX5_lengthsTogether_40 : decode cX5_lengthsTogether 40 = .ok (.iload_n 1, 1) := by decide +kernel
theorem dX5_lengthsTogether_41 : decode cX5_lengthsTogether 41 = .ok (.ireturn, 1) := by decide +kernel
theorem dX5_sumUpTo_0 : decode cX5_sumUpTo 0 = .ok (.iload_n 0, 1) := by decide +kernel
theorem dX5_sumUpTo_1 : decode cX5_sumUpTo 1 = .ok (.iload_n 0, 1) := by decide +kernel
theorem dX5_sumUpTo_2 : decode cX5_sumUpTo 2 = .ok (.iconst 1, 1) := by decide +kernel
theorem dX5_sumUpTo_3 : decode cX5_sumUpTo 3 = .ok (.iadd, 1) := by decide +kernel
theorem dX5_sumUpTo_4 : decode cX5_sumUpTo 4 = .ok (.imul, 1) := by decide +kernel
theorem dX5_sumUpTo_5 : decode cX5_sumUpTo 5 = .ok (.iconst 2, 1) := by decide +kernel
theorem dX5_sumUpTo_6 : decode cX5_sumUpTo 6 = .ok (.idiv, 1) := by decide +kernel
theorem dX5_sumUpTo_7 : decode cX5_sumUpTo 7 = .ok (.ireturn, 1) := by decide +kernel
set_option maxRecDepth 20000 in
theorem ggX5_wordsOfLength_X2_againAt : GoodIn wsX5_wordsOfLength wsX2_againAt := goodIn_r _ [7, 8, 9, 10, 11, 12, 18, 19, 20, 21, 22, 23, 24, 25, 26, 27, 28, 29] rfl rfl
set_option maxRecDepth 20000 in
theorem gX5_wordsOfLength_X2_againAt : GoodIn wsX5_wordsOfLength (wsV RX5 45 RX2 yX2_againAt wsX2_againAt) := goodIn_app (goodIn_r _ [3, 4, 5, 6] rfl rfl) ggX5_wordsOfLength_X2_againAt
theorem dX5_wordsOfLength_0 : decode cX5_wordsOfLength 0 = .ok (.iconst 0, 1) := by decide +kernel
theorem dX5_wordsOfLength_1 : decode cX5_wordsOfLength 1 = .ok (.istore_n 2, 1) := by decide +kernel
theorem dX5_wordsOfLength_2 : decode cX5_wordsOfLength 2 = .ok (.iload_n 1, 1) := by decide +kernel
theorem dX5_wordsOfLength_3 : decode cX5_wordsOfLength 3 = .ok (.istore_n 3, 1) := by decide +kernel
theorem dX5_wordsOfLength_4 : decode cX5_wordsOfLength 4 = .ok (.iload_n 3, 1) := by decide +kernel
theorem dX5_wordsOfLength_5 : decode cX5_wordsOfLength 5 = .ok (.aload_n 0, 1) := by decide +kernel
theorem dX5_wordsOfLength_6 : decode cX5_wordsOfLength 6 = .ok (.getfield 9, 3) := by decide +kernel
theorem dX5_wordsOfLength_9 : decode cX5_wordsOfLength 9 = .ok (.getfield 48, 3) := by decide +kernel
theorem dX5_wordsOfLength_12 : decode cX5_wordsOfLength 12 = .ok (.if_icmp .gt 24, 3) := by decide +kernel
theorem dX5_wordsOfLength_15 : decode cX5_wordsOfLength 15 = .ok (.aload_n 0, 1) := by decide +kernel
theorem dX5_wordsOfLength_16 : decode cX5_wordsOfLength 16 = .ok (.getfield 9, 3) := by decide +kernel
theorem dX5_wordsOfLength_19 : decode cX5_wordsOfLength 19 = .ok (.iload_n 3, 1) := by decide +kernel
theorem dX5_wordsOfLength_20 : decode cX5_wordsOfLength 20 = .ok (.invokevirtual 45, 3) := by decide +kernel
theorem dX5_wordsOfLength_23 : decode cX5_wordsOfLength 23 = .ok (.iload_n 1, 1) := by decide +kernel
theorem dX5_wordsOfLength_24 : decode cX5_wordsOfLength 24 = .ok (.if_icmp .ge 6, 3) := by decide +kernel
theorem dX5_wordsOfLength_27 : decode cX5_wordsOfLength 27 = .ok (.iinc 2 1, 3) := by decide +kernel
theorem dX5_wordsOfLength_30 : decode cX5_wordsOfLength 30 = .ok (.iinc 3 1, 3) := by decide +kernel
theorem dX5_wordsOfLength_33 : decode cX5_wordsOfLength 33 = .ok (.goto (-29), 3) := by decide +kernel
theorem dX5_wordsOfLength_36 : decode cX5_wordsOfLength 36 = .ok (.iload_n 2, 1) := by decide +kernel
theorem dX5_wordsOfLength_37 : decode cX5_wordsOfLength 37 = .ok (.ireturn, 1) := by decide +kernel
set_option maxRecDepth 20000 in
theorem ggX5_firstTwice_X2_againAt : GoodIn wsX5_firstTwice wsX2_againAt := goodIn_r _ [7, 8, 9, 10, 11, 12, 18, 19, 20, 21, 22, 23, 24, 25, 26, 27, 28, 29] rfl rfl
set_option maxRecDepth 20000 in
theorem gX5_firstTwice_X2_againAt : GoodIn wsX5_firstTwice (wsV RX5 45 RX2 yX2_againAt wsX2_againAt) := goodIn_app (goodIn_r _ [3, 4, 5, 6] rfl rfl) ggX5_firstTwice_X2_againAt
theorem dX5_firstTwice_0 : decode cX5_firstTwice 0 = .ok (.iconst 1, 1) := by decide +kernel
theorem dX5_firstTwice_1 : decode cX5_firstTwice 1 = .ok (.istore_n 2, 1) := by decide +kernel
theorem dX5_firstTwice_2 : decode cX5_firstTwice 2 = .ok (.iload_n 2, 1) := by decide +kernel
theorem dX5_firstTwice_3 : decode cX5_firstTwice 3 = .ok (.aload_n 0, 1) := by decide +kernel
theorem dX5_firstTwice_4 : decode cX5_firstTwice 4 = .ok (.getfield 9, 3) := by decide +kernel
theorem dX5_firstTwice_7 : decode cX5_firstTwice 7 = .ok (.getfield 48, 3) := by decide +kernel
theorem dX5_firstTwice_10 : decode cX5_firstTwice 10 = .ok (.if_icmp .gt 23, 3) := by decide +kernel
theorem dX5_firstTwice_13 : decode cX5_firstTwice 13 = .ok (.aload_n 0, 1) := by decide +kernel
theorem dX5_firstTwice_14 : decode cX5_firstTwice 14 = .ok (.getfield 9, 3) := by decide +kernel
theorem dX5_firstTwice_17 : decode cX5_firstTwice 17 = .ok (.iload_n 2, 1) := by decide +kernel
theorem dX5_firstTwice_18 : decode cX5_firstTwice 18 = .ok (.invokevirtual 45, 3) := by decide +kernel
theorem dX5_firstTwice_21 : decode cX5_firstTwice 21 = .ok (.iload_n 1, 1) := by decide +kernel
theorem dX5_firstTwice_22 : decode cX5_firstTwice 22 = .ok (.if_icmp .lt 5, 3) := by decide +kernel
theorem dX5_firstTwice_25 : decode cX5_firstTwice 25 = .ok (.iload_n 2, 1) := by decide +kernel
theorem dX5_firstTwice_26 : decode cX5_firstTwice 26 = .ok (.ireturn, 1) := by decide +kernel
theorem dX5_firstTwice_27 : decode cX5_firstTwice 27 = .ok (.iinc 2 1, 3) := by decide +kernel
theorem dX5_firstTwice_30 : decode cX5_firstTwice 30 = .ok (.goto (-28), 3) := by decide +kernel
theorem dX5_firstTwice_33 : decode cX5_firstTwice 33 = .ok (.bipush (-4), 2) := by decide +kernel
theorem dX5_firstTwice_35 : decode cX5_firstTwice 35 = .ok (.ireturn, 1) := by decide +kernel
set_option maxRecDepth 20000 in
theorem ggX5_worthTogether_X3_put_ : GoodIn wsX5_worthTogether wsX3_put_ := goodIn_r _ [8] rfl rfl
set_option maxRecDepth 20000 in
theorem gX5_worthTogether_X3_put_ : GoodIn wsX5_worthTogether (va_wsS RX5 52 yX3_put_ wsX3_put_) := goodIn_app (goodIn_r _ [5, 6, 7] rfl rfl) ggX5_worthTogether_X3_put_
set_option maxRecDepth 20000 in
theorem ggX5_worthTogether_X3_at_ : GoodIn wsX5_worthTogether wsX3_at_ := goodIn_r _ [11] rfl rfl
set_option maxRecDepth 20000 in
theorem gX5_worthTogether_X3_at_ : GoodIn wsX5_worthTogether (va_wsS RX5 60 yX3_at_ wsX3_at_) := goodIn_app (goodIn_r _ [9, 10, 7] rfl rfl) ggX5_worthTogether_X3_at_
set_option maxRecDepth 20000 in
theorem ggX5_worthTogether_X2_againAt : GoodIn wsX5_worthTogether wsX2_againAt := goodIn_r _ [16, 17, 18, 19, 7, 20, 26, 27, 28, 29, 30, 31, 32, 33, 34, 35, 36, 37] rfl rfl
set_option maxRecDepth 20000 in
theorem gX5_worthTogether_X2_againAt : GoodIn wsX5_worthTogether (wsV RX5 45 RX2 yX2_againAt wsX2_againAt) := goodIn_app (goodIn_r _ [12, 13, 14, 15] rfl rfl) ggX5_worthTogether_X2_againAt
theorem dX5_worthTogether_0 : decode cX5_worthTogether 0 = .ok (.lconst 1, 1) := by decide +kernel
theorem dX5_worthTogether_1 : decode cX5_worthTogether 1 = .ok (.lstore_n 2, 1) := by decide +kernel
theorem dX5_worthTogether_2 : decode cX5_worthTogether 2 = .ok (.lconst 0, 1) := by decide +kernel
theorem dX5_worthTogether_3 : decode cX5_worthTogether 3 = .ok (.lstore 4, 2) := by decide +kernel
theorem dX5_worthTogether_5 : decode cX5_worthTogether 5 = .ok (.aload_n 0, 1) := by decide +kernel
theorem dX5_worthTogether_6 : decode cX5_worthTogether 6 = .ok (.getfield 25, 3) := by decide +kernel
theorem dX5_worthTogether_9 : decode cX5_worthTogether 9 = .ok (.iconst 0, 1) := by decide +kernel
theorem dX5_worthTogether_10 : decode cX5_worthTogether 10 = .ok (.lconst 0, 1) := by decide +kernel
theorem dX5_worthTogether_11 : decode cX5_worthTogether 11 = .ok (.invokestatic 52, 3) := by decide +kernel
theorem dX5_worthTogether_14 : decode cX5_worthTogether 14 = .ok (.iconst 1, 1) := by decide +kernel
theorem dX5_worthTogether_15 : decode cX5_worthTogether 15 = .ok (.istore 6, 2) := by decide +kernel
theorem dX5_worthTogether_17 : decode cX5_worthTogether 17 = .ok (.iload 6, 2) := by decide +kernel
theorem dX5_worthTogether_19 : decode cX5_worthTogether 19 = .ok (.aload_n 0, 1) := by decide +kernel
theorem dX5_worthTogether_20 : decode cX5_worthTogether 20 = .ok (.getfield 9, 3) := by decide +kernel
theorem dX5_worthTogether_23 : decode cX5_worthTogether 23 = .ok (.getfield 48, 3) := by decide +kernel
theorem dX5_worthTogether_26 : decode cX5_worthTogether 26 = .ok (.if_icmp .gt 43, 3) := by decide +kernel
theorem dX5_worthTogether_29 : decode cX5_worthTogether 29 = .ok (.lload_n 2, 1) := by decide +kernel
theorem dX5_worthTogether_30 : decode cX5_worthTogether 30 = .ok (.iload_n 1, 1) := by decide +kernel
theorem dX5_worthTogether_31 : decode cX5_worthTogether 31 = .ok (.i2l, 1) := by decide +kernel
theorem dX5_worthTogether_32 : decode cX5_worthTogether 32 = .ok (.lmul, 1) := by decide +kernel
theorem dX5_worthTogether_33 : decode cX5_worthTogether 33 = .ok (.lstore_n 2, 1) := by decide +kernel
theorem dX5_worthTogether_34 : decode cX5_worthTogether 34 = .ok (.lload 4, 2) := by decide +kernel
theorem dX5_worthTogether_36 : decode cX5_worthTogether 36 = .ok (.lload_n 2, 1) := by decide +kernel
theorem dX5_worthTogether_37 : decode cX5_worthTogether 37 = .ok (.ladd, 1) := by decide +kernel
theorem dX5_worthTogether_38 : decode cX5_worthTogether 38 = .ok (.lstore 4, 2) := by decide +kernel
theorem dX5_worthTogether_40 : decode cX5_worthTogether 40 = .ok (.lload 4, 2) := by decide +kernel
theorem dX5_worthTogether_42 : decode cX5_worthTogether 42 = .ok (.ldc2_w 58, 3) := by decide +kernel
theorem dX5_worthTogether_45 : decode cX5_worthTogether 45 = .ok (.lcmp, 1) := by decide +kernel
theorem dX5_worthTogether_46 : decode cX5_worthTogether 46 = .ok (.ifCond .le 6, 3) := by decide +kernel
theorem dX5_worthTogether_49 : decode cX5_worthTogether 49 = .ok (.bipush (-13), 2) := by decide +kernel
theorem dX5_worthTogether_51 : decode cX5_worthTogether 51 = .ok (.ireturn, 1) := by decide +kernel
theorem dX5_worthTogether_52 : decode cX5_worthTogether 52 = .ok (.aload_n 0, 1) := by decide +kernel
theorem dX5_worthTogether_53 : decode cX5_worthTogether 53 = .ok (.getfield 25, 3) := by decide +kernel
theorem dX5_worthTogether_56 : decode cX5_worthTogether 56 = .ok (.iload 6, 2) := by decide +kernel
theorem dX5_worthTogether_58 : decode cX5_worthTogether 58 = .ok (.lload 4, 2) := by decide +kernel
theorem dX5_worthTogether_60 : decode cX5_worthTogether 60 = .ok (.invokestatic 52, 3) := by decide +kernel
theorem dX5_worthTogether_63 : decode cX5_worthTogether 63 = .ok (.iinc 6 1, 3) := by decide +kernel
theorem dX5_worthTogether_66 : decode cX5_worthTogether 66 = .ok (.goto (-49), 3) := by decide +kernel
theorem dX5_worthTogether_69 : decode cX5_worthTogether 69 = .ok (.lconst 0, 1) := by decide +kernel
theorem dX5_worthTogether_70 : decode cX5_worthTogether 70 = .ok (.lstore 6, 2) := by decide +kernel
theorem dX5_worthTogether_72 : decode cX5_worthTogether 72 = .ok (.iconst 1, 1) := by decide +kernel
theorem dX5_worthTogether_73 : decode cX5_worthTogether 73 = .ok (.istore 8, 2) := by decide +kernel
theorem dX5_worthTogether_75 : decode cX5_worthTogether 75 = .ok (.iload 8, 2) := by decide +kernel
theorem dX5_worthTogether_77 : decode cX5_worthTogether 77 = .ok (.aload_n 0, 1) := by decide +kernel
theorem dX5_worthTogether_78 : decode cX5_worthTogether 78 = .ok (.getfield 9, 3) := by decide +kernel
theorem dX5_worthTogether_81 : decode cX5_worthTogether 81 = .ok (.getfield 48, 3) := by decide +kernel
theorem dX5_worthTogether_84 : decode cX5_worthTogether 84 = .ok (.if_icmp .gt 40, 3) := by decide +kernel
theorem dX5_worthTogether_87 : decode cX5_worthTogether 87 = .ok (.lload 6, 2) := by decide +kernel
theorem dX5_worthTogether_89 : decode cX5_worthTogether 89 = .ok (.aload_n 0, 1) := by decide +kernel
theorem dX5_worthTogether_90 : decode cX5_worthTogether 90 = .ok (.getfield 25, 3) := by decide +kernel
theorem dX5_worthTogether_93 : decode cX5_worthTogether 93 = .ok (.iload 8, 2) := by decide +kernel
theorem dX5_worthTogether_95 : decode cX5_worthTogether 95 = .ok (.invokestatic 60, 3) := by decide +kernel
theorem dX5_worthTogether_98 : decode cX5_worthTogether 98 = .ok (.aload_n 0, 1) := by decide +kernel
theorem dX5_worthTogether_99 : decode cX5_worthTogether 99 = .ok (.getfield 25, 3) := by decide +kernel
theorem dX5_worthTogether_102 : decode cX5_worthTogether 102 = .ok (.aload_n 0, 1) := by decide +kernel
theorem dX5_worthTogether_103 : decode cX5_worthTogether 103 = .ok (.getfield 9, 3) := by decide +kernel
theorem dX5_worthTogether_106 : decode cX5_worthTogether 106 = .ok (.iload 8, 2) := by decide +kernel
theorem dX5_worthTogether_108 : decode cX5_worthTogether 108 = .ok (.invokevirtual 45, 3) := by decide +kernel
theorem dX5_worthTogether_111 : decode cX5_worthTogether 111 = .ok (.invokestatic 60, 3) := by decide +kernel
theorem dX5_worthTogether_114 : decode cX5_worthTogether 114 = .ok (.lsub, 1) := by decide +kernel
theorem dX5_worthTogether_115 : decode cX5_worthTogether 115 = .ok (.ladd, 1) := by decide +kernel
theorem dX5_worthTogether_116 : decode cX5_worthTogether 116 = .ok (.lstore 6, 2) := by decide +kernel
theorem dX5_worthTogether_118 : decode cX5_worthTogether 118 = .ok (.iinc 8 1, 3) := by decide +kernel
theorem dX5_worthTogether_121 : decode cX5_worthTogether 121 = .ok (.goto (-46), 3) := by decide +kernel
theorem dX5_worthTogether_124 : decode cX5_worthTogether 124 = .ok (.lload 6, 2) := by decide +kernel
theorem dX5_worthTogether_126 : decode cX5_worthTogether 126 = .ok (.ldc2_w 58, 3) := by decide +kernel
theorem dX5_worthTogether_129 : decode cX5_worthTogether 129 = .ok (.lcmp, 1) := by decide +kernel
theorem dX5_worthTogether_130 : decode cX5_worthTogether 130 = .ok (.ifCond .le 8, 3) := by decide +kernel
theorem dX5_worthTogether_133 : decode cX5_worthTogether 133 = .ok (.bipush (-13), 2) := by decide +kernel
theorem dX5_worthTogether_135 : decode cX5_worthTogether 135 = .ok (.goto 6, 3) := by decide +kernel
theorem dX5_worthTogether_138 : decode cX5_worthTogether 138 = .ok (.lload 6, 2) := by decide +kernel
theorem dX5_worthTogether_140 : decode cX5_worthTogether 140 = .ok (.l2i, 1) := by decide +kernel
theorem dX5_worthTogether_141 : decode cX5_worthTogether 141 = .ok (.ireturn, 1) := by decide +kernel
set_option maxRecDepth 20000 in
theorem ggX5_orderByLongest_X3_put : GoodIn wsX5_orderByLongest wsX3_put := goodIn_r _ [8] rfl rfl
set_option maxRecDepth 20000 in
theorem gX5_orderByLongest_X3_put : GoodIn wsX5_orderByLongest (va_wsS RX5 64 yX3_put wsX3_put) := goodIn_app (goodIn_r _ [5, 6, 7] rfl rfl) ggX5_orderByLongest_X3_put
set_option maxRecDepth 20000 in
theorem ggX5_orderByLongest_X2_longestOf : GoodIn wsX5_orderByLongest wsX2_longestOf := goodIn_r _ [13, 14, 15, 16, 7, 17, 24, 25, 26, 27, 28, 29, 30, 31, 32, 33, 34, 35] rfl rfl
set_option maxRecDepth 20000 in
theorem gX5_orderByLongest_X2_longestOf : GoodIn wsX5_orderByLongest (wsV RX5 70 RX2 yX2_longestOf wsX2_longestOf) := goodIn_app (goodIn_r _ [9, 10, 11, 12] rfl rfl) ggX5_orderByLongest_X2_longestOf
set_option maxRecDepth 20000 in
theorem ggX5_orderByLongest_X3_at : GoodIn wsX5_orderByLongest wsX3_at := goodIn_r _ [17] rfl rfl
set_option maxRecDepth 20000 in
theorem gX5_orderByLongest_X3_at : GoodIn wsX5_orderByLongest (va_wsS RX5 73 yX3_at wsX3_at) := goodIn_app (goodIn_r _ [18, 16, 7] rfl rfl) ggX5_orderByLongest_X3_at
theorem dX5_orderByLongest_0 : decode cX5_orderByLongest 0 = .ok (.iconst 0, 1) := by decide +kernel
theorem dX5_orderByLongest_1 : decode cX5_orderByLongest 1 = .ok (.istore_n 1, 1) := by decide +kernel
theorem dX5_orderByLongest_2 : decode cX5_orderByLongest 2 = .ok (.iload_n 1, 1) := by decide +kernel
theorem dX5_orderByLongest_3 : decode cX5_orderByLongest 3 = .ok (.bipush 61, 2) := by decide +kernel
theorem dX5_orderByLongest_5 : decode cX5_orderByLongest 5 = .ok (.if_icmp .gt 18, 3) := by decide +kernel
theorem dX5_orderByLongest_8 : decode cX5_orderByLongest 8 = .ok (.aload_n 0, 1) := by decide +kernel
theorem dX5_orderByLongest_9 : decode cX5_orderByLongest 9 = .ok (.getfield 15, 3) := by decide +kernel
theorem dX5_orderByLongest_12 : decode cX5_orderByLongest 12 = .ok (.iload_n 1, 1) := by decide +kernel
theorem dX5_orderByLongest_13 : decode cX5_orderByLongest 13 = .ok (.iconst 0, 1) := by decide +kernel
theorem dX5_orderByLongest_14 : decode cX5_orderByLongest 14 = .ok (.invokestatic 64, 3) := by decide +kernel
theorem dX5_orderByLongest_17 : decode cX5_orderByLongest 17 = .ok (.iinc 1 1, 3) := by decide +kernel
theorem dX5_orderByLongest_20 : decode cX5_orderByLongest 20 = .ok (.goto (-18), 3) := by decide +kernel
theorem dX5_orderByLongest_23 : decode cX5_orderByLongest 23 = .ok (.iconst 0, 1) := by decide +kernel
theorem dX5_orderByLongest_24 : decode cX5_orderByLongest 24 = .ok (.istore_n 1, 1) := by decide +kernel
theorem dX5_orderByLongest_25 : decode cX5_orderByLongest 25 = .ok (.iload_n 1, 1) := by decide +kernel
theorem dX5_orderByLongest_26 : decode cX5_orderByLongest 26 = .ok (.aload_n 0, 1) := by decide +kernel
theorem dX5_orderByLongest_27 : decode cX5_orderByLongest 27 = .ok (.getfield 9, 3) := by decide +kernel
theorem dX5_orderByLongest_30 : decode cX5_orderByLongest 30 = .ok (.getfield 67, 3) := by decide +kernel
theorem dX5_orderByLongest_33 : decode cX5_orderByLongest 33 = .ok (.if_icmp .ge 38, 3) := by decide +kernel
theorem dX5_orderByLongest_36 : decode cX5_orderByLongest 36 = .ok (.aload_n 0, 1) := by decide +kernel
theorem dX5_orderByLongest_37 : decode cX5_orderByLongest 37 = .ok (.getfield 9, 3) := by decide +kernel
theorem dX5_orderByLongest_40 : decode cX5_orderByLongest 40 = .ok (.iload_n 1, 1) := by decide +kernel
theorem dX5_orderByLongest_41 : decode cX5_orderByLongest 41 = .ok (.invokevirtual 70, 3) := by decide +kernel
theorem dX5_orderByLongest_44 : decode cX5_orderByLongest 44 = .ok (.iconst 1, 1) := by decide +kernel
theorem dX5_orderByLongest_45 : decode cX5_orderByLongest 45 = .ok (.iadd, 1) := by decide +kernel
theorem dX5_orderByLongest_46 : decode cX5_orderByLongest 46 = .ok (.istore_n 2, 1) := by decide +kernel
theorem dX5_orderByLongest_47 : decode cX5_orderByLongest 47 = .ok (.aload_n 0, 1) := by decide +kernel
theorem dX5_orderByLongest_48 : decode cX5_orderByLongest 48 = .ok (.getfield 15, 3) := by decide +kernel
theorem dX5_orderByLongest_51 : decode cX5_orderByLongest 51 = .ok (.iload_n 2, 1) := by decide +kernel
theorem dX5_orderByLongest_52 : decode cX5_orderByLongest 52 = .ok (.aload_n 0, 1) := by decide +kernel
theorem dX5_orderByLongest_53 : decode cX5_orderByLongest 53 = .ok (.getfield 15, 3) := by decide +kernel
theorem dX5_orderByLongest_56 : decode cX5_orderByLongest 56 = .ok (.iload_n 2, 1) := by decide +kernel
theorem dX5_orderByLongest_57 : decode cX5_orderByLongest 57 = .ok (.invokestatic 73, 3) := by decide +kernel
theorem dX5_orderByLongest_60 : decode cX5_orderByLongest 60 = .ok (.iconst 1, 1) := by decide +kernel
theorem dX5_orderByLongest_61 : decode cX5_orderByLongest 61 = .ok (.iadd, 1) := by decide +kernel
theorem dX5_orderByLongest_62 : decode cX5_orderByLongest 62 = .ok (.invokestatic 64, 3) := by decide +kernel
theorem dX5_orderByLongest_65 : decode cX5_orderByLongest 65 = .ok (.iinc 1 1, 3) := by decide +kernel
theorem dX5_orderByLongest_68 : decode cX5_orderByLongest 68 = .ok (.goto (-43), 3) := by decide +kernel
theorem dX5_orderByLongest_71 : decode cX5_orderByLongest 71 = .ok (.iconst 1, 1) := by decide +kernel
theorem dX5_orderByLongest_72 : decode cX5_orderByLongest 72 = .ok (.istore_n 1, 1) := by decide +kernel
theorem dX5_orderByLongest_73 : decode cX5_orderByLongest 73 = .ok (.iload_n 1, 1) := by decide +kernel
theorem dX5_orderByLongest_74 : decode cX5_orderByLongest 74 = .ok (.bipush 61, 2) := by decide +kernel
theorem dX5_orderByLongest_76 : decode cX5_orderByLongest 76 = .ok (.if_icmp .gt 36, 3) := by decide +kernel
theorem dX5_orderByLongest_79 : decode cX5_orderByLongest 79 = .ok (.aload_n 0, 1) := by decide +kernel
theorem dX5_orderByLongest_80 : decode cX5_orderByLongest 80 = .ok (.getfield 15, 3) := by decide +kernel
theorem dX5_orderByLongest_83 : decode cX5_orderByLongest 83 = .ok (.iload_n 1, 1) := by decide +kernel
theorem dX5_orderByLongest_84 : decode cX5_orderByLongest 84 = .ok (.aload_n 0, 1) := by decide +kernel
theorem dX5_orderByLongest_85 : decode cX5_orderByLongest 85 = .ok (.getfield 15, 3) := by decide +kernel
theorem dX5_orderByLongest_88 : decode cX5_orderByLongest 88 = .ok (.iload_n 1, 1) := by decide +kernel
theorem dX5_orderByLongest_89 : decode cX5_orderByLongest 89 = .ok (.invokestatic 73, 3) := by decide +kernel
theorem dX5_orderByLongest_92 : decode cX5_orderByLongest 92 = .ok (.aload_n 0, 1) := by decide +kernel
theorem dX5_orderByLongest_93 : decode cX5_orderByLongest 93 = .ok (.getfield 15, 3) := by decide +kernel
theorem dX5_orderByLongest_96 : decode cX5_orderByLongest 96 = .ok (.iload_n 1, 1) := by decide +kernel
theorem dX5_orderByLongest_97 : decode cX5_orderByLongest 97 = .ok (.iconst 1, 1) := by decide +kernel
theorem dX5_orderByLongest_98 : decode cX5_orderByLongest 98 = .ok (.isub, 1) := by decide +kernel
theorem dX5_orderByLongest_99 : decode cX5_orderByLongest 99 = .ok (.invokestatic 73, 3) := by decide +kernel
theorem dX5_orderByLongest_102 : decode cX5_orderByLongest 102 = .ok (.iadd, 1) := by decide +kernel
theorem dX5_orderByLongest_103 : decode cX5_orderByLongest 103 = .ok (.invokestatic 64, 3) := by decide +kernel
theorem dX5_orderByLongest_106 : decode cX5_orderByLongest 106 = .ok (.iinc 1 1, 3) := by decide +kernel
theorem dX5_orderByLongest_109 : decode cX5_orderByLongest 109 = .ok (.goto (-36), 3) := by decide +kernel
theorem dX5_orderByLongest_112 : decode cX5_orderByLongest 112 = .ok (.iconst 0, 1) := by decide +kernel
theorem dX5_orderByLongest_113 : decode cX5_orderByLongest 113 = .ok (.istore_n 1, 1) := by decide +kernel
theorem dX5_orderByLongest_114 : decode cX5_orderByLongest 114 = .ok (.iload_n 1, 1) := by decide +kernel
theorem dX5_orderByLongest_115 : decode cX5_orderByLongest 115 = .ok (.aload_n 0, 1) := by decide +kernel
theorem dX5_orderByLongest_116 : decode cX5_orderByLongest 116 = .ok (.getfield 9, 3) := by decide +kernel
theorem dX5_orderByLongest_119 : decode cX5_orderByLongest 119 = .ok (.getfield 67, 3) := by decide +kernel
theorem dX5_orderByLongest_122 : decode cX5_orderByLongest 122 = .ok (.if_icmp .ge 47, 3) := by decide +kernel
theorem dX5_orderByLongest_125 : decode cX5_orderByLongest 125 = .ok (.aload_n 0, 1) := by decide +kernel
theorem dX5_orderByLongest_126 : decode cX5_orderByLongest 126 = .ok (.getfield 9, 3) := by decide +kernel
theorem dX5_orderByLongest_129 : decode cX5_orderByLongest 129 = .ok (.iload_n 1, 1) := by decide +kernel
theorem dX5_orderByLongest_130 : decode cX5_orderByLongest 130 = .ok (.invokevirtual 70, 3) := by decide +kernel
theorem dX5_orderByLongest_133 : decode cX5_orderByLongest 133 = .ok (.istore_n 2, 1) := by decide +kernel
theorem dX5_orderByLongest_134 : decode cX5_orderByLongest 134 = .ok (.aload_n 0, 1) := by decide +kernel
theorem dX5_orderByLongest_135 : decode cX5_orderByLongest 135 = .ok (.getfield 15, 3) := by decide +kernel
theorem dX5_orderByLongest_138 : decode cX5_orderByLongest 138 = .ok (.iload_n 2, 1) := by decide +kernel
theorem dX5_orderByLongest_139 : decode cX5_orderByLongest 139 = .ok (.invokestatic 73, 3) := by decide +kernel
theorem dX5_orderByLongest_142 : decode cX5_orderByLongest 142 = .ok (.istore_n 3, 1) := by decide +kernel
theorem dX5_orderByLongest_143 : decode cX5_orderByLongest 143 = .ok (.aload_n 0, 1) := by decide +kernel
theorem dX5_orderByLongest_144 : decode cX5_orderByLongest 144 = .ok (.getfield 19, 3) := by decide +kernel
theorem dX5_orderByLongest_147 : decode cX5_orderByLongest 147 = .ok (.iload_n 3, 1) := by decide +kernel
theorem dX5_orderByLongest_148 : decode cX5_orderByLongest 148 = .ok (.iload_n 1, 1) := by decide +kernel
theorem dX5_orderByLongest_149 : decode cX5_orderByLongest 149 = .ok (.invokestatic 64, 3) := by decide +kernel
theorem dX5_orderByLongest_152 : decode cX5_orderByLongest 152 = .ok (.aload_n 0, 1) := by decide +kernel
theorem dX5_orderByLongest_153 : decode cX5_orderByLongest 153 = .ok (.getfield 15, 3) := by decide +kernel
theorem dX5_orderByLongest_156 : decode cX5_orderByLongest 156 = .ok (.iload_n 2, 1) := by decide +kernel
theorem dX5_orderByLongest_157 : decode cX5_orderByLongest 157 = .ok (.iload_n 3, 1) := by decide +kernel
theorem dX5_orderByLongest_158 : decode cX5_orderByLongest 158 = .ok (.iconst 1, 1) := by decide +kernel
theorem dX5_orderByLongest_159 : decode cX5_orderByLongest 159 = .ok (.iadd, 1) := by decide +kernel
theorem dX5_orderByLongest_160 : decode cX5_orderByLongest 160 = .ok (.invokestatic 64, 3) := by decide +kernel
theorem dX5_orderByLongest_163 : decode cX5_orderByLongest 163 = .ok (.iinc 1 1, 3) := by decide +kernel
theorem dX5_orderByLongest_166 : decode cX5_orderByLongest 166 = .ok (.goto (-52), 3) := by decide +kernel
theorem dX5_orderByLongest_169 : decode cX5_orderByLongest 169 = .ok (.return_, 1) := by decide +kernel
set_option maxRecDepth 20000 in
theorem ggX5_countOnward_X5_orderByLongest : GoodIn wsX5_countOnward wsX5_orderByLongest := goodIn_r _ [10, 11, 1, 2, 3, 12, 13, 14, 15, 16, 17, 18, 19, 20, 21, 22, 23, 24, 25, 45, 46, 47, 48, 49, 50, 51, 52, 53, 54, 55, 56, 57, 58, 59, 60, 61] rfl rfl
set_option maxRecDepth 20000 in
theorem gX5_countOnward_X5_orderByLongest : GoodIn wsX5_countOnward (wsV RX5 76 RX5 yX5_orderByLongest wsX5_orderByLongest) := goodIn_app (goodIn_r _ [6, 7, 8, 9] rfl rfl) ggX5_countOnward_X5_orderByLongest
set_option maxRecDepth 20000 in
theorem ggX5_countOnward_X3_at : GoodIn wsX5_countOnward wsX3_at := goodIn_r _ [24] rfl rfl
set_option maxRecDepth 20000 in
theorem gX5_countOnward_X3_at : GoodIn wsX5_countOnward (va_wsS RX5 73 yX3_at wsX3_at) := goodIn_app (goodIn_r _ [25, 23, 14] rfl rfl) ggX5_countOnward_X3_at
set_option maxRecDepth 20000 in
theorem ggX5_countOnward_X5_onwardBy : GoodIn wsX5_countOnward wsX5_onwardBy := goodIn_r _ [29, 1, 5, 30, 31, 32, 19, 33, 34, 35, 36, 37, 38, 39, 40, 41, 42, 43, 44, 22, 23, 14, 24, 25, 45, 46, 47, 48, 49, 50, 51, 52, 53, 54, 55, 56, 57, 58, 59, 60, 61] rfl rfl
set_option maxRecDepth 20000 in
theorem gX5_countOnward_X5_onwardBy : GoodIn wsX5_countOnward (wsV RX5 82 RX5 yX5_onwardBy wsX5_onwardBy) := goodIn_app (goodIn_r _ [26, 27, 28, 9] rfl rfl) ggX5_countOnward_X5_onwardBy
set_option maxRecDepth 20000 in
theorem ggX5_countOnward_X3_put : GoodIn wsX5_countOnward wsX3_put := goodIn_r _ [15] rfl rfl
set_option maxRecDepth 20000 in
theorem gX5_countOnward_X3_put : GoodIn wsX5_countOnward (va_wsS RX5 64 yX3_put wsX3_put) := goodIn_app (goodIn_r _ [12, 13, 14] rfl rfl) ggX5_countOnward_X3_put
theorem dX5_countOnward_0 : decode cX5_countOnward 0 = .ok (.aload_n 0, 1) := by decide +kernel
theorem dX5_countOnward_1 : decode cX5_countOnward 1 = .ok (.invokevirtual 76, 3) := by decide +kernel
theorem dX5_countOnward_4 : decode cX5_countOnward 4 = .ok (.aload_n 0, 1) := by decide +kernel
theorem dX5_countOnward_5 : decode cX5_countOnward 5 = .ok (.getfield 9, 3) := by decide +kernel
theorem dX5_countOnward_8 : decode cX5_countOnward 8 = .ok (.getfield 67, 3) := by decide +kernel
theorem dX5_countOnward_11 : decode cX5_countOnward 11 = .ok (.iconst 1, 1) := by decide +kernel
theorem dX5_countOnward_12 : decode cX5_countOnward 12 = .ok (.isub, 1) := by decide +kernel
theorem dX5_countOnward_13 : decode cX5_countOnward 13 = .ok (.istore_n 1, 1) := by decide +kernel
theorem dX5_countOnward_14 : decode cX5_countOnward 14 = .ok (.iload_n 1, 1) := by decide +kernel
theorem dX5_countOnward_15 : decode cX5_countOnward 15 = .ok (.ifCond .lt 60, 3) := by decide +kernel
theorem dX5_countOnward_18 : decode cX5_countOnward 18 = .ok (.aload_n 0, 1) := by decide +kernel
theorem dX5_countOnward_19 : decode cX5_countOnward 19 = .ok (.getfield 19, 3) := by decide +kernel
theorem dX5_countOnward_22 : decode cX5_countOnward 22 = .ok (.iload_n 1, 1) := by decide +kernel
theorem dX5_countOnward_23 : decode cX5_countOnward 23 = .ok (.invokestatic 73, 3) := by decide +kernel
theorem dX5_countOnward_26 : decode cX5_countOnward 26 = .ok (.istore_n 2, 1) := by decide +kernel
theorem dX5_countOnward_27 : decode cX5_countOnward 27 = .ok (.iconst 1, 1) := by decide +kernel
theorem dX5_countOnward_28 : decode cX5_countOnward 28 = .ok (.istore_n 3, 1) := by decide +kernel
theorem dX5_countOnward_29 : decode cX5_countOnward 29 = .ok (.iconst 0, 1) := by decide +kernel
theorem dX5_countOnward_30 : decode cX5_countOnward 30 = .ok (.istore 4, 2) := by decide +kernel
theorem dX5_countOnward_32 : decode cX5_countOnward 32 = .ok (.iload 4, 2) := by decide +kernel
theorem dX5_countOnward_34 : decode cX5_countOnward 34 = .ok (.aload_n 0, 1) := by decide +kernel
theorem dX5_countOnward_35 : decode cX5_countOnward 35 = .ok (.getfield 9, 3) := by decide +kernel
theorem dX5_countOnward_38 : decode cX5_countOnward 38 = .ok (.getfield 79, 3) := by decide +kernel
theorem dX5_countOnward_41 : decode cX5_countOnward 41 = .ok (.if_icmp .ge 19, 3) := by decide +kernel
theorem dX5_countOnward_44 : decode cX5_countOnward 44 = .ok (.iload_n 3, 1) := by decide +kernel
theorem dX5_countOnward_45 : decode cX5_countOnward 45 = .ok (.aload_n 0, 1) := by decide +kernel
theorem dX5_countOnward_46 : decode cX5_countOnward 46 = .ok (.iload_n 2, 1) := by decide +kernel
theorem dX5_countOnward_47 : decode cX5_countOnward 47 = .ok (.iload 4, 2) := by decide +kernel
theorem dX5_countOnward_49 : decode cX5_countOnward 49 = .ok (.invokevirtual 82, 3) := by decide +kernel
theorem dX5_countOnward_52 : decode cX5_countOnward 52 = .ok (.iadd, 1) := by decide +kernel
theorem dX5_countOnward_53 : decode cX5_countOnward 53 = .ok (.istore_n 3, 1) := by decide +kernel
theorem dX5_countOnward_54 : decode cX5_countOnward 54 = .ok (.iinc 4 1, 3) := by decide +kernel
theorem dX5_countOnward_57 : decode cX5_countOnward 57 = .ok (.goto (-25), 3) := by decide +kernel
theorem dX5_countOnward_60 : decode cX5_countOnward 60 = .ok (.aload_n 0, 1) := by decide +kernel
theorem dX5_countOnward_61 : decode cX5_countOnward 61 = .ok (.getfield 22, 3) := by decide +kernel
theorem dX5_countOnward_64 : decode cX5_countOnward 64 = .ok (.iload_n 2, 1) := by decide +kernel
theorem dX5_countOnward_65 : decode cX5_countOnward 65 = .ok (.iload_n 3, 1) := by decide +kernel
theorem dX5_countOnward_66 : decode cX5_countOnward 66 = .ok (.invokestatic 64, 3) := by decide +kernel
theorem dX5_countOnward_69 : decode cX5_countOnward 69 = .ok (.iinc 1 (-1), 3) := by decide +kernel
theorem dX5_countOnward_72 : decode cX5_countOnward 72 = .ok (.goto (-58), 3) := by decide +kernel
theorem dX5_countOnward_75 : decode cX5_countOnward 75 = .ok (.return_, 1) := by decide +kernel
set_option maxRecDepth 20000 in
theorem ggX5_onwardBy_X2_moveOf : GoodIn wsX5_onwardBy wsX2_moveOf := goodIn_r _ [7, 8, 9, 10, 11, 6, 12, 13, 14, 15, 16, 17, 18, 19, 20, 21, 22, 29, 30, 31, 32, 33, 34, 35, 36, 37, 38, 39, 40] rfl rfl
set_option maxRecDepth 20000 in
theorem gX5_onwardBy_X2_moveOf : GoodIn wsX5_onwardBy (wsV RX5 39 RX2 yX2_moveOf wsX2_moveOf) := goodIn_app (goodIn_r _ [3, 4, 5, 6] rfl rfl) ggX5_onwardBy_X2_moveOf
set_option maxRecDepth 20000 in
theorem ggX5_onwardBy_X3_at : GoodIn wsX5_onwardBy wsX3_at := goodIn_r _ [22] rfl rfl
set_option maxRecDepth 20000 in
theorem gX5_onwardBy_X3_at : GoodIn wsX5_onwardBy (va_wsS RX5 73 yX3_at wsX3_at) := goodIn_app (goodIn_r _ [23, 20, 21] rfl rfl) ggX5_onwardBy_X3_at
theorem dX5_onwardBy_0 : decode cX5_onwardBy 0 = .ok (.aload_n 0, 1) := by decide +kernel
theorem dX5_onwardBy_1 : decode cX5_onwardBy 1 = .ok (.getfield 9, 3) := by decide +kernel
theorem dX5_onwardBy_4 : decode cX5_onwardBy 4 = .ok (.iload_n 1, 1) := by decide +kernel
theorem dX5_onwardBy_5 : decode cX5_onwardBy 5 = .ok (.iload_n 2, 1) := by decide +kernel
theorem dX5_onwardBy_6 : decode cX5_onwardBy 6 = .ok (.invokevirtual 39, 3) := by decide +kernel
theorem dX5_onwardBy_9 : decode cX5_onwardBy 9 = .ok (.istore_n 3, 1) := by decide +kernel
theorem dX5_onwardBy_10 : decode cX5_onwardBy 10 = .ok (.iload_n 3, 1) := by decide +kernel
theorem dX5_onwardBy_11 : decode cX5_onwardBy 11 = .ok (.bipush (-4), 2) := by decide +kernel
theorem dX5_onwardBy_13 : decode cX5_onwardBy 13 = .ok (.if_icmp .ne 7, 3) := by decide +kernel
theorem dX5_onwardBy_16 : decode cX5_onwardBy 16 = .ok (.iconst 0, 1) := by decide +kernel
theorem dX5_onwardBy_17 : decode cX5_onwardBy 17 = .ok (.goto 11, 3) := by decide +kernel
theorem dX5_onwardBy_20 : decode cX5_onwardBy 20 = .ok (.aload_n 0, 1) := by decide +kernel
theorem dX5_onwardBy_21 : decode cX5_onwardBy 21 = .ok (.getfield 22, 3) := by decide +kernel
theorem dX5_onwardBy_24 : decode cX5_onwardBy 24 = .ok (.iload_n 3, 1) := by decide +kernel
theorem dX5_onwardBy_25 : decode cX5_onwardBy 25 = .ok (.invokestatic 73, 3) := by decide +kernel
theorem dX5_onwardBy_28 : decode cX5_onwardBy 28 = .ok (.ireturn, 1) := by decide +kernel
set_option maxRecDepth 20000 in
theorem ggX5_writeKth_X5_countOnward : GoodIn wsX5_writeKth wsX5_countOnward := goodIn_r _ [7, 1, 8, 9, 2, 10, 11, 12, 13, 6, 14, 15, 16, 17, 18, 19, 20, 21, 22, 23, 24, 25, 26, 27, 28, 29, 30, 31, 32, 33, 34, 35, 36, 37, 38, 39, 40, 41, 42, 43, 44, 45, 46, 47, 48, 66, 67, 68, 69, 70, 71, 72, 73, 74, 75, 76, 77, 78, 79, 80, 81, 82] rfl rfl
set_option maxRecDepth 20000 in
theorem gX5_writeKth_X5_countOnward : GoodIn wsX5_writeKth (wsV RX5 85 RX5 yX5_countOnward wsX5_countOnward) := goodIn_app (goodIn_r _ [3, 4, 5, 6] rfl rfl) ggX5_writeKth_X5_countOnward
set_option maxRecDepth 20000 in
theorem ggX5_writeKth_X4_layOut : GoodIn wsX5_writeKth wsX4_layOut := goodIn_r _ [53, 54, 55, 56, 57, 58, 52, 59, 60, 61, 17, 18, 19, 83, 84, 85] rfl rfl
set_option maxRecDepth 20000 in
theorem gX5_writeKth_X4_layOut : GoodIn wsX5_writeKth (wsV RX5 88 RX4 yX4_layOut wsX4_layOut) := goodIn_app (goodIn_r _ [49, 50, 51, 52] rfl rfl) ggX5_writeKth_X4_layOut
set_option maxRecDepth 20000 in
theorem ggX5_writeKth_X5_onwardBy : GoodIn wsX5_writeKth wsX5_onwardBy := goodIn_r _ [33, 1, 10, 34, 35, 36, 23, 37, 38, 39, 40, 41, 42, 43, 44, 45, 46, 47, 48, 26, 27, 18, 28, 29, 66, 67, 68, 69, 70, 71, 72, 73, 74, 75, 76, 77, 78, 79, 80, 81, 82] rfl rfl
set_option maxRecDepth 20000 in
theorem gX5_writeKth_X5_onwardBy : GoodIn wsX5_writeKth (wsV RX5 82 RX5 yX5_onwardBy wsX5_onwardBy) := goodIn_app (goodIn_r _ [30, 31, 32, 6] rfl rfl) ggX5_writeKth_X5_onwardBy
set_option maxRecDepth 20000 in
theorem ggX5_writeKth_X4_addLetter : GoodIn wsX5_writeKth wsX4_addLetter := goodIn_r _ [65, 55, 56, 57, 58, 52, 59, 60, 61, 17, 18, 19, 83, 84, 85] rfl rfl
set_option maxRecDepth 20000 in
theorem gX5_writeKth_X4_addLetter : GoodIn wsX5_writeKth (wsV RX5 92 RX4 yX4_addLetter wsX4_addLetter) := goodIn_app (goodIn_r _ [62, 63, 64, 52] rfl rfl) ggX5_writeKth_X4_addLetter
set_option maxRecDepth 20000 in
theorem ggX5_writeKth_X2_moveOf : GoodIn wsX5_writeKth wsX2_moveOf := goodIn_r _ [37, 38, 39, 40, 41, 23, 42, 43, 44, 45, 46, 47, 48, 26, 27, 18, 28, 71, 72, 73, 74, 75, 76, 77, 78, 79, 80, 81, 82] rfl rfl
set_option maxRecDepth 20000 in
theorem gX5_writeKth_X2_moveOf : GoodIn wsX5_writeKth (wsV RX5 39 RX2 yX2_moveOf wsX2_moveOf) := goodIn_app (goodIn_r _ [34, 35, 36, 23] rfl rfl) ggX5_writeKth_X2_moveOf
theorem dX5_writeKth_0 : decode cX5_writeKth 0 = .ok (.aload_n 0, 1) := by decide +kernel
theorem dX5_writeKth_1 : decode cX5_writeKth 1 = .ok (.invokevirtual 85, 3) := by decide +kernel
theorem dX5_writeKth_4 : decode cX5_writeKth 4 = .ok (.aload_n 2, 1) := by decide +kernel
theorem dX5_writeKth_5 : decode cX5_writeKth 5 = .ok (.iconst 0, 1) := by decide +kernel
theorem dX5_writeKth_6 : decode cX5_writeKth 6 = .ok (.invokevirtual 88, 3) := by decide +kernel
theorem dX5_writeKth_9 : decode cX5_writeKth 9 = .ok (.iconst 0, 1) := by decide +kernel
theorem dX5_writeKth_10 : decode cX5_writeKth 10 = .ok (.istore_n 3, 1) := by decide +kernel
theorem dX5_writeKth_11 : decode cX5_writeKth 11 = .ok (.iload_n 1, 1) := by decide +kernel
theorem dX5_writeKth_12 : decode cX5_writeKth 12 = .ok (.istore 4, 2) := by decide +kernel
theorem dX5_writeKth_14 : decode cX5_writeKth 14 = .ok (.iconst 0, 1) := by decide +kernel
theorem dX5_writeKth_15 : decode cX5_writeKth 15 = .ok (.istore 5, 2) := by decide +kernel
theorem dX5_writeKth_17 : decode cX5_writeKth 17 = .ok (.iload 5, 2) := by decide +kernel
theorem dX5_writeKth_19 : decode cX5_writeKth 19 = .ok (.bipush 60, 2) := by decide +kernel
theorem dX5_writeKth_21 : decode cX5_writeKth 21 = .ok (.if_icmp .ge 81, 3) := by decide +kernel
theorem dX5_writeKth_24 : decode cX5_writeKth 24 = .ok (.iload 4, 2) := by decide +kernel
theorem dX5_writeKth_26 : decode cX5_writeKth 26 = .ok (.ifCond .lt 76, 3) := by decide +kernel
theorem dX5_writeKth_29 : decode cX5_writeKth 29 = .ok (.iconst 0, 1) := by decide +kernel
theorem dX5_writeKth_30 : decode cX5_writeKth 30 = .ok (.istore 6, 2) := by decide +kernel
theorem dX5_writeKth_32 : decode cX5_writeKth 32 = .ok (.iload 6, 2) := by decide +kernel
theorem dX5_writeKth_34 : decode cX5_writeKth 34 = .ok (.aload_n 0, 1) := by decide +kernel
theorem dX5_writeKth_35 : decode cX5_writeKth 35 = .ok (.getfield 9, 3) := by decide +kernel
theorem dX5_writeKth_38 : decode cX5_writeKth 38 = .ok (.getfield 79, 3) := by decide +kernel
theorem dX5_writeKth_41 : decode cX5_writeKth 41 = .ok (.iconst 1, 1) := by decide +kernel
theorem dX5_writeKth_42 : decode cX5_writeKth 42 = .ok (.isub, 1) := by decide +kernel
theorem dX5_writeKth_43 : decode cX5_writeKth 43 = .ok (.if_icmp .ge 33, 3) := by decide +kernel
theorem dX5_writeKth_46 : decode cX5_writeKth 46 = .ok (.iload 4, 2) := by decide +kernel
theorem dX5_writeKth_48 : decode cX5_writeKth 48 = .ok (.aload_n 0, 1) := by decide +kernel
theorem dX5_writeKth_49 : decode cX5_writeKth 49 = .ok (.iload_n 3, 1) := by decide +kernel
theorem dX5_writeKth_50 : decode cX5_writeKth 50 = .ok (.iload 6, 2) := by decide +kernel
theorem dX5_writeKth_52 : decode cX5_writeKth 52 = .ok (.invokevirtual 82, 3) := by decide +kernel
theorem dX5_writeKth_55 : decode cX5_writeKth 55 = .ok (.if_icmp .lt 21, 3) := by decide +kernel
theorem dX5_writeKth_58 : decode cX5_writeKth 58 = .ok (.iload 4, 2) := by decide +kernel
theorem dX5_writeKth_60 : decode cX5_writeKth 60 = .ok (.aload_n 0, 1) := by decide +kernel
theorem dX5_writeKth_61 : decode cX5_writeKth 61 = .ok (.iload_n 3, 1) := by decide +kernel
theorem dX5_writeKth_62 : decode cX5_writeKth 62 = .ok (.iload 6, 2) := by decide +kernel
theorem dX5_writeKth_64 : decode cX5_writeKth 64 = .ok (.invokevirtual 82, 3) := by decide +kernel
theorem dX5_writeKth_67 : decode cX5_writeKth 67 = .ok (.isub, 1) := by decide +kernel
theorem dX5_writeKth_68 : decode cX5_writeKth 68 = .ok (.istore 4, 2) := by decide +kernel
theorem dX5_writeKth_70 : decode cX5_writeKth 70 = .ok (.iinc 6 1, 3) := by decide +kernel
theorem dX5_writeKth_73 : decode cX5_writeKth 73 = .ok (.goto (-41), 3) := by decide +kernel
theorem dX5_writeKth_76 : decode cX5_writeKth 76 = .ok (.aload_n 2, 1) := by decide +kernel
theorem dX5_writeKth_77 : decode cX5_writeKth 77 = .ok (.iload 6, 2) := by decide +kernel
theorem dX5_writeKth_79 : decode cX5_writeKth 79 = .ok (.invokevirtual 92, 3) := by decide +kernel
theorem dX5_writeKth_82 : decode cX5_writeKth 82 = .ok (.aload_n 0, 1) := by decide +kernel
theorem dX5_writeKth_83 : decode cX5_writeKth 83 = .ok (.getfield 9, 3) := by decide +kernel
theorem dX5_writeKth_86 : decode cX5_writeKth 86 = .ok (.iload_n 3, 1) := by decide +kernel
theorem dX5_writeKth_87 : decode cX5_writeKth 87 = .ok (.iload 6, 2) := by decide +kernel
theorem dX5_writeKth_89 : decode cX5_writeKth 89 = .ok (.invokevirtual 39, 3) := by decide +kernel
theorem dX5_writeKth_92 : decode cX5_writeKth 92 = .ok (.istore_n 3, 1) := by decide +kernel
theorem dX5_writeKth_93 : decode cX5_writeKth 93 = .ok (.iinc 4 (-1), 3) := by decide +kernel
theorem dX5_writeKth_96 : decode cX5_writeKth 96 = .ok (.iinc 5 1, 3) := by decide +kernel
theorem dX5_writeKth_99 : decode cX5_writeKth 99 = .ok (.goto (-82), 3) := by decide +kernel
theorem dX5_writeKth_102 : decode cX5_writeKth 102 = .ok (.return_, 1) := by decide +kernel
set_option maxRecDepth 20000 in
theorem ggX5_wordsAheadOf_X5_countOnward : GoodIn wsX5_wordsAheadOf wsX5_countOnward := goodIn_r _ [8, 2, 9, 10, 3, 11, 12, 13, 14, 7, 15, 16, 17, 18, 19, 20, 21, 22, 23, 24, 25, 26, 27, 28, 29, 30, 31, 32, 33, 34, 35, 36, 37, 38, 39, 40, 41, 42, 43, 44, 45, 46, 47, 48, 49, 64, 65, 66, 67, 68, 69, 70, 71, 72, 73, 74, 75, 76, 77, 78, 79, 80] rfl rfl
set_option maxRecDepth 20000 in
theorem gX5_wordsAheadOf_X5_countOnward : GoodIn wsX5_wordsAheadOf (wsV RX5 85 RX5 yX5_countOnward wsX5_countOnward) := goodIn_app (goodIn_r _ [4, 5, 6, 7] rfl rfl) ggX5_wordsAheadOf_X5_countOnward
set_option maxRecDepth 20000 in
theorem ggX5_wordsAheadOf_X4_letterAt : GoodIn wsX5_wordsAheadOf wsX4_letterAt := goodIn_r _ [54, 55, 56, 57, 53, 58, 59, 60, 28, 19, 29, 61, 62, 63] rfl rfl
set_option maxRecDepth 20000 in
theorem gX5_wordsAheadOf_X4_letterAt : GoodIn wsX5_wordsAheadOf (wsV RX5 35 RX4 yX4_letterAt wsX4_letterAt) := goodIn_app (goodIn_r _ [50, 51, 52, 53] rfl rfl) ggX5_wordsAheadOf_X4_letterAt
set_option maxRecDepth 20000 in
theorem ggX5_wordsAheadOf_X5_onwardBy : GoodIn wsX5_wordsAheadOf wsX5_onwardBy := goodIn_r _ [34, 2, 11, 35, 36, 37, 24, 38, 39, 40, 41, 42, 43, 44, 45, 46, 47, 48, 49, 27, 28, 19, 29, 30, 64, 65, 66, 67, 68, 69, 70, 71, 72, 73, 74, 75, 76, 77, 78, 79, 80] rfl rfl
set_option maxRecDepth 20000 in
theorem gX5_wordsAheadOf_X5_onwardBy : GoodIn wsX5_wordsAheadOf (wsV RX5 82 RX5 yX5_onwardBy wsX5_onwardBy) := goodIn_app (goodIn_r _ [31, 32, 33, 7] rfl rfl) ggX5_wordsAheadOf_X5_onwardBy
set_option maxRecDepth 20000 in
theorem ggX5_wordsAheadOf_X2_moveOf : GoodIn wsX5_wordsAheadOf wsX2_moveOf := goodIn_r _ [38, 39, 40, 41, 42, 24, 43, 44, 45, 46, 47, 48, 49, 27, 28, 19, 29, 69, 70, 71, 72, 73, 74, 75, 76, 77, 78, 79, 80] rfl rfl
set_option maxRecDepth 20000 in
theorem gX5_wordsAheadOf_X2_moveOf : GoodIn wsX5_wordsAheadOf (wsV RX5 39 RX2 yX2_moveOf wsX2_moveOf) := goodIn_app (goodIn_r _ [35, 36, 37, 24] rfl rfl) ggX5_wordsAheadOf_X2_moveOf
theorem dX5_wordsAheadOf_0 : decode cX5_wordsAheadOf 0 = .ok (.aload_n 0, 1) := by decide +kernel
theorem dX5_wordsAheadOf_1 : decode cX5_wordsAheadOf 1 = .ok (.invokevirtual 85, 3) := by decide +kernel
theorem dX5_wordsAheadOf_4 : decode cX5_wordsAheadOf 4 = .ok (.iconst 0, 1) := by decide +kernel
theorem dX5_wordsAheadOf_5 : decode cX5_wordsAheadOf 5 = .ok (.istore_n 2, 1) := by decide +kernel
theorem dX5_wordsAheadOf_6 : decode cX5_wordsAheadOf 6 = .ok (.iconst (-1), 1) := by decide +kernel
theorem dX5_wordsAheadOf_7 : decode cX5_wordsAheadOf 7 = .ok (.istore_n 3, 1) := by decide +kernel
theorem dX5_wordsAheadOf_8 : decode cX5_wordsAheadOf 8 = .ok (.iconst 0, 1) := by decide +kernel
theorem dX5_wordsAheadOf_9 : decode cX5_wordsAheadOf 9 = .ok (.istore 4, 2) := by decide +kernel
theorem dX5_wordsAheadOf_11 : decode cX5_wordsAheadOf 11 = .ok (.iload 4, 2) := by decide +kernel
theorem dX5_wordsAheadOf_13 : decode cX5_wordsAheadOf 13 = .ok (.aload_n 1, 1) := by decide +kernel
theorem dX5_wordsAheadOf_14 : decode cX5_wordsAheadOf 14 = .ok (.getfield 29, 3) := by decide +kernel
theorem dX5_wordsAheadOf_17 : decode cX5_wordsAheadOf 17 = .ok (.if_icmp .ge 69, 3) := by decide +kernel
theorem dX5_wordsAheadOf_20 : decode cX5_wordsAheadOf 20 = .ok (.aload_n 1, 1) := by decide +kernel
theorem dX5_wordsAheadOf_21 : decode cX5_wordsAheadOf 21 = .ok (.iload 4, 2) := by decide +kernel
theorem dX5_wordsAheadOf_23 : decode cX5_wordsAheadOf 23 = .ok (.invokevirtual 35, 3) := by decide +kernel
theorem dX5_wordsAheadOf_26 : decode cX5_wordsAheadOf 26 = .ok (.istore 5, 2) := by decide +kernel
theorem dX5_wordsAheadOf_28 : decode cX5_wordsAheadOf 28 = .ok (.iconst 0, 1) := by decide +kernel
theorem dX5_wordsAheadOf_29 : decode cX5_wordsAheadOf 29 = .ok (.istore 6, 2) := by decide +kernel
theorem dX5_wordsAheadOf_31 : decode cX5_wordsAheadOf 31 = .ok (.iload 6, 2) := by decide +kernel
theorem dX5_wordsAheadOf_33 : decode cX5_wordsAheadOf 33 = .ok (.iload 5, 2) := by decide +kernel
theorem dX5_wordsAheadOf_35 : decode cX5_wordsAheadOf 35 = .ok (.if_icmp .ge 31, 3) := by decide +kernel
theorem dX5_wordsAheadOf_38 : decode cX5_wordsAheadOf 38 = .ok (.iload 6, 2) := by decide +kernel
theorem dX5_wordsAheadOf_40 : decode cX5_wordsAheadOf 40 = .ok (.aload_n 0, 1) := by decide +kernel
theorem dX5_wordsAheadOf_41 : decode cX5_wordsAheadOf 41 = .ok (.getfield 9, 3) := by decide +kernel
theorem dX5_wordsAheadOf_44 : decode cX5_wordsAheadOf 44 = .ok (.getfield 79, 3) := by decide +kernel
theorem dX5_wordsAheadOf_47 : decode cX5_wordsAheadOf 47 = .ok (.if_icmp .ge 19, 3) := by decide +kernel
theorem dX5_wordsAheadOf_50 : decode cX5_wordsAheadOf 50 = .ok (.iload_n 3, 1) := by decide +kernel
theorem dX5_wordsAheadOf_51 : decode cX5_wordsAheadOf 51 = .ok (.aload_n 0, 1) := by decide +kernel
theorem dX5_wordsAheadOf_52 : decode cX5_wordsAheadOf 52 = .ok (.iload_n 2, 1) := by decide +kernel
theorem dX5_wordsAheadOf_53 : decode cX5_wordsAheadOf 53 = .ok (.iload 6, 2) := by decide +kernel
theorem dX5_wordsAheadOf_55 : decode cX5_wordsAheadOf 55 = .ok (.invokevirtual 82, 3) := by decide +kernel
theorem dX5_wordsAheadOf_58 : decode cX5_wordsAheadOf 58 = .ok (.iadd, 1) := by decide +kernel
theorem dX5_wordsAheadOf_59 : decode cX5_wordsAheadOf 59 = .ok (.istore_n 3, 1) := by decide +kernel
theorem dX5_wordsAheadOf_60 : decode cX5_wordsAheadOf 60 = .ok (.iinc 6 1, 3) := by decide +kernel
theorem dX5_wordsAheadOf_63 : decode cX5_wordsAheadOf 63 = .ok (.goto (-32), 3) := by decide +kernel
theorem dX5_wordsAheadOf_66 : decode cX5_wordsAheadOf 66 = .ok (.aload_n 0, 1) := by decide +kernel
theorem dX5_wordsAheadOf_67 : decode cX5_wordsAheadOf 67 = .ok (.getfield 9, 3) := by decide +kernel
theorem dX5_wordsAheadOf_70 : decode cX5_wordsAheadOf 70 = .ok (.iload_n 2, 1) := by decide +kernel
theorem dX5_wordsAheadOf_71 : decode cX5_wordsAheadOf 71 = .ok (.iload 5, 2) := by decide +kernel
theorem dX5_wordsAheadOf_73 : decode cX5_wordsAheadOf 73 = .ok (.invokevirtual 39, 3) := by decide +kernel
theorem dX5_wordsAheadOf_76 : decode cX5_wordsAheadOf 76 = .ok (.istore_n 2, 1) := by decide +kernel
theorem dX5_wordsAheadOf_77 : decode cX5_wordsAheadOf 77 = .ok (.iinc 3 1, 3) := by decide +kernel
theorem dX5_wordsAheadOf_80 : decode cX5_wordsAheadOf 80 = .ok (.iinc 4 1, 3) := by decide +kernel
theorem dX5_wordsAheadOf_83 : decode cX5_wordsAheadOf 83 = .ok (.goto (-72), 3) := by decide +kernel
theorem dX5_wordsAheadOf_86 : decode cX5_wordsAheadOf 86 = .ok (.iload_n 3, 1) := by decide +kernel
theorem dX5_wordsAheadOf_87 : decode cX5_wordsAheadOf 87 = .ok (.ireturn, 1) := by decide +kernel
set_option maxRecDepth 20000 in
theorem ggX5_writeAbsent_X5_countWayOut : GoodIn wsX5_writeAbsent wsX5_countWayOut := goodIn_r _ [8, 1, 9, 10, 2, 11, 12, 13, 14, 3, 15, 16, 17, 7, 18, 19, 20, 21, 22, 23, 24, 25, 26, 27, 28, 29, 30, 31, 32, 33, 34, 35, 36, 37, 38, 39, 40, 41, 42, 43, 44, 45, 46, 47, 48, 49, 50, 51, 52, 70, 71, 72, 73, 74, 75, 76, 77, 78, 79, 80, 81, 82, 83, 84, 85, 86] rfl rfl
set_option maxRecDepth 20000 in
theorem gX5_writeAbsent_X5_countWayOut : GoodIn wsX5_writeAbsent (wsV RX5 95 RX5 yX5_countWayOut wsX5_countWayOut) := goodIn_app (goodIn_r _ [4, 5, 6, 7] rfl rfl) ggX5_writeAbsent_X5_countWayOut
set_option maxRecDepth 20000 in
theorem ggX5_writeAbsent_X4_layOut : GoodIn wsX5_writeAbsent wsX4_layOut := goodIn_r _ [57, 58, 59, 60, 61, 62, 56, 63, 64, 65, 21, 22, 23, 87, 88, 89] rfl rfl
set_option maxRecDepth 20000 in
theorem gX5_writeAbsent_X4_layOut : GoodIn wsX5_writeAbsent (wsV RX5 88 RX4 yX4_layOut wsX4_layOut) := goodIn_app (goodIn_r _ [53, 54, 55, 56] rfl rfl) ggX5_writeAbsent_X4_layOut
set_option maxRecDepth 20000 in
theorem ggX5_writeAbsent_X5_wayOutBy : GoodIn wsX5_writeAbsent wsX5_wayOutBy := goodIn_r _ [37, 1, 3, 38, 39, 40, 27, 41, 42, 43, 44, 45, 46, 47, 48, 49, 50, 51, 52, 30, 31, 22, 32, 33, 70, 71, 72, 73, 74, 75, 76, 77, 78, 79, 80, 81, 82, 83, 84, 85, 86] rfl rfl
set_option maxRecDepth 20000 in
theorem gX5_writeAbsent_X5_wayOutBy : GoodIn wsX5_writeAbsent (wsV RX5 98 RX5 yX5_wayOutBy wsX5_wayOutBy) := goodIn_app (goodIn_r _ [34, 35, 36, 7] rfl rfl) ggX5_writeAbsent_X5_wayOutBy
set_option maxRecDepth 20000 in
theorem ggX5_writeAbsent_X3_at : GoodIn wsX5_writeAbsent wsX3_at := goodIn_r _ [32] rfl rfl
set_option maxRecDepth 20000 in
theorem gX5_writeAbsent_X3_at : GoodIn wsX5_writeAbsent (va_wsS RX5 73 yX3_at wsX3_at) := goodIn_app (goodIn_r _ [33, 31, 22] rfl rfl) ggX5_writeAbsent_X3_at
set_option maxRecDepth 20000 in
theorem ggX5_writeAbsent_X4_addLetter : GoodIn wsX5_writeAbsent wsX4_addLetter := goodIn_r _ [69, 59, 60, 61, 62, 56, 63, 64, 65, 21, 22, 23, 87, 88, 89] rfl rfl
set_option maxRecDepth 20000 in
theorem gX5_writeAbsent_X4_addLetter : GoodIn wsX5_writeAbsent (wsV RX5 92 RX4 yX4_addLetter wsX4_addLetter) := goodIn_app (goodIn_r _ [66, 67, 68, 56] rfl rfl) ggX5_writeAbsent_X4_addLetter
set_option maxRecDepth 20000 in
theorem ggX5_writeAbsent_X2_moveOf : GoodIn wsX5_writeAbsent wsX2_moveOf := goodIn_r _ [41, 42, 43, 44, 45, 27, 46, 47, 48, 49, 50, 51, 52, 30, 31, 22, 32, 75, 76, 77, 78, 79, 80, 81, 82, 83, 84, 85, 86] rfl rfl
set_option maxRecDepth 20000 in
theorem gX5_writeAbsent_X2_moveOf : GoodIn wsX5_writeAbsent (wsV RX5 39 RX2 yX2_moveOf wsX2_moveOf) := goodIn_app (goodIn_r _ [38, 39, 40, 27] rfl rfl) ggX5_writeAbsent_X2_moveOf
theorem dX5_writeAbsent_0 : decode cX5_writeAbsent 0 = .ok (.aload_n 0, 1) := by decide +kernel
theorem dX5_writeAbsent_1 : decode cX5_writeAbsent 1 = .ok (.invokevirtual 95, 3) := by decide +kernel
theorem dX5_writeAbsent_4 : decode cX5_writeAbsent 4 = .ok (.aload_n 1, 1) := by decide +kernel
theorem dX5_writeAbsent_5 : decode cX5_writeAbsent 5 = .ok (.iconst 0, 1) := by decide +kernel
theorem dX5_writeAbsent_6 : decode cX5_writeAbsent 6 = .ok (.invokevirtual 88, 3) := by decide +kernel
theorem dX5_writeAbsent_9 : decode cX5_writeAbsent 9 = .ok (.iconst 0, 1) := by decide +kernel
theorem dX5_writeAbsent_10 : decode cX5_writeAbsent 10 = .ok (.istore_n 2, 1) := by decide +kernel
theorem dX5_writeAbsent_11 : decode cX5_writeAbsent 11 = .ok (.iconst 0, 1) := by decide +kernel
theorem dX5_writeAbsent_12 : decode cX5_writeAbsent 12 = .ok (.istore_n 3, 1) := by decide +kernel
theorem dX5_writeAbsent_13 : decode cX5_writeAbsent 13 = .ok (.iload_n 3, 1) := by decide +kernel
theorem dX5_writeAbsent_14 : decode cX5_writeAbsent 14 = .ok (.bipush 60, 2) := by decide +kernel
theorem dX5_writeAbsent_16 : decode cX5_writeAbsent 16 = .ok (.if_icmp .gt 73, 3) := by decide +kernel
theorem dX5_writeAbsent_19 : decode cX5_writeAbsent 19 = .ok (.iload_n 2, 1) := by decide +kernel
theorem dX5_writeAbsent_20 : decode cX5_writeAbsent 20 = .ok (.bipush (-4), 2) := by decide +kernel
theorem dX5_writeAbsent_22 : decode cX5_writeAbsent 22 = .ok (.if_icmp .eq 67, 3) := by decide +kernel
theorem dX5_writeAbsent_25 : decode cX5_writeAbsent 25 = .ok (.iconst 0, 1) := by decide +kernel
theorem dX5_writeAbsent_26 : decode cX5_writeAbsent 26 = .ok (.istore 4, 2) := by decide +kernel
theorem dX5_writeAbsent_28 : decode cX5_writeAbsent 28 = .ok (.iload 4, 2) := by decide +kernel
theorem dX5_writeAbsent_30 : decode cX5_writeAbsent 30 = .ok (.aload_n 0, 1) := by decide +kernel
theorem dX5_writeAbsent_31 : decode cX5_writeAbsent 31 = .ok (.getfield 9, 3) := by decide +kernel
theorem dX5_writeAbsent_34 : decode cX5_writeAbsent 34 = .ok (.getfield 79, 3) := by decide +kernel
theorem dX5_writeAbsent_37 : decode cX5_writeAbsent 37 = .ok (.iconst 1, 1) := by decide +kernel
theorem dX5_writeAbsent_38 : decode cX5_writeAbsent 38 = .ok (.isub, 1) := by decide +kernel
theorem dX5_writeAbsent_39 : decode cX5_writeAbsent 39 = .ok (.if_icmp .ge 27, 3) := by decide +kernel
theorem dX5_writeAbsent_42 : decode cX5_writeAbsent 42 = .ok (.aload_n 0, 1) := by decide +kernel
theorem dX5_writeAbsent_43 : decode cX5_writeAbsent 43 = .ok (.iload_n 2, 1) := by decide +kernel
theorem dX5_writeAbsent_44 : decode cX5_writeAbsent 44 = .ok (.iload 4, 2) := by decide +kernel
theorem dX5_writeAbsent_46 : decode cX5_writeAbsent 46 = .ok (.invokevirtual 98, 3) := by decide +kernel
theorem dX5_writeAbsent_49 : decode cX5_writeAbsent 49 = .ok (.aload_n 0, 1) := by decide +kernel
theorem dX5_writeAbsent_50 : decode cX5_writeAbsent 50 = .ok (.getfield 22, 3) := by decide +kernel
theorem dX5_writeAbsent_53 : decode cX5_writeAbsent 53 = .ok (.iload_n 2, 1) := by decide +kernel
theorem dX5_writeAbsent_54 : decode cX5_writeAbsent 54 = .ok (.invokestatic 73, 3) := by decide +kernel
theorem dX5_writeAbsent_57 : decode cX5_writeAbsent 57 = .ok (.if_icmp .le 9, 3) := by decide +kernel
theorem dX5_writeAbsent_60 : decode cX5_writeAbsent 60 = .ok (.iinc 4 1, 3) := by decide +kernel
theorem dX5_writeAbsent_63 : decode cX5_writeAbsent 63 = .ok (.goto (-35), 3) := by decide +kernel
theorem dX5_writeAbsent_66 : decode cX5_writeAbsent 66 = .ok (.aload_n 1, 1) := by decide +kernel
theorem dX5_writeAbsent_67 : decode cX5_writeAbsent 67 = .ok (.iload 4, 2) := by decide +kernel
theorem dX5_writeAbsent_69 : decode cX5_writeAbsent 69 = .ok (.invokevirtual 92, 3) := by decide +kernel
theorem dX5_writeAbsent_72 : decode cX5_writeAbsent 72 = .ok (.aload_n 0, 1) := by decide +kernel
theorem dX5_writeAbsent_73 : decode cX5_writeAbsent 73 = .ok (.getfield 9, 3) := by decide +kernel
theorem dX5_writeAbsent_76 : decode cX5_writeAbsent 76 = .ok (.iload_n 2, 1) := by decide +kernel
theorem dX5_writeAbsent_77 : decode cX5_writeAbsent 77 = .ok (.iload 4, 2) := by decide +kernel
theorem dX5_writeAbsent_79 : decode cX5_writeAbsent 79 = .ok (.invokevirtual 39, 3) := by decide +kernel
theorem dX5_writeAbsent_82 : decode cX5_writeAbsent 82 = .ok (.istore_n 2, 1) := by decide +kernel
theorem dX5_writeAbsent_83 : decode cX5_writeAbsent 83 = .ok (.iinc 3 1, 3) := by decide +kernel
theorem dX5_writeAbsent_86 : decode cX5_writeAbsent 86 = .ok (.goto (-73), 3) := by decide +kernel
theorem dX5_writeAbsent_89 : decode cX5_writeAbsent 89 = .ok (.return_, 1) := by decide +kernel
set_option maxRecDepth 20000 in
theorem ggX5_countWayOut_X5_orderByLongest : GoodIn wsX5_countWayOut wsX5_orderByLongest := goodIn_r _ [14, 15, 1, 2, 3, 16, 17, 18, 19, 20, 21, 22, 23, 24, 25, 26, 27, 28, 29, 49, 50, 51, 52, 53, 54, 55, 56, 57, 58, 59, 60, 61, 62, 63, 64, 65] rfl rfl
set_option maxRecDepth 20000 in
theorem gX5_countWayOut_X5_orderByLongest : GoodIn wsX5_countWayOut (wsV RX5 76 RX5 yX5_orderByLongest wsX5_orderByLongest) := goodIn_app (goodIn_r _ [10, 11, 12, 13] rfl rfl) ggX5_countWayOut_X5_orderByLongest
set_option maxRecDepth 20000 in
theorem ggX5_countWayOut_X3_at : GoodIn wsX5_countWayOut wsX3_at := goodIn_r _ [28] rfl rfl
set_option maxRecDepth 20000 in
theorem gX5_countWayOut_X3_at : GoodIn wsX5_countWayOut (va_wsS RX5 73 yX3_at wsX3_at) := goodIn_app (goodIn_r _ [29, 27, 18] rfl rfl) ggX5_countWayOut_X3_at
set_option maxRecDepth 20000 in
theorem ggX5_countWayOut_X5_wayOutBy : GoodIn wsX5_countWayOut wsX5_wayOutBy := goodIn_r _ [33, 1, 9, 34, 35, 36, 23, 37, 38, 39, 40, 41, 42, 43, 44, 45, 46, 47, 48, 26, 27, 18, 28, 29, 49, 50, 51, 52, 53, 54, 55, 56, 57, 58, 59, 60, 61, 62, 63, 64, 65] rfl rfl
set_option maxRecDepth 20000 in
theorem gX5_countWayOut_X5_wayOutBy : GoodIn wsX5_countWayOut (wsV RX5 98 RX5 yX5_wayOutBy wsX5_wayOutBy) := goodIn_app (goodIn_r _ [30, 31, 32, 13] rfl rfl) ggX5_countWayOut_X5_wayOutBy
set_option maxRecDepth 20000 in
theorem ggX5_countWayOut_X3_put : GoodIn wsX5_countWayOut wsX3_put := goodIn_r _ [19] rfl rfl
set_option maxRecDepth 20000 in
theorem gX5_countWayOut_X3_put : GoodIn wsX5_countWayOut (va_wsS RX5 64 yX3_put wsX3_put) := goodIn_app (goodIn_r _ [16, 17, 18] rfl rfl) ggX5_countWayOut_X3_put
theorem dX5_countWayOut_0 : decode cX5_countWayOut 0 = .ok (.aload_n 0, 1) := by decide +kernel
theorem dX5_countWayOut_1 : decode cX5_countWayOut 1 = .ok (.invokevirtual 76, 3) := by decide +kernel
theorem dX5_countWayOut_4 : decode cX5_countWayOut 4 = .ok (.aload_n 0, 1) := by decide +kernel
theorem dX5_countWayOut_5 : decode cX5_countWayOut 5 = .ok (.getfield 9, 3) := by decide +kernel
theorem dX5_countWayOut_8 : decode cX5_countWayOut 8 = .ok (.getfield 67, 3) := by decide +kernel
theorem dX5_countWayOut_11 : decode cX5_countWayOut 11 = .ok (.iconst 1, 1) := by decide +kernel
theorem dX5_countWayOut_12 : decode cX5_countWayOut 12 = .ok (.isub, 1) := by decide +kernel
theorem dX5_countWayOut_13 : decode cX5_countWayOut 13 = .ok (.istore_n 1, 1) := by decide +kernel
theorem dX5_countWayOut_14 : decode cX5_countWayOut 14 = .ok (.iload_n 1, 1) := by decide +kernel
theorem dX5_countWayOut_15 : decode cX5_countWayOut 15 = .ok (.ifCond .lt 67, 3) := by decide +kernel
theorem dX5_countWayOut_18 : decode cX5_countWayOut 18 = .ok (.aload_n 0, 1) := by decide +kernel
theorem dX5_countWayOut_19 : decode cX5_countWayOut 19 = .ok (.getfield 19, 3) := by decide +kernel
theorem dX5_countWayOut_22 : decode cX5_countWayOut 22 = .ok (.iload_n 1, 1) := by decide +kernel
theorem dX5_countWayOut_23 : decode cX5_countWayOut 23 = .ok (.invokestatic 73, 3) := by decide +kernel
theorem dX5_countWayOut_26 : decode cX5_countWayOut 26 = .ok (.istore_n 2, 1) := by decide +kernel
theorem dX5_countWayOut_27 : decode cX5_countWayOut 27 = .ok (.aload_n 0, 1) := by decide +kernel
theorem dX5_countWayOut_28 : decode cX5_countWayOut 28 = .ok (.iload_n 2, 1) := by decide +kernel
theorem dX5_countWayOut_29 : decode cX5_countWayOut 29 = .ok (.iconst 0, 1) := by decide +kernel
theorem dX5_countWayOut_30 : decode cX5_countWayOut 30 = .ok (.invokevirtual 98, 3) := by decide +kernel
theorem dX5_countWayOut_33 : decode cX5_countWayOut 33 = .ok (.istore_n 3, 1) := by decide +kernel
theorem dX5_countWayOut_34 : decode cX5_countWayOut 34 = .ok (.iconst 1, 1) := by decide +kernel
theorem dX5_countWayOut_35 : decode cX5_countWayOut 35 = .ok (.istore 4, 2) := by decide +kernel
theorem dX5_countWayOut_37 : decode cX5_countWayOut 37 = .ok (.iload 4, 2) := by decide +kernel
theorem dX5_countWayOut_39 : decode cX5_countWayOut 39 = .ok (.aload_n 0, 1) := by decide +kernel
theorem dX5_countWayOut_40 : decode cX5_countWayOut 40 = .ok (.getfield 9, 3) := by decide +kernel
theorem dX5_countWayOut_43 : decode cX5_countWayOut 43 = .ok (.getfield 79, 3) := by decide +kernel
theorem dX5_countWayOut_46 : decode cX5_countWayOut 46 = .ok (.if_icmp .ge 21, 3) := by decide +kernel
theorem dX5_countWayOut_49 : decode cX5_countWayOut 49 = .ok (.iload_n 3, 1) := by decide +kernel
theorem dX5_countWayOut_50 : decode cX5_countWayOut 50 = .ok (.aload_n 0, 1) := by decide +kernel
theorem dX5_countWayOut_51 : decode cX5_countWayOut 51 = .ok (.iload_n 2, 1) := by decide +kernel
theorem dX5_countWayOut_52 : decode cX5_countWayOut 52 = .ok (.iload 4, 2) := by decide +kernel
theorem dX5_countWayOut_54 : decode cX5_countWayOut 54 = .ok (.invokevirtual 98, 3) := by decide +kernel
theorem dX5_countWayOut_57 : decode cX5_countWayOut 57 = .ok (.invokestatic 101, 3) := by decide +kernel
theorem dX5_countWayOut_60 : decode cX5_countWayOut 60 = .ok (.istore_n 3, 1) := by decide +kernel
theorem dX5_countWayOut_61 : decode cX5_countWayOut 61 = .ok (.iinc 4 1, 3) := by decide +kernel
theorem dX5_countWayOut_64 : decode cX5_countWayOut 64 = .ok (.goto (-27), 3) := by decide +kernel
theorem dX5_countWayOut_67 : decode cX5_countWayOut 67 = .ok (.aload_n 0, 1) := by decide +kernel
theorem dX5_countWayOut_68 : decode cX5_countWayOut 68 = .ok (.getfield 22, 3) := by decide +kernel
theorem dX5_countWayOut_71 : decode cX5_countWayOut 71 = .ok (.iload_n 2, 1) := by decide +kernel
theorem dX5_countWayOut_72 : decode cX5_countWayOut 72 = .ok (.iload_n 3, 1) := by decide +kernel
theorem dX5_countWayOut_73 : decode cX5_countWayOut 73 = .ok (.invokestatic 64, 3) := by decide +kernel
theorem dX5_countWayOut_76 : decode cX5_countWayOut 76 = .ok (.iinc 1 (-1), 3) := by decide +kernel
theorem dX5_countWayOut_79 : decode cX5_countWayOut 79 = .ok (.goto (-65), 3) := by decide +kernel
theorem dX5_countWayOut_82 : decode cX5_countWayOut 82 = .ok (.return_, 1) := by decide +kernel
set_option maxRecDepth 20000 in
theorem ggX5_wayOutBy_X2_moveOf : GoodIn wsX5_wayOutBy wsX2_moveOf := goodIn_r _ [7, 8, 9, 10, 11, 6, 12, 13, 14, 15, 16, 17, 18, 19, 20, 21, 22, 29, 30, 31, 32, 33, 34, 35, 36, 37, 38, 39, 40] rfl rfl
set_option maxRecDepth 20000 in
theorem gX5_wayOutBy_X2_moveOf : GoodIn wsX5_wayOutBy (wsV RX5 39 RX2 yX2_moveOf wsX2_moveOf) := goodIn_app (goodIn_r _ [3, 4, 5, 6] rfl rfl) ggX5_wayOutBy_X2_moveOf
set_option maxRecDepth 20000 in
theorem ggX5_wayOutBy_X3_at : GoodIn wsX5_wayOutBy wsX3_at := goodIn_r _ [22] rfl rfl
set_option maxRecDepth 20000 in
theorem gX5_wayOutBy_X3_at : GoodIn wsX5_wayOutBy (va_wsS RX5 73 yX3_at wsX3_at) := goodIn_app (goodIn_r _ [23, 20, 21] rfl rfl) ggX5_wayOutBy_X3_at
theorem dX5_wayOutBy_0 : decode cX5_wayOutBy 0 = .ok (.aload_n 0, 1) := by decide +kernel
theorem dX5_wayOutBy_1 : decode cX5_wayOutBy 1 = .ok (.getfield 9, 3) := by decide +kernel
theorem dX5_wayOutBy_4 : decode cX5_wayOutBy 4 = .ok (.iload_n 1, 1) := by decide +kernel
theorem dX5_wayOutBy_5 : decode cX5_wayOutBy 5 = .ok (.iload_n 2, 1) := by decide +kernel
theorem dX5_wayOutBy_6 : decode cX5_wayOutBy 6 = .ok (.invokevirtual 39, 3) := by decide +kernel
theorem dX5_wayOutBy_9 : decode cX5_wayOutBy 9 = .ok (.istore_n 3, 1) := by decide +kernel
theorem dX5_wayOutBy_10 : decode cX5_wayOutBy 10 = .ok (.iload_n 3, 1) := by decide +kernel
theorem dX5_wayOutBy_11 : decode cX5_wayOutBy 11 = .ok (.bipush (-4), 2) := by decide +kernel
theorem dX5_wayOutBy_13 : decode cX5_wayOutBy 13 = .ok (.if_icmp .ne 7, 3) := by decide +kernel
theorem dX5_wayOutBy_16 : decode cX5_wayOutBy 16 = .ok (.iconst 1, 1) := by decide +kernel
theorem dX5_wayOutBy_17 : decode cX5_wayOutBy 17 = .ok (.goto 13, 3) := by decide +kernel
theorem dX5_wayOutBy_20 : decode cX5_wayOutBy 20 = .ok (.iconst 1, 1) := by decide +kernel
theorem dX5_wayOutBy_21 : decode cX5_wayOutBy 21 = .ok (.aload_n 0, 1) := by decide +kernel
theorem dX5_wayOutBy_22 : decode cX5_wayOutBy 22 = .ok (.getfield 22, 3) := by decide +kernel
theorem dX5_wayOutBy_25 : decode cX5_wayOutBy 25 = .ok (.iload_n 3, 1) := by decide +kernel
theorem dX5_wayOutBy_26 : decode cX5_wayOutBy 26 = .ok (.invokestatic 73, 3) := by decide +kernel
theorem dX5_wayOutBy_29 : decode cX5_wayOutBy 29 = .ok (.iadd, 1) := by decide +kernel
theorem dX5_wayOutBy_30 : decode cX5_wayOutBy 30 = .ok (.ireturn, 1) := by decide +kernel
set_option maxRecDepth 20000 in
theorem ggX5_longestStateWith_X2_longestOf : GoodIn wsX5_longestStateWith wsX2_longestOf := goodIn_r _ [7, 8, 9, 10, 11, 12, 58, 59, 60, 61, 62, 63, 64, 65, 66, 67, 68, 69] rfl rfl
set_option maxRecDepth 20000 in
theorem gX5_longestStateWith_X2_longestOf : GoodIn wsX5_longestStateWith (wsV RX5 70 RX2 yX2_longestOf wsX2_longestOf) := goodIn_app (goodIn_r _ [3, 4, 5, 6] rfl rfl) ggX5_longestStateWith_X2_longestOf
set_option maxRecDepth 20000 in
theorem ggX5_longestStateWith_X2_endsOf : GoodIn wsX5_longestStateWith wsX2_endsOf := goodIn_r _ [16, 17, 18, 19, 20, 6, 21, 22, 23, 24, 11, 25, 58, 59, 60, 61, 62, 63, 64, 65, 66, 67, 68, 69] rfl rfl
set_option maxRecDepth 20000 in
theorem gX5_longestStateWith_X2_endsOf : GoodIn wsX5_longestStateWith (wsV RX5 106 RX2 yX2_endsOf wsX2_endsOf) := goodIn_app (goodIn_r _ [13, 14, 15, 6] rfl rfl) ggX5_longestStateWith_X2_endsOf
set_option maxRecDepth 20000 in
theorem ggX5_longestStateWith_J13_bitCount_95d88 : GoodIn wsX5_longestStateWith wsJ13_bitCount_95d88 := goodIn_r _ [29, 30, 31, 32] rfl rfl
set_option maxRecDepth 20000 in
theorem gX5_longestStateWith_J13_bitCount_95d88 : GoodIn wsX5_longestStateWith (va_wsS RX5 110 yJ13_bitCount_95d88 wsJ13_bitCount_95d88) := goodIn_app (goodIn_r _ [26, 27, 28] rfl rfl) ggX5_longestStateWith_J13_bitCount_95d88
set_option maxRecDepth 20000 in
theorem ggX5_longestStateWith_X5_isAhead : GoodIn wsX5_longestStateWith wsX5_isAhead := goodIn_r _ [37, 1, 38, 39, 40, 6, 41, 42, 14, 15, 16, 17, 18, 19, 20, 21, 22, 23, 24, 11, 25, 43, 44, 45, 46, 47, 27, 28, 29, 30, 31, 32, 48, 49, 50, 51, 52, 9, 10, 12, 53, 54, 55, 56, 57, 58, 59, 60, 61, 62, 63, 64, 65, 66, 67, 68, 69] rfl rfl
set_option maxRecDepth 20000 in
theorem gX5_longestStateWith_X5_isAhead : GoodIn wsX5_longestStateWith (wsV RX5 116 RX5 yX5_isAhead wsX5_isAhead) := goodIn_app (goodIn_r _ [33, 34, 35, 36] rfl rfl) ggX5_longestStateWith_X5_isAhead
theorem dX5_longestStateWith_0 : decode cX5_longestStateWith 0 = .ok (.iconst 0, 1) := by decide +kernel
theorem dX5_longestStateWith_1 : decode cX5_longestStateWith 1 = .ok (.istore_n 2, 1) := by decide +kernel
theorem dX5_longestStateWith_2 : decode cX5_longestStateWith 2 = .ok (.iconst 1, 1) := by decide +kernel
theorem dX5_longestStateWith_3 : decode cX5_longestStateWith 3 = .ok (.istore_n 3, 1) := by decide +kernel
theorem dX5_longestStateWith_4 : decode cX5_longestStateWith 4 = .ok (.iload_n 3, 1) := by decide +kernel
theorem dX5_longestStateWith_5 : decode cX5_longestStateWith 5 = .ok (.aload_n 0, 1) := by decide +kernel
theorem dX5_longestStateWith_6 : decode cX5_longestStateWith 6 = .ok (.getfield 9, 3) := by decide +kernel
theorem dX5_longestStateWith_9 : decode cX5_longestStateWith 9 = .ok (.getfield 67, 3) := by decide +kernel
theorem dX5_longestStateWith_12 : decode cX5_longestStateWith 12 = .ok (.if_icmp .ge 82, 3) := by decide +kernel
theorem dX5_longestStateWith_15 : decode cX5_longestStateWith 15 = .ok (.aload_n 0, 1) := by decide +kernel
theorem dX5_longestStateWith_16 : decode cX5_longestStateWith 16 = .ok (.getfield 9, 3) := by decide +kernel
theorem dX5_longestStateWith_19 : decode cX5_longestStateWith 19 = .ok (.iload_n 3, 1) := by decide +kernel
theorem dX5_longestStateWith_20 : decode cX5_longestStateWith 20 = .ok (.invokevirtual 70, 3) := by decide +kernel
theorem dX5_longestStateWith_23 : decode cX5_longestStateWith 23 = .ok (.istore 4, 2) := by decide +kernel
theorem dX5_longestStateWith_25 : decode cX5_longestStateWith 25 = .ok (.iload 4, 2) := by decide +kernel
theorem dX5_longestStateWith_27 : decode cX5_longestStateWith 27 = .ok (.aload_n 0, 1) := by decide +kernel
theorem dX5_longestStateWith_28 : decode cX5_longestStateWith 28 = .ok (.getfield 9, 3) := by decide +kernel
theorem dX5_longestStateWith_31 : decode cX5_longestStateWith 31 = .ok (.iload_n 2, 1) := by decide +kernel
theorem dX5_longestStateWith_32 : decode cX5_longestStateWith 32 = .ok (.invokevirtual 70, 3) := by decide +kernel
theorem dX5_longestStateWith_35 : decode cX5_longestStateWith 35 = .ok (.isub, 1) := by decide +kernel
theorem dX5_longestStateWith_36 : decode cX5_longestStateWith 36 = .ok (.istore 5, 2) := by decide +kernel
theorem dX5_longestStateWith_38 : decode cX5_longestStateWith 38 = .ok (.aload_n 0, 1) := by decide +kernel
theorem dX5_longestStateWith_39 : decode cX5_longestStateWith 39 = .ok (.getfield 9, 3) := by decide +kernel
theorem dX5_longestStateWith_42 : decode cX5_longestStateWith 42 = .ok (.iload_n 3, 1) := by decide +kernel
theorem dX5_longestStateWith_43 : decode cX5_longestStateWith 43 = .ok (.invokevirtual 106, 3) := by decide +kernel
theorem dX5_longestStateWith_46 : decode cX5_longestStateWith 46 = .ok (.invokestatic 110, 3) := by decide +kernel
theorem dX5_longestStateWith_49 : decode cX5_longestStateWith 49 = .ok (.iload_n 1, 1) := by decide +kernel
theorem dX5_longestStateWith_50 : decode cX5_longestStateWith 50 = .ok (.if_icmp .lt 7, 3) := by decide +kernel
theorem dX5_longestStateWith_53 : decode cX5_longestStateWith 53 = .ok (.iconst 1, 1) := by decide +kernel
theorem dX5_longestStateWith_54 : decode cX5_longestStateWith 54 = .ok (.goto 4, 3) := by decide +kernel
theorem dX5_longestStateWith_57 : decode cX5_longestStateWith 57 = .ok (.iconst 0, 1) := by decide +kernel
theorem dX5_longestStateWith_58 : decode cX5_longestStateWith 58 = .ok (.istore 6, 2) := by decide +kernel
theorem dX5_longestStateWith_60 : decode cX5_longestStateWith 60 = .ok (.iload 6, 2) := by decide +kernel
theorem dX5_longestStateWith_62 : decode cX5_longestStateWith 62 = .ok (.ifCond .eq 26, 3) := by decide +kernel
theorem dX5_longestStateWith_65 : decode cX5_longestStateWith 65 = .ok (.iload 5, 2) := by decide +kernel
theorem dX5_longestStateWith_67 : decode cX5_longestStateWith 67 = .ok (.ifCond .gt 19, 3) := by decide +kernel
theorem dX5_longestStateWith_70 : decode cX5_longestStateWith 70 = .ok (.iload 5, 2) := by decide +kernel
theorem dX5_longestStateWith_72 : decode cX5_longestStateWith 72 = .ok (.ifCond .ne 16, 3) := by decide +kernel
theorem dX5_longestStateWith_75 : decode cX5_longestStateWith 75 = .ok (.aload_n 0, 1) := by decide +kernel
theorem dX5_longestStateWith_76 : decode cX5_longestStateWith 76 = .ok (.iload_n 3, 1) := by decide +kernel
theorem dX5_longestStateWith_77 : decode cX5_longestStateWith 77 = .ok (.iload_n 2, 1) := by decide +kernel
theorem dX5_longestStateWith_78 : decode cX5_longestStateWith 78 = .ok (.iload 4, 2) := by decide +kernel
theorem dX5_longestStateWith_80 : decode cX5_longestStateWith 80 = .ok (.invokevirtual 116, 3) := by decide +kernel
theorem dX5_longestStateWith_83 : decode cX5_longestStateWith 83 = .ok (.ifCond .eq 5, 3) := by decide +kernel
theorem dX5_longestStateWith_86 : decode cX5_longestStateWith 86 = .ok (.iload_n 3, 1) := by decide +kernel
theorem dX5_longestStateWith_87 : decode cX5_longestStateWith 87 = .ok (.istore_n 2, 1) := by decide +kernel
theorem dX5_longestStateWith_88 : decode cX5_longestStateWith 88 = .ok (.iinc 3 1, 3) := by decide +kernel
theorem dX5_longestStateWith_91 : decode cX5_longestStateWith 91 = .ok (.goto (-87), 3) := by decide +kernel
theorem dX5_longestStateWith_94 : decode cX5_longestStateWith 94 = .ok (.iload_n 2, 1) := by decide +kernel
theorem dX5_longestStateWith_95 : decode cX5_longestStateWith 95 = .ok (.ireturn, 1) := by decide +kernel
set_option maxRecDepth 20000 in
theorem ggX5_shortestStateAlone_X2_lastState : GoodIn wsX5_shortestStateAlone wsX2_lastState := goodIn_r _ [7, 8, 72, 73, 74, 75, 76, 77, 78, 79, 80, 81, 82, 83] rfl rfl
set_option maxRecDepth 20000 in
theorem gX5_shortestStateAlone_X2_lastState : GoodIn wsX5_shortestStateAlone (wsV RX5 120 RX2 yX2_lastState wsX2_lastState) := goodIn_app (goodIn_r _ [3, 4, 5, 6] rfl rfl) ggX5_shortestStateAlone_X2_lastState
set_option maxRecDepth 20000 in
theorem ggX5_shortestStateAlone_X2_shortestOf : GoodIn wsX5_shortestStateAlone wsX2_shortestOf := goodIn_r _ [12, 13, 14, 15, 6, 16, 17, 18, 19, 20, 21, 22, 23, 24, 25, 26, 27, 28, 29, 30, 31, 72, 73, 74, 75, 76, 77, 78, 79, 80, 81, 82, 83] rfl rfl
set_option maxRecDepth 20000 in
theorem gX5_shortestStateAlone_X2_shortestOf : GoodIn wsX5_shortestStateAlone (wsV RX5 124 RX2 yX2_shortestOf wsX2_shortestOf) := goodIn_app (goodIn_r _ [9, 10, 11, 6] rfl rfl) ggX5_shortestStateAlone_X2_shortestOf
set_option maxRecDepth 20000 in
theorem ggX5_shortestStateAlone_X2_endsOf : GoodIn wsX5_shortestStateAlone wsX2_endsOf := goodIn_r _ [35, 36, 18, 19, 20, 6, 21, 22, 37, 38, 25, 39, 72, 73, 74, 75, 76, 77, 78, 79, 80, 81, 82, 83] rfl rfl
set_option maxRecDepth 20000 in
theorem gX5_shortestStateAlone_X2_endsOf : GoodIn wsX5_shortestStateAlone (wsV RX5 106 RX2 yX2_endsOf wsX2_endsOf) := goodIn_app (goodIn_r _ [32, 33, 34, 6] rfl rfl) ggX5_shortestStateAlone_X2_endsOf
set_option maxRecDepth 20000 in
theorem ggX5_shortestStateAlone_J13_bitCount_95d88 : GoodIn wsX5_shortestStateAlone wsJ13_bitCount_95d88 := goodIn_r _ [43, 44, 45, 46] rfl rfl
set_option maxRecDepth 20000 in
theorem gX5_shortestStateAlone_J13_bitCount_95d88 : GoodIn wsX5_shortestStateAlone (va_wsS RX5 110 yJ13_bitCount_95d88 wsJ13_bitCount_95d88) := goodIn_app (goodIn_r _ [40, 41, 42] rfl rfl) ggX5_shortestStateAlone_J13_bitCount_95d88
set_option maxRecDepth 20000 in
theorem ggX5_shortestStateAlone_X5_isAhead : GoodIn wsX5_shortestStateAlone wsX5_isAhead := goodIn_r _ [51, 1, 52, 53, 54, 6, 55, 56, 33, 34, 35, 36, 18, 19, 20, 21, 22, 37, 38, 25, 39, 57, 58, 59, 60, 61, 41, 42, 43, 44, 45, 46, 62, 63, 64, 65, 66, 23, 24, 26, 67, 68, 69, 70, 71, 72, 73, 74, 75, 76, 77, 78, 79, 80, 81, 82, 83] rfl rfl
set_option maxRecDepth 20000 in
theorem gX5_shortestStateAlone_X5_isAhead : GoodIn wsX5_shortestStateAlone (wsV RX5 116 RX5 yX5_isAhead wsX5_isAhead) := goodIn_app (goodIn_r _ [47, 48, 49, 50] rfl rfl) ggX5_shortestStateAlone_X5_isAhead
theorem dX5_shortestStateAlone_0 : decode cX5_shortestStateAlone 0 = .ok (.aload_n 0, 1) := by decide +kernel
theorem dX5_shortestStateAlone_1 : decode cX5_shortestStateAlone 1 = .ok (.getfield 9, 3) := by decide +kernel
theorem dX5_shortestStateAlone_4 : decode cX5_shortestStateAlone 4 = .ok (.invokevirtual 120, 3) := by decide +kernel
theorem dX5_shortestStateAlone_7 : decode cX5_shortestStateAlone 7 = .ok (.istore_n 1, 1) := by decide +kernel
theorem dX5_shortestStateAlone_8 : decode cX5_shortestStateAlone 8 = .ok (.iconst 0, 1) := by decide +kernel
theorem dX5_shortestStateAlone_9 : decode cX5_shortestStateAlone 9 = .ok (.istore_n 2, 1) := by decide +kernel
theorem dX5_shortestStateAlone_10 : decode cX5_shortestStateAlone 10 = .ok (.iload_n 2, 1) := by decide +kernel
theorem dX5_shortestStateAlone_11 : decode cX5_shortestStateAlone 11 = .ok (.aload_n 0, 1) := by decide +kernel
theorem dX5_shortestStateAlone_12 : decode cX5_shortestStateAlone 12 = .ok (.getfield 9, 3) := by decide +kernel
theorem dX5_shortestStateAlone_15 : decode cX5_shortestStateAlone 15 = .ok (.getfield 67, 3) := by decide +kernel
theorem dX5_shortestStateAlone_18 : decode cX5_shortestStateAlone 18 = .ok (.if_icmp .ge 79, 3) := by decide +kernel
theorem dX5_shortestStateAlone_21 : decode cX5_shortestStateAlone 21 = .ok (.aload_n 0, 1) := by decide +kernel
theorem dX5_shortestStateAlone_22 : decode cX5_shortestStateAlone 22 = .ok (.getfield 9, 3) := by decide +kernel
theorem dX5_shortestStateAlone_25 : decode cX5_shortestStateAlone 25 = .ok (.iload_n 2, 1) := by decide +kernel
theorem dX5_shortestStateAlone_26 : decode cX5_shortestStateAlone 26 = .ok (.invokevirtual 124, 3) := by decide +kernel
theorem dX5_shortestStateAlone_29 : decode cX5_shortestStateAlone 29 = .ok (.istore_n 3, 1) := by decide +kernel
theorem dX5_shortestStateAlone_30 : decode cX5_shortestStateAlone 30 = .ok (.iload_n 3, 1) := by decide +kernel
theorem dX5_shortestStateAlone_31 : decode cX5_shortestStateAlone 31 = .ok (.aload_n 0, 1) := by decide +kernel
theorem dX5_shortestStateAlone_32 : decode cX5_shortestStateAlone 32 = .ok (.getfield 9, 3) := by decide +kernel
theorem dX5_shortestStateAlone_35 : decode cX5_shortestStateAlone 35 = .ok (.iload_n 1, 1) := by decide +kernel
theorem dX5_shortestStateAlone_36 : decode cX5_shortestStateAlone 36 = .ok (.invokevirtual 124, 3) := by decide +kernel
theorem dX5_shortestStateAlone_39 : decode cX5_shortestStateAlone 39 = .ok (.isub, 1) := by decide +kernel
theorem dX5_shortestStateAlone_40 : decode cX5_shortestStateAlone 40 = .ok (.istore 4, 2) := by decide +kernel
theorem dX5_shortestStateAlone_42 : decode cX5_shortestStateAlone 42 = .ok (.aload_n 0, 1) := by decide +kernel
theorem dX5_shortestStateAlone_43 : decode cX5_shortestStateAlone 43 = .ok (.getfield 9, 3) := by decide +kernel
theorem dX5_shortestStateAlone_46 : decode cX5_shortestStateAlone 46 = .ok (.iload_n 2, 1) := by decide +kernel
theorem dX5_shortestStateAlone_47 : decode cX5_shortestStateAlone 47 = .ok (.invokevirtual 106, 3) := by decide +kernel
theorem dX5_shortestStateAlone_50 : decode cX5_shortestStateAlone 50 = .ok (.invokestatic 110, 3) := by decide +kernel
theorem dX5_shortestStateAlone_53 : decode cX5_shortestStateAlone 53 = .ok (.iconst 1, 1) := by decide +kernel
theorem dX5_shortestStateAlone_54 : decode cX5_shortestStateAlone 54 = .ok (.if_icmp .ne 7, 3) := by decide +kernel
theorem dX5_shortestStateAlone_57 : decode cX5_shortestStateAlone 57 = .ok (.iconst 1, 1) := by decide +kernel
theorem dX5_shortestStateAlone_58 : decode cX5_shortestStateAlone 58 = .ok (.goto 4, 3) := by decide +kernel
theorem dX5_shortestStateAlone_61 : decode cX5_shortestStateAlone 61 = .ok (.iconst 0, 1) := by decide +kernel
theorem dX5_shortestStateAlone_62 : decode cX5_shortestStateAlone 62 = .ok (.istore 5, 2) := by decide +kernel
theorem dX5_shortestStateAlone_64 : decode cX5_shortestStateAlone 64 = .ok (.iload 5, 2) := by decide +kernel
theorem dX5_shortestStateAlone_66 : decode cX5_shortestStateAlone 66 = .ok (.ifCond .eq 25, 3) := by decide +kernel
theorem dX5_shortestStateAlone_69 : decode cX5_shortestStateAlone 69 = .ok (.iload 4, 2) := by decide +kernel
theorem dX5_shortestStateAlone_71 : decode cX5_shortestStateAlone 71 = .ok (.ifCond .lt 18, 3) := by decide +kernel
theorem dX5_shortestStateAlone_74 : decode cX5_shortestStateAlone 74 = .ok (.iload 4, 2) := by decide +kernel
theorem dX5_shortestStateAlone_76 : decode cX5_shortestStateAlone 76 = .ok (.ifCond .ne 15, 3) := by decide +kernel
theorem dX5_shortestStateAlone_79 : decode cX5_shortestStateAlone 79 = .ok (.aload_n 0, 1) := by decide +kernel
theorem dX5_shortestStateAlone_80 : decode cX5_shortestStateAlone 80 = .ok (.iload_n 2, 1) := by decide +kernel
theorem dX5_shortestStateAlone_81 : decode cX5_shortestStateAlone 81 = .ok (.iload_n 1, 1) := by decide +kernel
theorem dX5_shortestStateAlone_82 : decode cX5_shortestStateAlone 82 = .ok (.iload_n 3, 1) := by decide +kernel
theorem dX5_shortestStateAlone_83 : decode cX5_shortestStateAlone 83 = .ok (.invokevirtual 116, 3) := by decide +kernel
theorem dX5_shortestStateAlone_86 : decode cX5_shortestStateAlone 86 = .ok (.ifCond .eq 5, 3) := by decide +kernel
theorem dX5_shortestStateAlone_89 : decode cX5_shortestStateAlone 89 = .ok (.iload_n 2, 1) := by decide +kernel
theorem dX5_shortestStateAlone_90 : decode cX5_shortestStateAlone 90 = .ok (.istore_n 1, 1) := by decide +kernel
theorem dX5_shortestStateAlone_91 : decode cX5_shortestStateAlone 91 = .ok (.iinc 2 1, 3) := by decide +kernel
theorem dX5_shortestStateAlone_94 : decode cX5_shortestStateAlone 94 = .ok (.goto (-84), 3) := by decide +kernel
theorem dX5_shortestStateAlone_97 : decode cX5_shortestStateAlone 97 = .ok (.iload_n 1, 1) := by decide +kernel
theorem dX5_shortestStateAlone_98 : decode cX5_shortestStateAlone 98 = .ok (.ireturn, 1) := by decide +kernel
set_option maxRecDepth 20000 in
theorem ggX5_isAhead_X2_firstEndOf : GoodIn wsX5_isAhead wsX2_firstEndOf := goodIn_r _ [6, 7, 8, 9, 5, 10, 11, 12, 13, 14, 15, 16, 17, 18, 19, 20, 21, 22, 23, 24, 25, 26, 27, 28, 29, 30, 31, 45, 46, 47, 48, 49, 50, 51, 52, 53, 54, 55, 56] rfl rfl
set_option maxRecDepth 20000 in
theorem gX5_isAhead_X2_firstEndOf : GoodIn wsX5_isAhead (wsV RX5 127 RX2 yX2_firstEndOf wsX2_firstEndOf) := goodIn_app (goodIn_r _ [2, 3, 4, 5] rfl rfl) ggX5_isAhead_X2_firstEndOf
set_option maxRecDepth 20000 in
theorem ggX5_isAhead_X2_letterAt : GoodIn wsX5_isAhead wsX2_letterAt := goodIn_r _ [35, 36, 37, 38, 19, 39, 45, 46, 47, 48, 49, 50, 51, 52, 53, 54, 55, 56] rfl rfl
set_option maxRecDepth 20000 in
theorem gX5_isAhead_X2_letterAt : GoodIn wsX5_isAhead (wsV RX5 130 RX2 yX2_letterAt wsX2_letterAt) := goodIn_app (goodIn_r _ [32, 33, 34, 5] rfl rfl) ggX5_isAhead_X2_letterAt
theorem dX5_isAhead_0 : decode cX5_isAhead 0 = .ok (.aload_n 0, 1) := by decide +kernel
theorem dX5_isAhead_1 : decode cX5_isAhead 1 = .ok (.getfield 9, 3) := by decide +kernel
theorem dX5_isAhead_4 : decode cX5_isAhead 4 = .ok (.iload_n 1, 1) := by decide +kernel
theorem dX5_isAhead_5 : decode cX5_isAhead 5 = .ok (.invokevirtual 127, 3) := by decide +kernel
theorem dX5_isAhead_8 : decode cX5_isAhead 8 = .ok (.istore 4, 2) := by decide +kernel
theorem dX5_isAhead_10 : decode cX5_isAhead 10 = .ok (.aload_n 0, 1) := by decide +kernel
theorem dX5_isAhead_11 : decode cX5_isAhead 11 = .ok (.getfield 9, 3) := by decide +kernel
theorem dX5_isAhead_14 : decode cX5_isAhead 14 = .ok (.iload_n 2, 1) := by decide +kernel
theorem dX5_isAhead_15 : decode cX5_isAhead 15 = .ok (.invokevirtual 127, 3) := by decide +kernel
theorem dX5_isAhead_18 : decode cX5_isAhead 18 = .ok (.istore 5, 2) := by decide +kernel
theorem dX5_isAhead_20 : decode cX5_isAhead 20 = .ok (.iload_n 3, 1) := by decide +kernel
theorem dX5_isAhead_21 : decode cX5_isAhead 21 = .ok (.istore 6, 2) := by decide +kernel
theorem dX5_isAhead_23 : decode cX5_isAhead 23 = .ok (.iload 6, 2) := by decide +kernel
theorem dX5_isAhead_25 : decode cX5_isAhead 25 = .ok (.ifCond .le 57, 3) := by decide +kernel
theorem dX5_isAhead_28 : decode cX5_isAhead 28 = .ok (.aload_n 0, 1) := by decide +kernel
theorem dX5_isAhead_29 : decode cX5_isAhead 29 = .ok (.getfield 9, 3) := by decide +kernel
theorem dX5_isAhead_32 : decode cX5_isAhead 32 = .ok (.iload 4, 2) := by decide +kernel
theorem dX5_isAhead_34 : decode cX5_isAhead 34 = .ok (.iload 6, 2) := by decide +kernel
theorem dX5_isAhead_36 : decode cX5_isAhead 36 = .ok (.isub, 1) := by decide +kernel
theorem dX5_isAhead_37 : decode cX5_isAhead 37 = .ok (.invokevirtual 130, 3) := by decide +kernel
theorem dX5_isAhead_40 : decode cX5_isAhead 40 = .ok (.istore 7, 2) := by decide +kernel
theorem dX5_isAhead_42 : decode cX5_isAhead 42 = .ok (.aload_n 0, 1) := by decide +kernel
theorem dX5_isAhead_43 : decode cX5_isAhead 43 = .ok (.getfield 9, 3) := by decide +kernel
theorem dX5_isAhead_46 : decode cX5_isAhead 46 = .ok (.iload 5, 2) := by decide +kernel
theorem dX5_isAhead_48 : decode cX5_isAhead 48 = .ok (.iload 6, 2) := by decide +kernel
theorem dX5_isAhead_50 : decode cX5_isAhead 50 = .ok (.isub, 1) := by decide +kernel
theorem dX5_isAhead_51 : decode cX5_isAhead 51 = .ok (.invokevirtual 130, 3) := by decide +kernel
theorem dX5_isAhead_54 : decode cX5_isAhead 54 = .ok (.istore 8, 2) := by decide +kernel
theorem dX5_isAhead_56 : decode cX5_isAhead 56 = .ok (.iload 7, 2) := by decide +kernel
theorem dX5_isAhead_58 : decode cX5_isAhead 58 = .ok (.iload 8, 2) := by decide +kernel
theorem dX5_isAhead_60 : decode cX5_isAhead 60 = .ok (.if_icmp .eq 16, 3) := by decide +kernel
theorem dX5_isAhead_63 : decode cX5_isAhead 63 = .ok (.iload 7, 2) := by decide +kernel
theorem dX5_isAhead_65 : decode cX5_isAhead 65 = .ok (.iload 8, 2) := by decide +kernel
theorem dX5_isAhead_67 : decode cX5_isAhead 67 = .ok (.if_icmp .ge 7, 3) := by decide +kernel
theorem dX5_isAhead_70 : decode cX5_isAhead 70 = .ok (.iconst 1, 1) := by decide +kernel
theorem dX5_isAhead_71 : decode cX5_isAhead 71 = .ok (.goto 4, 3) := by decide +kernel
theorem dX5_isAhead_74 : decode cX5_isAhead 74 = .ok (.iconst 0, 1) := by decide +kernel
theorem dX5_isAhead_75 : decode cX5_isAhead 75 = .ok (.ireturn, 1) := by decide +kernel
theorem dX5_isAhead_76 : decode cX5_isAhead 76 = .ok (.iinc 6 (-1), 3) := by decide +kernel
theorem dX5_isAhead_79 : decode cX5_isAhead 79 = .ok (.goto (-56), 3) := by decide +kernel
theorem dX5_isAhead_82 : decode cX5_isAhead 82 = .ok (.iconst 0, 1) := by decide +kernel
theorem dX5_isAhead_83 : decode cX5_isAhead 83 = .ok (.ireturn, 1) := by decide +kernel
set_option maxRecDepth 20000 in
theorem ggX5_beginsText_X2_firstEndOf : GoodIn wsX5_beginsText wsX2_firstEndOf := goodIn_r _ [6, 7, 8, 9, 5, 10, 11, 12, 13, 14, 15, 16, 17, 18, 19, 20, 21, 22, 23, 24, 25, 26, 27, 28, 29, 30, 31, 45, 46, 47, 48, 49, 50, 51, 52, 53, 54, 55, 56] rfl rfl
set_option maxRecDepth 20000 in
theorem gX5_beginsText_X2_firstEndOf : GoodIn wsX5_beginsText (wsV RX5 127 RX2 yX2_firstEndOf wsX2_firstEndOf) := goodIn_app (goodIn_r _ [2, 3, 4, 5] rfl rfl) ggX5_beginsText_X2_firstEndOf
set_option maxRecDepth 20000 in
theorem ggX5_beginsText_X2_longestOf : GoodIn wsX5_beginsText wsX2_longestOf := goodIn_r _ [35, 36, 37, 38, 19, 39, 45, 46, 47, 48, 49, 50, 51, 52, 53, 54, 55, 56] rfl rfl
set_option maxRecDepth 20000 in
theorem gX5_beginsText_X2_longestOf : GoodIn wsX5_beginsText (wsV RX5 70 RX2 yX2_longestOf wsX2_longestOf) := goodIn_app (goodIn_r _ [32, 33, 34, 5] rfl rfl) ggX5_beginsText_X2_longestOf
theorem dX5_beginsText_0 : decode cX5_beginsText 0 = .ok (.aload_n 0, 1) := by decide +kernel
theorem dX5_beginsText_1 : decode cX5_beginsText 1 = .ok (.getfield 9, 3) := by decide +kernel
theorem dX5_beginsText_4 : decode cX5_beginsText 4 = .ok (.iload_n 1, 1) := by decide +kernel
theorem dX5_beginsText_5 : decode cX5_beginsText 5 = .ok (.invokevirtual 127, 3) := by decide +kernel
theorem dX5_beginsText_8 : decode cX5_beginsText 8 = .ok (.aload_n 0, 1) := by decide +kernel
theorem dX5_beginsText_9 : decode cX5_beginsText 9 = .ok (.getfield 9, 3) := by decide +kernel
theorem dX5_beginsText_12 : decode cX5_beginsText 12 = .ok (.iload_n 1, 1) := by decide +kernel
theorem dX5_beginsText_13 : decode cX5_beginsText 13 = .ok (.invokevirtual 70, 3) := by decide +kernel
theorem dX5_beginsText_16 : decode cX5_beginsText 16 = .ok (.if_icmp .ne 7, 3) := by decide +kernel
theorem dX5_beginsText_19 : decode cX5_beginsText 19 = .ok (.iconst 1, 1) := by decide +kernel
theorem dX5_beginsText_20 : decode cX5_beginsText 20 = .ok (.goto 4, 3) := by decide +kernel
theorem dX5_beginsText_23 : decode cX5_beginsText 23 = .ok (.iconst 0, 1) := by decide +kernel
theorem dX5_beginsText_24 : decode cX5_beginsText 24 = .ok (.ireturn, 1) := by decide +kernel
set_option maxRecDepth 20000 in
theorem ggX5_kthBorder_X2_lastState : GoodIn wsX5_kthBorder wsX2_lastState := goodIn_r _ [6, 7, 60, 61, 62, 63, 64, 65, 66, 67, 68, 69, 70, 71] rfl rfl
set_option maxRecDepth 20000 in
theorem gX5_kthBorder_X2_lastState : GoodIn wsX5_kthBorder (wsV RX5 120 RX2 yX2_lastState wsX2_lastState) := goodIn_app (goodIn_r _ [2, 3, 4, 5] rfl rfl) ggX5_kthBorder_X2_lastState
set_option maxRecDepth 20000 in
theorem ggX5_kthBorder_X2_linkOf : GoodIn wsX5_kthBorder wsX2_linkOf := goodIn_r _ [11, 12, 13, 14, 15, 5, 16, 17, 18, 19, 20, 21, 60, 61, 62, 63, 64, 65, 66, 67, 68, 69, 70, 71] rfl rfl
set_option maxRecDepth 20000 in
theorem gX5_kthBorder_X2_linkOf : GoodIn wsX5_kthBorder (wsV RX5 131 RX2 yX2_linkOf wsX2_linkOf) := goodIn_app (goodIn_r _ [8, 9, 10, 5] rfl rfl) ggX5_kthBorder_X2_linkOf
set_option maxRecDepth 20000 in
theorem ggX5_kthBorder_X5_beginsText : GoodIn wsX5_kthBorder wsX5_beginsText := goodIn_r _ [26, 1, 27, 28, 29, 5, 30, 31, 32, 33, 34, 35, 13, 14, 15, 16, 17, 36, 37, 20, 38, 39, 40, 41, 42, 43, 44, 45, 46, 47, 48, 49, 50, 51, 52, 53, 54, 18, 19, 21, 55, 56, 57, 58, 59, 60, 61, 62, 63, 64, 65, 66, 67, 68, 69, 70, 71] rfl rfl
set_option maxRecDepth 20000 in
theorem gX5_kthBorder_X5_beginsText : GoodIn wsX5_kthBorder (wsV RX5 134 RX5 yX5_beginsText wsX5_beginsText) := goodIn_app (goodIn_r _ [22, 23, 24, 25] rfl rfl) ggX5_kthBorder_X5_beginsText
set_option maxRecDepth 20000 in
theorem ggX5_kthBorder_X2_longestOf : GoodIn wsX5_kthBorder wsX2_longestOf := goodIn_r _ [53, 54, 18, 19, 20, 21, 60, 61, 62, 63, 64, 65, 66, 67, 68, 69, 70, 71] rfl rfl
set_option maxRecDepth 20000 in
theorem gX5_kthBorder_X2_longestOf : GoodIn wsX5_kthBorder (wsV RX5 70 RX2 yX2_longestOf wsX2_longestOf) := goodIn_app (goodIn_r _ [50, 51, 52, 5] rfl rfl) ggX5_kthBorder_X2_longestOf
theorem dX5_kthBorder_0 : decode cX5_kthBorder 0 = .ok (.aload_n 0, 1) := by decide +kernel
theorem dX5_kthBorder_1 : decode cX5_kthBorder 1 = .ok (.getfield 9, 3) := by decide +kernel
theorem dX5_kthBorder_4 : decode cX5_kthBorder 4 = .ok (.aload_n 0, 1) := by decide +kernel
theorem dX5_kthBorder_5 : decode cX5_kthBorder 5 = .ok (.getfield 9, 3) := by decide +kernel
theorem dX5_kthBorder_8 : decode cX5_kthBorder 8 = .ok (.invokevirtual 120, 3) := by decide +kernel
theorem dX5_kthBorder_11 : decode cX5_kthBorder 11 = .ok (.invokevirtual 131, 3) := by decide +kernel
theorem dX5_kthBorder_14 : decode cX5_kthBorder 14 = .ok (.istore_n 2, 1) := by decide +kernel
theorem dX5_kthBorder_15 : decode cX5_kthBorder 15 = .ok (.iconst 0, 1) := by decide +kernel
theorem dX5_kthBorder_16 : decode cX5_kthBorder 16 = .ok (.istore_n 3, 1) := by decide +kernel
theorem dX5_kthBorder_17 : decode cX5_kthBorder 17 = .ok (.iconst 0, 1) := by decide +kernel
theorem dX5_kthBorder_18 : decode cX5_kthBorder 18 = .ok (.istore 4, 2) := by decide +kernel
theorem dX5_kthBorder_20 : decode cX5_kthBorder 20 = .ok (.iload 4, 2) := by decide +kernel
theorem dX5_kthBorder_22 : decode cX5_kthBorder 22 = .ok (.bipush 121, 2) := by decide +kernel
theorem dX5_kthBorder_24 : decode cX5_kthBorder 24 = .ok (.if_icmp .ge 47, 3) := by decide +kernel
theorem dX5_kthBorder_27 : decode cX5_kthBorder 27 = .ok (.iload_n 2, 1) := by decide +kernel
theorem dX5_kthBorder_28 : decode cX5_kthBorder 28 = .ok (.ifCond .le 43, 3) := by decide +kernel
theorem dX5_kthBorder_31 : decode cX5_kthBorder 31 = .ok (.aload_n 0, 1) := by decide +kernel
theorem dX5_kthBorder_32 : decode cX5_kthBorder 32 = .ok (.iload_n 2, 1) := by decide +kernel
theorem dX5_kthBorder_33 : decode cX5_kthBorder 33 = .ok (.invokevirtual 134, 3) := by decide +kernel
theorem dX5_kthBorder_36 : decode cX5_kthBorder 36 = .ok (.ifCond .eq 20, 3) := by decide +kernel
theorem dX5_kthBorder_39 : decode cX5_kthBorder 39 = .ok (.iload_n 3, 1) := by decide +kernel
theorem dX5_kthBorder_40 : decode cX5_kthBorder 40 = .ok (.iload_n 1, 1) := by decide +kernel
theorem dX5_kthBorder_41 : decode cX5_kthBorder 41 = .ok (.if_icmp .ne 12, 3) := by decide +kernel
theorem dX5_kthBorder_44 : decode cX5_kthBorder 44 = .ok (.aload_n 0, 1) := by decide +kernel
theorem dX5_kthBorder_45 : decode cX5_kthBorder 45 = .ok (.getfield 9, 3) := by decide +kernel
theorem dX5_kthBorder_48 : decode cX5_kthBorder 48 = .ok (.iload_n 2, 1) := by decide +kernel
theorem dX5_kthBorder_49 : decode cX5_kthBorder 49 = .ok (.invokevirtual 70, 3) := by decide +kernel
theorem dX5_kthBorder_52 : decode cX5_kthBorder 52 = .ok (.ireturn, 1) := by decide +kernel
theorem dX5_kthBorder_53 : decode cX5_kthBorder 53 = .ok (.iinc 3 1, 3) := by decide +kernel
theorem dX5_kthBorder_56 : decode cX5_kthBorder 56 = .ok (.aload_n 0, 1) := by decide +kernel
theorem dX5_kthBorder_57 : decode cX5_kthBorder 57 = .ok (.getfield 9, 3) := by decide +kernel
theorem dX5_kthBorder_60 : decode cX5_kthBorder 60 = .ok (.iload_n 2, 1) := by decide +kernel
theorem dX5_kthBorder_61 : decode cX5_kthBorder 61 = .ok (.invokevirtual 131, 3) := by decide +kernel
theorem dX5_kthBorder_64 : decode cX5_kthBorder 64 = .ok (.istore_n 2, 1) := by decide +kernel
theorem dX5_kthBorder_65 : decode cX5_kthBorder 65 = .ok (.iinc 4 1, 3) := by decide +kernel
theorem dX5_kthBorder_68 : decode cX5_kthBorder 68 = .ok (.goto (-48), 3) := by decide +kernel
theorem dX5_kthBorder_71 : decode cX5_kthBorder 71 = .ok (.bipush (-4), 2) := by decide +kernel
theorem dX5_kthBorder_73 : decode cX5_kthBorder 73 = .ok (.ireturn, 1) := by decide +kernel
set_option maxRecDepth 20000 in
theorem ggX5_period_X5_kthBorder : GoodIn wsX5_period wsX5_kthBorder := goodIn_r _ [11, 1, 12, 13, 14, 15, 16, 17, 18, 19, 20, 21, 22, 23, 24, 25, 26, 27, 28, 29, 30, 31, 32, 33, 34, 10, 35, 36, 37, 38, 39, 40, 41, 42, 43, 44, 45, 46, 47, 48, 49, 50, 51, 52, 53, 54, 55, 56, 57, 58, 59, 60, 61, 62, 63, 64, 65, 66, 67, 68, 69, 70, 71, 72, 73, 74, 75, 76, 77, 78, 79, 80] rfl rfl
set_option maxRecDepth 20000 in
theorem gX5_period_X5_kthBorder : GoodIn wsX5_period (wsV RX5 138 RX5 yX5_kthBorder wsX5_kthBorder) := goodIn_app (goodIn_r _ [7, 8, 9, 10] rfl rfl) ggX5_period_X5_kthBorder
theorem dX5_period_0 : decode cX5_period 0 = .ok (.aload_n 0, 1) := by decide +kernel
theorem dX5_period_1 : decode cX5_period 1 = .ok (.getfield 9, 3) := by decide +kernel
theorem dX5_period_4 : decode cX5_period 4 = .ok (.getfield 48, 3) := by decide +kernel
theorem dX5_period_7 : decode cX5_period 7 = .ok (.ifCond .ne 6, 3) := by decide +kernel
theorem dX5_period_10 : decode cX5_period 10 = .ok (.bipush (-4), 2) := by decide +kernel
theorem dX5_period_12 : decode cX5_period 12 = .ok (.ireturn, 1) := by decide +kernel
theorem dX5_period_13 : decode cX5_period 13 = .ok (.aload_n 0, 1) := by decide +kernel
theorem dX5_period_14 : decode cX5_period 14 = .ok (.getfield 9, 3) := by decide +kernel
theorem dX5_period_17 : decode cX5_period 17 = .ok (.getfield 48, 3) := by decide +kernel
theorem dX5_period_20 : decode cX5_period 20 = .ok (.iconst 0, 1) := by decide +kernel
theorem dX5_period_21 : decode cX5_period 21 = .ok (.aload_n 0, 1) := by decide +kernel
theorem dX5_period_22 : decode cX5_period 22 = .ok (.iconst 0, 1) := by decide +kernel
theorem dX5_period_23 : decode cX5_period 23 = .ok (.invokevirtual 138, 3) := by decide +kernel
theorem dX5_period_26 : decode cX5_period 26 = .ok (.invokestatic 141, 3) := by decide +kernel
theorem dX5_period_29 : decode cX5_period 29 = .ok (.isub, 1) := by decide +kernel
theorem dX5_period_30 : decode cX5_period 30 = .ok (.ireturn, 1) := by decide +kernel
set_option maxRecDepth 20000 in
theorem ggX5_leastCover_X2_lastState : GoodIn wsX5_leastCover wsX2_lastState := goodIn_r _ [6, 7, 72, 73, 74, 75, 76, 77, 78, 79, 80, 81, 82, 83] rfl rfl
set_option maxRecDepth 20000 in
theorem gX5_leastCover_X2_lastState : GoodIn wsX5_leastCover (wsV RX5 120 RX2 yX2_lastState wsX2_lastState) := goodIn_app (goodIn_r _ [2, 3, 4, 5] rfl rfl) ggX5_leastCover_X2_lastState
set_option maxRecDepth 20000 in
theorem ggX5_leastCover_X2_longestOf : GoodIn wsX5_leastCover wsX2_longestOf := goodIn_r _ [11, 12, 13, 14, 15, 16, 72, 73, 74, 75, 76, 77, 78, 79, 80, 81, 82, 83] rfl rfl
set_option maxRecDepth 20000 in
theorem gX5_leastCover_X2_longestOf : GoodIn wsX5_leastCover (wsV RX5 70 RX2 yX2_longestOf wsX2_longestOf) := goodIn_app (goodIn_r _ [8, 9, 10, 5] rfl rfl) ggX5_leastCover_X2_longestOf
set_option maxRecDepth 20000 in
theorem ggX5_leastCover_X5_beginsText : GoodIn wsX5_leastCover wsX5_beginsText := goodIn_r _ [21, 1, 22, 23, 24, 5, 25, 26, 27, 28, 29, 30, 31, 32, 33, 34, 35, 36, 37, 15, 38, 39, 40, 41, 42, 43, 44, 45, 46, 47, 48, 49, 8, 9, 10, 11, 12, 13, 14, 16, 67, 68, 69, 70, 71, 72, 73, 74, 75, 76, 77, 78, 79, 80, 81, 82, 83] rfl rfl
set_option maxRecDepth 20000 in
theorem gX5_leastCover_X5_beginsText : GoodIn wsX5_leastCover (wsV RX5 134 RX5 yX5_beginsText wsX5_beginsText) := goodIn_app (goodIn_r _ [17, 18, 19, 20] rfl rfl) ggX5_leastCover_X5_beginsText
set_option maxRecDepth 20000 in
theorem ggX5_leastCover_X2_endsOf : GoodIn wsX5_leastCover wsX2_endsOf := goodIn_r _ [29, 30, 31, 32, 33, 5, 34, 35, 36, 37, 15, 38, 72, 73, 74, 75, 76, 77, 78, 79, 80, 81, 82, 83] rfl rfl
set_option maxRecDepth 20000 in
theorem gX5_leastCover_X2_endsOf : GoodIn wsX5_leastCover (wsV RX5 106 RX2 yX2_endsOf wsX2_endsOf) := goodIn_app (goodIn_r _ [50, 27, 28, 5] rfl rfl) ggX5_leastCover_X2_endsOf
set_option maxRecDepth 20000 in
theorem ggX5_leastCover_X0_widestGap : GoodIn wsX5_leastCover wsX0_widestGap := goodIn_r _ [53, 54, 55, 56, 57, 43, 44, 45, 46, 47, 48, 49, 58, 40, 41, 42, 59, 60, 61] rfl rfl
set_option maxRecDepth 20000 in
theorem gX5_leastCover_X0_widestGap : GoodIn wsX5_leastCover (va_wsS RX5 144 yX0_widestGap wsX0_widestGap) := goodIn_app (goodIn_r _ [51, 52, 41] rfl rfl) ggX5_leastCover_X0_widestGap
set_option maxRecDepth 20000 in
theorem ggX5_leastCover_X2_linkOf : GoodIn wsX5_leastCover wsX2_linkOf := goodIn_r _ [65, 66, 31, 32, 33, 5, 34, 35, 13, 14, 15, 16, 72, 73, 74, 75, 76, 77, 78, 79, 80, 81, 82, 83] rfl rfl
set_option maxRecDepth 20000 in
theorem gX5_leastCover_X2_linkOf : GoodIn wsX5_leastCover (wsV RX5 131 RX2 yX2_linkOf wsX2_linkOf) := goodIn_app (goodIn_r _ [62, 63, 64, 5] rfl rfl) ggX5_leastCover_X2_linkOf
theorem dX5_leastCover_0 : decode cX5_leastCover 0 = .ok (.bipush (-4), 2) := by decide +kernel
theorem dX5_leastCover_2 : decode cX5_leastCover 2 = .ok (.istore_n 1, 1) := by decide +kernel
theorem dX5_leastCover_3 : decode cX5_leastCover 3 = .ok (.aload_n 0, 1) := by decide +kernel
theorem dX5_leastCover_4 : decode cX5_leastCover 4 = .ok (.getfield 9, 3) := by decide +kernel
theorem dX5_leastCover_7 : decode cX5_leastCover 7 = .ok (.invokevirtual 120, 3) := by decide +kernel
theorem dX5_leastCover_10 : decode cX5_leastCover 10 = .ok (.istore_n 2, 1) := by decide +kernel
theorem dX5_leastCover_11 : decode cX5_leastCover 11 = .ok (.iconst 0, 1) := by decide +kernel
theorem dX5_leastCover_12 : decode cX5_leastCover 12 = .ok (.istore_n 3, 1) := by decide +kernel
theorem dX5_leastCover_13 : decode cX5_leastCover 13 = .ok (.iload_n 3, 1) := by decide +kernel
theorem dX5_leastCover_14 : decode cX5_leastCover 14 = .ok (.bipush 121, 2) := by decide +kernel
theorem dX5_leastCover_16 : decode cX5_leastCover 16 = .ok (.if_icmp .ge 59, 3) := by decide +kernel
theorem dX5_leastCover_19 : decode cX5_leastCover 19 = .ok (.iload_n 2, 1) := by decide +kernel
theorem dX5_leastCover_20 : decode cX5_leastCover 20 = .ok (.ifCond .le 55, 3) := by decide +kernel
theorem dX5_leastCover_23 : decode cX5_leastCover 23 = .ok (.aload_n 0, 1) := by decide +kernel
theorem dX5_leastCover_24 : decode cX5_leastCover 24 = .ok (.getfield 9, 3) := by decide +kernel
theorem dX5_leastCover_27 : decode cX5_leastCover 27 = .ok (.iload_n 2, 1) := by decide +kernel
theorem dX5_leastCover_28 : decode cX5_leastCover 28 = .ok (.invokevirtual 70, 3) := by decide +kernel
theorem dX5_leastCover_31 : decode cX5_leastCover 31 = .ok (.istore 4, 2) := by decide +kernel
theorem dX5_leastCover_33 : decode cX5_leastCover 33 = .ok (.aload_n 0, 1) := by decide +kernel
theorem dX5_leastCover_34 : decode cX5_leastCover 34 = .ok (.iload_n 2, 1) := by decide +kernel
theorem dX5_leastCover_35 : decode cX5_leastCover 35 = .ok (.invokevirtual 134, 3) := by decide +kernel
theorem dX5_leastCover_38 : decode cX5_leastCover 38 = .ok (.ifCond .eq 22, 3) := by decide +kernel
theorem dX5_leastCover_41 : decode cX5_leastCover 41 = .ok (.aload_n 0, 1) := by decide +kernel
theorem dX5_leastCover_42 : decode cX5_leastCover 42 = .ok (.getfield 9, 3) := by decide +kernel
theorem dX5_leastCover_45 : decode cX5_leastCover 45 = .ok (.iload_n 2, 1) := by decide +kernel
theorem dX5_leastCover_46 : decode cX5_leastCover 46 = .ok (.invokevirtual 106, 3) := by decide +kernel
theorem dX5_leastCover_49 : decode cX5_leastCover 49 = .ok (.invokestatic 144, 3) := by decide +kernel
theorem dX5_leastCover_52 : decode cX5_leastCover 52 = .ok (.iload 4, 2) := by decide +kernel
theorem dX5_leastCover_54 : decode cX5_leastCover 54 = .ok (.if_icmp .gt 6, 3) := by decide +kernel
theorem dX5_leastCover_57 : decode cX5_leastCover 57 = .ok (.iload 4, 2) := by decide +kernel
theorem dX5_leastCover_59 : decode cX5_leastCover 59 = .ok (.istore_n 1, 1) := by decide +kernel
theorem dX5_leastCover_60 : decode cX5_leastCover 60 = .ok (.aload_n 0, 1) := by decide +kernel
theorem dX5_leastCover_61 : decode cX5_leastCover 61 = .ok (.getfield 9, 3) := by decide +kernel
theorem dX5_leastCover_64 : decode cX5_leastCover 64 = .ok (.iload_n 2, 1) := by decide +kernel
theorem dX5_leastCover_65 : decode cX5_leastCover 65 = .ok (.invokevirtual 131, 3) := by decide +kernel
theorem dX5_leastCover_68 : decode cX5_leastCover 68 = .ok (.istore_n 2, 1) := by decide +kernel
theorem dX5_leastCover_69 : decode cX5_leastCover 69 = .ok (.iinc 3 1, 3) := by decide +kernel
theorem dX5_leastCover_72 : decode cX5_leastCover 72 = .ok (.goto (-59), 3) := by decide +kernel
theorem dX5_leastCover_75 : decode cX5_leastCover 75 = .ok (.iload_n 1, 1) := by decide +kernel
theorem dX5_leastCover_76 : decode cX5_leastCover 76 = .ok (.ireturn, 1) := by decide +kernel
set_option maxRecDepth 20000 in
theorem ggX5_parts_X5_lettersOfPart : GoodIn wsX5_parts wsX5_lettersOfPart := goodIn_r _ [7, 1, 2, 8, 9, 10, 11, 12, 13, 14, 15, 16, 17, 18, 19, 20, 21, 22, 23, 24, 25, 26, 27, 28, 29, 30, 31, 32, 33, 34, 35, 36, 37, 38, 39, 40, 41, 42, 43, 44, 45, 46, 47, 48, 49, 50, 51, 52, 53, 54, 55, 56, 57, 58, 59, 60, 61, 62, 63, 64, 65, 66, 67, 68, 69, 70, 71, 72, 73, 74, 75, 76] rfl rfl
set_option maxRecDepth 20000 in
theorem gX5_parts_X5_lettersOfPart : GoodIn wsX5_parts (wsV RX5 149 RX5 yX5_lettersOfPart wsX5_lettersOfPart) := goodIn_app (goodIn_r _ [3, 4, 5, 6] rfl rfl) ggX5_parts_X5_lettersOfPart
theorem dX5_parts_0 : decode cX5_parts 0 = .ok (.iconst 0, 1) := by decide +kernel
theorem dX5_parts_1 : decode cX5_parts 1 = .ok (.istore_n 1, 1) := by decide +kernel
theorem dX5_parts_2 : decode cX5_parts 2 = .ok (.iconst 0, 1) := by decide +kernel
theorem dX5_parts_3 : decode cX5_parts 3 = .ok (.istore_n 2, 1) := by decide +kernel
theorem dX5_parts_4 : decode cX5_parts 4 = .ok (.iconst 0, 1) := by decide +kernel
theorem dX5_parts_5 : decode cX5_parts 5 = .ok (.istore_n 3, 1) := by decide +kernel
theorem dX5_parts_6 : decode cX5_parts 6 = .ok (.iload_n 3, 1) := by decide +kernel
theorem dX5_parts_7 : decode cX5_parts 7 = .ok (.bipush 60, 2) := by decide +kernel
theorem dX5_parts_9 : decode cX5_parts 9 = .ok (.if_icmp .ge 31, 3) := by decide +kernel
theorem dX5_parts_12 : decode cX5_parts 12 = .ok (.iload_n 1, 1) := by decide +kernel
theorem dX5_parts_13 : decode cX5_parts 13 = .ok (.aload_n 0, 1) := by decide +kernel
theorem dX5_parts_14 : decode cX5_parts 14 = .ok (.getfield 9, 3) := by decide +kernel
theorem dX5_parts_17 : decode cX5_parts 17 = .ok (.getfield 48, 3) := by decide +kernel
theorem dX5_parts_20 : decode cX5_parts 20 = .ok (.if_icmp .ge 20, 3) := by decide +kernel
theorem dX5_parts_23 : decode cX5_parts 23 = .ok (.iload_n 1, 1) := by decide +kernel
theorem dX5_parts_24 : decode cX5_parts 24 = .ok (.aload_n 0, 1) := by decide +kernel
theorem dX5_parts_25 : decode cX5_parts 25 = .ok (.iload_n 1, 1) := by decide +kernel
theorem dX5_parts_26 : decode cX5_parts 26 = .ok (.invokevirtual 149, 3) := by decide +kernel
theorem dX5_parts_29 : decode cX5_parts 29 = .ok (.iadd, 1) := by decide +kernel
theorem dX5_parts_30 : decode cX5_parts 30 = .ok (.istore_n 1, 1) := by decide +kernel
theorem dX5_parts_31 : decode cX5_parts 31 = .ok (.iinc 2 1, 3) := by decide +kernel
theorem dX5_parts_34 : decode cX5_parts 34 = .ok (.iinc 3 1, 3) := by decide +kernel
theorem dX5_parts_37 : decode cX5_parts 37 = .ok (.goto (-31), 3) := by decide +kernel
theorem dX5_parts_40 : decode cX5_parts 40 = .ok (.iload_n 2, 1) := by decide +kernel
theorem dX5_parts_41 : decode cX5_parts 41 = .ok (.ireturn, 1) := by decide +kernel
set_option maxRecDepth 20000 in
theorem ggX5_beginOfPart_X5_lettersOfPart : GoodIn wsX5_beginOfPart wsX5_lettersOfPart := goodIn_r _ [7, 1, 2, 8, 9, 10, 11, 12, 13, 14, 15, 16, 17, 18, 19, 20, 21, 22, 23, 24, 25, 26, 27, 28, 29, 30, 31, 32, 33, 34, 35, 36, 37, 38, 39, 40, 41, 42, 43, 44, 45, 46, 47, 48, 49, 50, 51, 52, 53, 54, 55, 56, 57, 58, 59, 60, 61, 62, 63, 64, 65, 66, 67, 68, 69, 70, 71, 72, 73, 74, 75, 76] rfl rfl
set_option maxRecDepth 20000 in
theorem gX5_beginOfPart_X5_lettersOfPart : GoodIn wsX5_beginOfPart (wsV RX5 149 RX5 yX5_lettersOfPart wsX5_lettersOfPart) := goodIn_app (goodIn_r _ [3, 4, 5, 6] rfl rfl) ggX5_beginOfPart_X5_lettersOfPart
theorem dX5_beginOfPart_0 : decode cX5_beginOfPart 0 = .ok (.iconst 0, 1) := by decide +kernel
theorem dX5_beginOfPart_1 : decode cX5_beginOfPart 1 = .ok (.istore_n 2, 1) := by decide +kernel
theorem dX5_beginOfPart_2 : decode cX5_beginOfPart 2 = .ok (.iconst 0, 1) := by decide +kernel
theorem dX5_beginOfPart_3 : decode cX5_beginOfPart 3 = .ok (.istore_n 3, 1) := by decide +kernel
theorem dX5_beginOfPart_4 : decode cX5_beginOfPart 4 = .ok (.iload_n 3, 1) := by decide +kernel
theorem dX5_beginOfPart_5 : decode cX5_beginOfPart 5 = .ok (.bipush 60, 2) := by decide +kernel
theorem dX5_beginOfPart_7 : decode cX5_beginOfPart 7 = .ok (.if_icmp .ge 35, 3) := by decide +kernel
theorem dX5_beginOfPart_10 : decode cX5_beginOfPart 10 = .ok (.iload_n 2, 1) := by decide +kernel
theorem dX5_beginOfPart_11 : decode cX5_beginOfPart 11 = .ok (.aload_n 0, 1) := by decide +kernel
theorem dX5_beginOfPart_12 : decode cX5_beginOfPart 12 = .ok (.getfield 9, 3) := by decide +kernel
theorem dX5_beginOfPart_15 : decode cX5_beginOfPart 15 = .ok (.getfield 48, 3) := by decide +kernel
theorem dX5_beginOfPart_18 : decode cX5_beginOfPart 18 = .ok (.if_icmp .ge 24, 3) := by decide +kernel
theorem dX5_beginOfPart_21 : decode cX5_beginOfPart 21 = .ok (.iload_n 3, 1) := by decide +kernel
theorem dX5_beginOfPart_22 : decode cX5_beginOfPart 22 = .ok (.iload_n 1, 1) := by decide +kernel
theorem dX5_beginOfPart_23 : decode cX5_beginOfPart 23 = .ok (.if_icmp .ne 5, 3) := by decide +kernel
theorem dX5_beginOfPart_26 : decode cX5_beginOfPart 26 = .ok (.iload_n 2, 1) := by decide +kernel
theorem dX5_beginOfPart_27 : decode cX5_beginOfPart 27 = .ok (.ireturn, 1) := by decide +kernel
theorem dX5_beginOfPart_28 : decode cX5_beginOfPart 28 = .ok (.iload_n 2, 1) := by decide +kernel
theorem dX5_beginOfPart_29 : decode cX5_beginOfPart 29 = .ok (.aload_n 0, 1) := by decide +kernel
theorem dX5_beginOfPart_30 : decode cX5_beginOfPart 30 = .ok (.iload_n 2, 1) := by decide +kernel
theorem dX5_beginOfPart_31 : decode cX5_beginOfPart 31 = .ok (.invokevirtual 149, 3) := by decide +kernel
theorem dX5_beginOfPart_34 : decode cX5_beginOfPart 34 = .ok (.iadd, 1) := by decide +kernel
theorem dX5_beginOfPart_35 : decode cX5_beginOfPart 35 = .ok (.istore_n 2, 1) := by decide +kernel
theorem dX5_beginOfPart_36 : decode cX5_beginOfPart 36 = .ok (.iinc 3 1, 3) := by decide +kernel
theorem dX5_beginOfPart_39 : decode cX5_beginOfPart 39 = .ok (.goto (-35), 3) := by decide +kernel
theorem dX5_beginOfPart_42 : decode cX5_beginOfPart 42 = .ok (.bipush (-4), 2) := by decide +kernel
theorem dX5_beginOfPart_44 : decode cX5_beginOfPart 44 = .ok (.ireturn, 1) := by decide +kernel
set_option maxRecDepth 20000 in
theorem ggX5_lettersOfPart_X2_letterAt : GoodIn wsX5_lettersOfPart wsX2_letterAt := goodIn_r _ [11, 12, 13, 14, 15, 16, 60, 61, 62, 63, 64, 65, 66, 67, 68, 69, 70, 71] rfl rfl
set_option maxRecDepth 20000 in
theorem gX5_lettersOfPart_X2_letterAt : GoodIn wsX5_lettersOfPart (wsV RX5 130 RX2 yX2_letterAt wsX2_letterAt) := goodIn_app (goodIn_r _ [7, 8, 9, 10] rfl rfl) ggX5_lettersOfPart_X2_letterAt
set_option maxRecDepth 20000 in
theorem ggX5_lettersOfPart_X2_moveOf : GoodIn wsX5_lettersOfPart wsX2_moveOf := goodIn_r _ [20, 21, 22, 23, 24, 10, 25, 26, 27, 28, 29, 30, 31, 13, 14, 15, 16, 60, 61, 62, 63, 64, 65, 66, 67, 68, 69, 70, 71] rfl rfl
set_option maxRecDepth 20000 in
theorem gX5_lettersOfPart_X2_moveOf : GoodIn wsX5_lettersOfPart (wsV RX5 39 RX2 yX2_moveOf wsX2_moveOf) := goodIn_app (goodIn_r _ [17, 18, 19, 10] rfl rfl) ggX5_lettersOfPart_X2_moveOf
set_option maxRecDepth 20000 in
theorem ggX5_lettersOfPart_X2_firstEndOf : GoodIn wsX5_lettersOfPart wsX2_firstEndOf := goodIn_r _ [35, 36, 37, 38, 10, 39, 40, 22, 23, 24, 25, 26, 41, 42, 15, 43, 44, 45, 46, 47, 48, 49, 50, 51, 52, 53, 54, 60, 61, 62, 63, 64, 65, 66, 67, 68, 69, 70, 71] rfl rfl
set_option maxRecDepth 20000 in
theorem gX5_lettersOfPart_X2_firstEndOf : GoodIn wsX5_lettersOfPart (wsV RX5 127 RX2 yX2_firstEndOf wsX2_firstEndOf) := goodIn_app (goodIn_r _ [32, 33, 34, 10] rfl rfl) ggX5_lettersOfPart_X2_firstEndOf
theorem dX5_lettersOfPart_0 : decode cX5_lettersOfPart 0 = .ok (.iconst 0, 1) := by decide +kernel
theorem dX5_lettersOfPart_1 : decode cX5_lettersOfPart 1 = .ok (.istore_n 2, 1) := by decide +kernel
theorem dX5_lettersOfPart_2 : decode cX5_lettersOfPart 2 = .ok (.iconst 0, 1) := by decide +kernel
theorem dX5_lettersOfPart_3 : decode cX5_lettersOfPart 3 = .ok (.istore_n 3, 1) := by decide +kernel
theorem dX5_lettersOfPart_4 : decode cX5_lettersOfPart 4 = .ok (.iload_n 1, 1) := by decide +kernel
theorem dX5_lettersOfPart_5 : decode cX5_lettersOfPart 5 = .ok (.istore 4, 2) := by decide +kernel
theorem dX5_lettersOfPart_7 : decode cX5_lettersOfPart 7 = .ok (.iload 4, 2) := by decide +kernel
theorem dX5_lettersOfPart_9 : decode cX5_lettersOfPart 9 = .ok (.aload_n 0, 1) := by decide +kernel
theorem dX5_lettersOfPart_10 : decode cX5_lettersOfPart 10 = .ok (.getfield 9, 3) := by decide +kernel
theorem dX5_lettersOfPart_13 : decode cX5_lettersOfPart 13 = .ok (.getfield 48, 3) := by decide +kernel
theorem dX5_lettersOfPart_16 : decode cX5_lettersOfPart 16 = .ok (.if_icmp .ge 46, 3) := by decide +kernel
theorem dX5_lettersOfPart_19 : decode cX5_lettersOfPart 19 = .ok (.aload_n 0, 1) := by decide +kernel
theorem dX5_lettersOfPart_20 : decode cX5_lettersOfPart 20 = .ok (.getfield 9, 3) := by decide +kernel
theorem dX5_lettersOfPart_23 : decode cX5_lettersOfPart 23 = .ok (.iload_n 2, 1) := by decide +kernel
theorem dX5_lettersOfPart_24 : decode cX5_lettersOfPart 24 = .ok (.aload_n 0, 1) := by decide +kernel
theorem dX5_lettersOfPart_25 : decode cX5_lettersOfPart 25 = .ok (.getfield 9, 3) := by decide +kernel
theorem dX5_lettersOfPart_28 : decode cX5_lettersOfPart 28 = .ok (.iload 4, 2) := by decide +kernel
theorem dX5_lettersOfPart_30 : decode cX5_lettersOfPart 30 = .ok (.invokevirtual 130, 3) := by decide +kernel
theorem dX5_lettersOfPart_33 : decode cX5_lettersOfPart 33 = .ok (.invokevirtual 39, 3) := by decide +kernel
theorem dX5_lettersOfPart_36 : decode cX5_lettersOfPart 36 = .ok (.istore_n 2, 1) := by decide +kernel
theorem dX5_lettersOfPart_37 : decode cX5_lettersOfPart 37 = .ok (.aload_n 0, 1) := by decide +kernel
theorem dX5_lettersOfPart_38 : decode cX5_lettersOfPart 38 = .ok (.getfield 9, 3) := by decide +kernel
theorem dX5_lettersOfPart_41 : decode cX5_lettersOfPart 41 = .ok (.iload_n 2, 1) := by decide +kernel
theorem dX5_lettersOfPart_42 : decode cX5_lettersOfPart 42 = .ok (.invokevirtual 127, 3) := by decide +kernel
theorem dX5_lettersOfPart_45 : decode cX5_lettersOfPart 45 = .ok (.iload 4, 2) := by decide +kernel
theorem dX5_lettersOfPart_47 : decode cX5_lettersOfPart 47 = .ok (.if_icmp .le 6, 3) := by decide +kernel
theorem dX5_lettersOfPart_50 : decode cX5_lettersOfPart 50 = .ok (.goto 12, 3) := by decide +kernel
theorem dX5_lettersOfPart_53 : decode cX5_lettersOfPart 53 = .ok (.iinc 3 1, 3) := by decide +kernel
theorem dX5_lettersOfPart_56 : decode cX5_lettersOfPart 56 = .ok (.iinc 4 1, 3) := by decide +kernel
theorem dX5_lettersOfPart_59 : decode cX5_lettersOfPart 59 = .ok (.goto (-52), 3) := by decide +kernel
theorem dX5_lettersOfPart_62 : decode cX5_lettersOfPart 62 = .ok (.iconst 1, 1) := by decide +kernel
theorem dX5_lettersOfPart_63 : decode cX5_lettersOfPart 63 = .ok (.iload_n 3, 1) := by decide +kernel
theorem dX5_lettersOfPart_64 : decode cX5_lettersOfPart 64 = .ok (.invokestatic 141, 3) := by decide +kernel
theorem dX5_lettersOfPart_67 : decode cX5_lettersOfPart 67 = .ok (.ireturn, 1) := by decide +kernel
set_option maxRecDepth 20000 in
theorem ggX5_longestCommon_X4_letterAt : GoodIn wsX5_longestCommon wsX4_letterAt := goodIn_r _ [7, 8, 9, 10, 6, 11, 12, 13, 14, 15, 16, 44, 45, 46] rfl rfl
set_option maxRecDepth 20000 in
theorem gX5_longestCommon_X4_letterAt : GoodIn wsX5_longestCommon (wsV RX5 35 RX4 yX4_letterAt wsX4_letterAt) := goodIn_app (goodIn_r _ [3, 4, 5, 6] rfl rfl) ggX5_longestCommon_X4_letterAt
set_option maxRecDepth 20000 in
theorem ggX5_longestCommon_X2_moveOf : GoodIn wsX5_longestCommon wsX2_moveOf := goodIn_r _ [21, 22, 23, 24, 25, 20, 26, 27, 28, 29, 30, 31, 32, 33, 14, 15, 16, 52, 53, 54, 55, 56, 57, 58, 59, 60, 61, 62, 63] rfl rfl
set_option maxRecDepth 20000 in
theorem gX5_longestCommon_X2_moveOf : GoodIn wsX5_longestCommon (wsV RX5 39 RX2 yX2_moveOf wsX2_moveOf) := goodIn_app (goodIn_r _ [17, 18, 19, 20] rfl rfl) ggX5_longestCommon_X2_moveOf
set_option maxRecDepth 20000 in
theorem ggX5_longestCommon_X2_linkOf : GoodIn wsX5_longestCommon wsX2_linkOf := goodIn_r _ [37, 38, 23, 24, 25, 20, 26, 27, 33, 14, 15, 16, 52, 53, 54, 55, 56, 57, 58, 59, 60, 61, 62, 63] rfl rfl
set_option maxRecDepth 20000 in
theorem gX5_longestCommon_X2_linkOf : GoodIn wsX5_longestCommon (wsV RX5 131 RX2 yX2_linkOf wsX2_linkOf) := goodIn_app (goodIn_r _ [34, 35, 36, 20] rfl rfl) ggX5_longestCommon_X2_linkOf
set_option maxRecDepth 20000 in
theorem ggX5_longestCommon_X2_longestOf : GoodIn wsX5_longestCommon wsX2_longestOf := goodIn_r _ [42, 43, 33, 14, 15, 16, 52, 53, 54, 55, 56, 57, 58, 59, 60, 61, 62, 63] rfl rfl
set_option maxRecDepth 20000 in
theorem gX5_longestCommon_X2_longestOf : GoodIn wsX5_longestCommon (wsV RX5 70 RX2 yX2_longestOf wsX2_longestOf) := goodIn_app (goodIn_r _ [39, 40, 41, 20] rfl rfl) ggX5_longestCommon_X2_longestOf
theorem dX5_longestCommon_0 : decode cX5_longestCommon 0 = .ok (.iconst 0, 1) := by decide +kernel
theorem dX5_longestCommon_1 : decode cX5_longestCommon 1 = .ok (.istore_n 3, 1) := by decide +kernel
theorem dX5_longestCommon_2 : decode cX5_longestCommon 2 = .ok (.iconst 0, 1) := by decide +kernel
theorem dX5_longestCommon_3 : decode cX5_longestCommon 3 = .ok (.istore 4, 2) := by decide +kernel
theorem dX5_longestCommon_5 : decode cX5_longestCommon 5 = .ok (.iconst 0, 1) := by decide +kernel
theorem dX5_longestCommon_6 : decode cX5_longestCommon 6 = .ok (.istore 5, 2) := by decide +kernel
theorem dX5_longestCommon_8 : decode cX5_longestCommon 8 = .ok (.iconst 0, 1) := by decide +kernel
theorem dX5_longestCommon_9 : decode cX5_longestCommon 9 = .ok (.istore 6, 2) := by decide +kernel
theorem dX5_longestCommon_11 : decode cX5_longestCommon 11 = .ok (.iconst 0, 1) := by decide +kernel
theorem dX5_longestCommon_12 : decode cX5_longestCommon 12 = .ok (.istore 7, 2) := by decide +kernel
theorem dX5_longestCommon_14 : decode cX5_longestCommon 14 = .ok (.iload 7, 2) := by decide +kernel
theorem dX5_longestCommon_16 : decode cX5_longestCommon 16 = .ok (.aload_n 1, 1) := by decide +kernel
theorem dX5_longestCommon_17 : decode cX5_longestCommon 17 = .ok (.getfield 29, 3) := by decide +kernel
theorem dX5_longestCommon_20 : decode cX5_longestCommon 20 = .ok (.if_icmp .ge 116, 3) := by decide +kernel
theorem dX5_longestCommon_23 : decode cX5_longestCommon 23 = .ok (.aload_n 1, 1) := by decide +kernel
theorem dX5_longestCommon_24 : decode cX5_longestCommon 24 = .ok (.iload 7, 2) := by decide +kernel
theorem dX5_longestCommon_26 : decode cX5_longestCommon 26 = .ok (.invokevirtual 35, 3) := by decide +kernel
theorem dX5_longestCommon_29 : decode cX5_longestCommon 29 = .ok (.istore 8, 2) := by decide +kernel
theorem dX5_longestCommon_31 : decode cX5_longestCommon 31 = .ok (.iconst 0, 1) := by decide +kernel
theorem dX5_longestCommon_32 : decode cX5_longestCommon 32 = .ok (.istore 9, 2) := by decide +kernel
theorem dX5_longestCommon_34 : decode cX5_longestCommon 34 = .ok (.iload 9, 2) := by decide +kernel
theorem dX5_longestCommon_36 : decode cX5_longestCommon 36 = .ok (.bipush 121, 2) := by decide +kernel
theorem dX5_longestCommon_38 : decode cX5_longestCommon 38 = .ok (.if_icmp .ge 47, 3) := by decide +kernel
theorem dX5_longestCommon_41 : decode cX5_longestCommon 41 = .ok (.iload_n 3, 1) := by decide +kernel
theorem dX5_longestCommon_42 : decode cX5_longestCommon 42 = .ok (.ifCond .le 43, 3) := by decide +kernel
theorem dX5_longestCommon_45 : decode cX5_longestCommon 45 = .ok (.aload_n 0, 1) := by decide +kernel
theorem dX5_longestCommon_46 : decode cX5_longestCommon 46 = .ok (.getfield 9, 3) := by decide +kernel
theorem dX5_longestCommon_49 : decode cX5_longestCommon 49 = .ok (.iload_n 3, 1) := by decide +kernel
theorem dX5_longestCommon_50 : decode cX5_longestCommon 50 = .ok (.iload 8, 2) := by decide +kernel
theorem dX5_longestCommon_52 : decode cX5_longestCommon 52 = .ok (.invokevirtual 39, 3) := by decide +kernel
theorem dX5_longestCommon_55 : decode cX5_longestCommon 55 = .ok (.bipush (-4), 2) := by decide +kernel
theorem dX5_longestCommon_57 : decode cX5_longestCommon 57 = .ok (.if_icmp .ne 28, 3) := by decide +kernel
theorem dX5_longestCommon_60 : decode cX5_longestCommon 60 = .ok (.aload_n 0, 1) := by decide +kernel
theorem dX5_longestCommon_61 : decode cX5_longestCommon 61 = .ok (.getfield 9, 3) := by decide +kernel
theorem dX5_longestCommon_64 : decode cX5_longestCommon 64 = .ok (.iload_n 3, 1) := by decide +kernel
theorem dX5_longestCommon_65 : decode cX5_longestCommon 65 = .ok (.invokevirtual 131, 3) := by decide +kernel
theorem dX5_longestCommon_68 : decode cX5_longestCommon 68 = .ok (.istore_n 3, 1) := by decide +kernel
theorem dX5_longestCommon_69 : decode cX5_longestCommon 69 = .ok (.aload_n 0, 1) := by decide +kernel
theorem dX5_longestCommon_70 : decode cX5_longestCommon 70 = .ok (.getfield 9, 3) := by decide +kernel
theorem dX5_longestCommon_73 : decode cX5_longestCommon 73 = .ok (.iload_n 3, 1) := by decide +kernel
theorem dX5_longestCommon_74 : decode cX5_longestCommon 74 = .ok (.invokevirtual 70, 3) := by decide +kernel
theorem dX5_longestCommon_77 : decode cX5_longestCommon 77 = .ok (.istore 4, 2) := by decide +kernel
theorem dX5_longestCommon_79 : decode cX5_longestCommon 79 = .ok (.iinc 9 1, 3) := by decide +kernel
theorem dX5_longestCommon_82 : decode cX5_longestCommon 82 = .ok (.goto (-48), 3) := by decide +kernel
theorem dX5_longestCommon_85 : decode cX5_longestCommon 85 = .ok (.aload_n 0, 1) := by decide +kernel
theorem dX5_longestCommon_86 : decode cX5_longestCommon 86 = .ok (.getfield 9, 3) := by decide +kernel
theorem dX5_longestCommon_89 : decode cX5_longestCommon 89 = .ok (.iload_n 3, 1) := by decide +kernel
theorem dX5_longestCommon_90 : decode cX5_longestCommon 90 = .ok (.iload 8, 2) := by decide +kernel
theorem dX5_longestCommon_92 : decode cX5_longestCommon 92 = .ok (.invokevirtual 39, 3) := by decide +kernel
theorem dX5_longestCommon_95 : decode cX5_longestCommon 95 = .ok (.istore 9, 2) := by decide +kernel
theorem dX5_longestCommon_97 : decode cX5_longestCommon 97 = .ok (.iload 9, 2) := by decide +kernel
theorem dX5_longestCommon_99 : decode cX5_longestCommon 99 = .ok (.bipush (-4), 2) := by decide +kernel
theorem dX5_longestCommon_101 : decode cX5_longestCommon 101 = .ok (.if_icmp .eq 9, 3) := by decide +kernel
theorem dX5_longestCommon_104 : decode cX5_longestCommon 104 = .ok (.iload 9, 2) := by decide +kernel
theorem dX5_longestCommon_106 : decode cX5_longestCommon 106 = .ok (.istore_n 3, 1) := by decide +kernel
theorem dX5_longestCommon_107 : decode cX5_longestCommon 107 = .ok (.iinc 4 1, 3) := by decide +kernel
theorem dX5_longestCommon_110 : decode cX5_longestCommon 110 = .ok (.iload 4, 2) := by decide +kernel
theorem dX5_longestCommon_112 : decode cX5_longestCommon 112 = .ok (.iload 5, 2) := by decide +kernel
theorem dX5_longestCommon_114 : decode cX5_longestCommon 114 = .ok (.if_icmp .le 16, 3) := by decide +kernel
theorem dX5_longestCommon_117 : decode cX5_longestCommon 117 = .ok (.iload 4, 2) := by decide +kernel
theorem dX5_longestCommon_119 : decode cX5_longestCommon 119 = .ok (.istore 5, 2) := by decide +kernel
theorem dX5_longestCommon_121 : decode cX5_longestCommon 121 = .ok (.iload 7, 2) := by decide +kernel
theorem dX5_longestCommon_123 : decode cX5_longestCommon 123 = .ok (.iconst 1, 1) := by decide +kernel
theorem dX5_longestCommon_124 : decode cX5_longestCommon 124 = .ok (.iadd, 1) := by decide +kernel
theorem dX5_longestCommon_125 : decode cX5_longestCommon 125 = .ok (.iload 4, 2) := by decide +kernel
theorem dX5_longestCommon_127 : decode cX5_longestCommon 127 = .ok (.isub, 1) := by decide +kernel
theorem dX5_longestCommon_128 : decode cX5_longestCommon 128 = .ok (.istore 6, 2) := by decide +kernel
theorem dX5_longestCommon_130 : decode cX5_longestCommon 130 = .ok (.iinc 7 1, 3) := by decide +kernel
theorem dX5_longestCommon_133 : decode cX5_longestCommon 133 = .ok (.goto (-119), 3) := by decide +kernel
theorem dX5_longestCommon_136 : decode cX5_longestCommon 136 = .ok (.iload_n 2, 1) := by decide +kernel
theorem dX5_longestCommon_137 : decode cX5_longestCommon 137 = .ok (.ifCond .eq 8, 3) := by decide +kernel
theorem dX5_longestCommon_140 : decode cX5_longestCommon 140 = .ok (.iload 6, 2) := by decide +kernel
theorem dX5_longestCommon_142 : decode cX5_longestCommon 142 = .ok (.goto 5, 3) := by decide +kernel
theorem dX5_longestCommon_145 : decode cX5_longestCommon 145 = .ok (.iload 5, 2) := by decide +kernel
theorem dX5_longestCommon_147 : decode cX5_longestCommon 147 = .ok (.ireturn, 1) := by decide +kernel
set_option maxRecDepth 20000 in
theorem ggX5_stateOfLast_X2_lastState : GoodIn wsX5_stateOfLast wsX2_lastState := goodIn_r _ [6, 7, 37, 38, 39, 40, 41, 42, 43, 44, 45, 46, 47, 48] rfl rfl
set_option maxRecDepth 20000 in
theorem gX5_stateOfLast_X2_lastState : GoodIn wsX5_stateOfLast (wsV RX5 120 RX2 yX2_lastState wsX2_lastState) := goodIn_app (goodIn_r _ [2, 3, 4, 5] rfl rfl) ggX5_stateOfLast_X2_lastState
set_option maxRecDepth 20000 in
theorem ggX5_stateOfLast_X2_shortestOf : GoodIn wsX5_stateOfLast wsX2_shortestOf := goodIn_r _ [11, 12, 13, 14, 5, 15, 16, 17, 18, 19, 20, 21, 22, 23, 24, 25, 26, 27, 28, 29, 30, 37, 38, 39, 40, 41, 42, 43, 44, 45, 46, 47, 48] rfl rfl
set_option maxRecDepth 20000 in
theorem gX5_stateOfLast_X2_shortestOf : GoodIn wsX5_stateOfLast (wsV RX5 124 RX2 yX2_shortestOf wsX2_shortestOf) := goodIn_app (goodIn_r _ [8, 9, 10, 5] rfl rfl) ggX5_stateOfLast_X2_shortestOf
set_option maxRecDepth 20000 in
theorem ggX5_stateOfLast_X2_linkOf : GoodIn wsX5_stateOfLast wsX2_linkOf := goodIn_r _ [15, 16, 17, 18, 19, 5, 20, 21, 22, 23, 24, 25, 37, 38, 39, 40, 41, 42, 43, 44, 45, 46, 47, 48] rfl rfl
set_option maxRecDepth 20000 in
theorem gX5_stateOfLast_X2_linkOf : GoodIn wsX5_stateOfLast (wsV RX5 131 RX2 yX2_linkOf wsX2_linkOf) := goodIn_app (goodIn_r _ [31, 13, 14, 5] rfl rfl) ggX5_stateOfLast_X2_linkOf
theorem dX5_stateOfLast_0 : decode cX5_stateOfLast 0 = .ok (.aload_n 0, 1) := by decide +kernel
theorem dX5_stateOfLast_1 : decode cX5_stateOfLast 1 = .ok (.getfield 9, 3) := by decide +kernel
theorem dX5_stateOfLast_4 : decode cX5_stateOfLast 4 = .ok (.invokevirtual 120, 3) := by decide +kernel
theorem dX5_stateOfLast_7 : decode cX5_stateOfLast 7 = .ok (.istore_n 2, 1) := by decide +kernel
theorem dX5_stateOfLast_8 : decode cX5_stateOfLast 8 = .ok (.iconst 0, 1) := by decide +kernel
theorem dX5_stateOfLast_9 : decode cX5_stateOfLast 9 = .ok (.istore_n 3, 1) := by decide +kernel
theorem dX5_stateOfLast_10 : decode cX5_stateOfLast 10 = .ok (.iload_n 3, 1) := by decide +kernel
theorem dX5_stateOfLast_11 : decode cX5_stateOfLast 11 = .ok (.bipush 121, 2) := by decide +kernel
theorem dX5_stateOfLast_13 : decode cX5_stateOfLast 13 = .ok (.if_icmp .ge 34, 3) := by decide +kernel
theorem dX5_stateOfLast_16 : decode cX5_stateOfLast 16 = .ok (.iload_n 2, 1) := by decide +kernel
theorem dX5_stateOfLast_17 : decode cX5_stateOfLast 17 = .ok (.ifCond .le 30, 3) := by decide +kernel
theorem dX5_stateOfLast_20 : decode cX5_stateOfLast 20 = .ok (.aload_n 0, 1) := by decide +kernel
theorem dX5_stateOfLast_21 : decode cX5_stateOfLast 21 = .ok (.getfield 9, 3) := by decide +kernel
theorem dX5_stateOfLast_24 : decode cX5_stateOfLast 24 = .ok (.iload_n 2, 1) := by decide +kernel
theorem dX5_stateOfLast_25 : decode cX5_stateOfLast 25 = .ok (.invokevirtual 124, 3) := by decide +kernel
theorem dX5_stateOfLast_28 : decode cX5_stateOfLast 28 = .ok (.iload_n 1, 1) := by decide +kernel
theorem dX5_stateOfLast_29 : decode cX5_stateOfLast 29 = .ok (.if_icmp .le 18, 3) := by decide +kernel
theorem dX5_stateOfLast_32 : decode cX5_stateOfLast 32 = .ok (.aload_n 0, 1) := by decide +kernel
theorem dX5_stateOfLast_33 : decode cX5_stateOfLast 33 = .ok (.getfield 9, 3) := by decide +kernel
theorem dX5_stateOfLast_36 : decode cX5_stateOfLast 36 = .ok (.iload_n 2, 1) := by decide +kernel
theorem dX5_stateOfLast_37 : decode cX5_stateOfLast 37 = .ok (.invokevirtual 131, 3) := by decide +kernel
theorem dX5_stateOfLast_40 : decode cX5_stateOfLast 40 = .ok (.istore_n 2, 1) := by decide +kernel
theorem dX5_stateOfLast_41 : decode cX5_stateOfLast 41 = .ok (.iinc 3 1, 3) := by decide +kernel
theorem dX5_stateOfLast_44 : decode cX5_stateOfLast 44 = .ok (.goto (-34), 3) := by decide +kernel
theorem dX5_stateOfLast_47 : decode cX5_stateOfLast 47 = .ok (.iload_n 2, 1) := by decide +kernel
theorem dX5_stateOfLast_48 : decode cX5_stateOfLast 48 = .ok (.ireturn, 1) := by decide +kernel
set_option maxRecDepth 20000 in
theorem ggX5_likeliestBehind_X2_moveOf : GoodIn wsX5_likeliestBehind wsX2_moveOf := goodIn_r _ [7, 8, 9, 10, 11, 6, 12, 13, 14, 15, 16, 17, 18, 19, 20, 21, 22, 43, 44, 45, 46, 47, 48, 49, 50, 51, 52, 53, 54] rfl rfl
set_option maxRecDepth 20000 in
theorem gX5_likeliestBehind_X2_moveOf : GoodIn wsX5_likeliestBehind (wsV RX5 39 RX2 yX2_moveOf wsX2_moveOf) := goodIn_app (goodIn_r _ [3, 4, 5, 6] rfl rfl) ggX5_likeliestBehind_X2_moveOf
set_option maxRecDepth 20000 in
theorem ggX5_likeliestBehind_X2_endsOf : GoodIn wsX5_likeliestBehind wsX2_endsOf := goodIn_r _ [26, 27, 9, 10, 11, 6, 12, 13, 28, 29, 21, 30, 43, 44, 45, 46, 47, 48, 49, 50, 51, 52, 53, 54] rfl rfl
set_option maxRecDepth 20000 in
theorem gX5_likeliestBehind_X2_endsOf : GoodIn wsX5_likeliestBehind (wsV RX5 106 RX2 yX2_endsOf wsX2_endsOf) := goodIn_app (goodIn_r _ [23, 24, 25, 6] rfl rfl) ggX5_likeliestBehind_X2_endsOf
set_option maxRecDepth 20000 in
theorem ggX5_likeliestBehind_J13_bitCount_95d88 : GoodIn wsX5_likeliestBehind wsJ13_bitCount_95d88 := goodIn_r _ [34, 35, 36, 37] rfl rfl
set_option maxRecDepth 20000 in
theorem gX5_likeliestBehind_J13_bitCount_95d88 : GoodIn wsX5_likeliestBehind (va_wsS RX5 110 yJ13_bitCount_95d88 wsJ13_bitCount_95d88) := goodIn_app (goodIn_r _ [31, 32, 33] rfl rfl) ggX5_likeliestBehind_J13_bitCount_95d88
theorem dX5_likeliestBehind_0 : decode cX5_likeliestBehind 0 = .ok (.bipush (-4), 2) := by decide +kernel
theorem dX5_likeliestBehind_2 : decode cX5_likeliestBehind 2 = .ok (.istore_n 2, 1) := by decide +kernel
theorem dX5_likeliestBehind_3 : decode cX5_likeliestBehind 3 = .ok (.iconst 0, 1) := by decide +kernel
theorem dX5_likeliestBehind_4 : decode cX5_likeliestBehind 4 = .ok (.istore_n 3, 1) := by decide +kernel
theorem dX5_likeliestBehind_5 : decode cX5_likeliestBehind 5 = .ok (.iconst 0, 1) := by decide +kernel
theorem dX5_likeliestBehind_6 : decode cX5_likeliestBehind 6 = .ok (.istore 4, 2) := by decide +kernel
theorem dX5_likeliestBehind_8 : decode cX5_likeliestBehind 8 = .ok (.iload 4, 2) := by decide +kernel
theorem dX5_likeliestBehind_10 : decode cX5_likeliestBehind 10 = .ok (.aload_n 0, 1) := by decide +kernel
theorem dX5_likeliestBehind_11 : decode cX5_likeliestBehind 11 = .ok (.getfield 9, 3) := by decide +kernel
theorem dX5_likeliestBehind_14 : decode cX5_likeliestBehind 14 = .ok (.getfield 79, 3) := by decide +kernel
theorem dX5_likeliestBehind_17 : decode cX5_likeliestBehind 17 = .ok (.if_icmp .ge 43, 3) := by decide +kernel
theorem dX5_likeliestBehind_20 : decode cX5_likeliestBehind 20 = .ok (.aload_n 0, 1) := by decide +kernel
theorem dX5_likeliestBehind_21 : decode cX5_likeliestBehind 21 = .ok (.getfield 9, 3) := by decide +kernel
theorem dX5_likeliestBehind_24 : decode cX5_likeliestBehind 24 = .ok (.aload_n 0, 1) := by decide +kernel
theorem dX5_likeliestBehind_25 : decode cX5_likeliestBehind 25 = .ok (.getfield 9, 3) := by decide +kernel
theorem dX5_likeliestBehind_28 : decode cX5_likeliestBehind 28 = .ok (.iload_n 1, 1) := by decide +kernel
theorem dX5_likeliestBehind_29 : decode cX5_likeliestBehind 29 = .ok (.iload 4, 2) := by decide +kernel
theorem dX5_likeliestBehind_31 : decode cX5_likeliestBehind 31 = .ok (.invokevirtual 39, 3) := by decide +kernel
theorem dX5_likeliestBehind_34 : decode cX5_likeliestBehind 34 = .ok (.invokevirtual 106, 3) := by decide +kernel
theorem dX5_likeliestBehind_37 : decode cX5_likeliestBehind 37 = .ok (.invokestatic 110, 3) := by decide +kernel
theorem dX5_likeliestBehind_40 : decode cX5_likeliestBehind 40 = .ok (.istore 5, 2) := by decide +kernel
theorem dX5_likeliestBehind_42 : decode cX5_likeliestBehind 42 = .ok (.iload 5, 2) := by decide +kernel
theorem dX5_likeliestBehind_44 : decode cX5_likeliestBehind 44 = .ok (.iload_n 3, 1) := by decide +kernel
theorem dX5_likeliestBehind_45 : decode cX5_likeliestBehind 45 = .ok (.if_icmp .le 9, 3) := by decide +kernel
theorem dX5_likeliestBehind_48 : decode cX5_likeliestBehind 48 = .ok (.iload 5, 2) := by decide +kernel
theorem dX5_likeliestBehind_50 : decode cX5_likeliestBehind 50 = .ok (.istore_n 3, 1) := by decide +kernel
theorem dX5_likeliestBehind_51 : decode cX5_likeliestBehind 51 = .ok (.iload 4, 2) := by decide +kernel
theorem dX5_likeliestBehind_53 : decode cX5_likeliestBehind 53 = .ok (.istore_n 2, 1) := by decide +kernel
theorem dX5_likeliestBehind_54 : decode cX5_likeliestBehind 54 = .ok (.iinc 4 1, 3) := by decide +kernel
theorem dX5_likeliestBehind_57 : decode cX5_likeliestBehind 57 = .ok (.goto (-49), 3) := by decide +kernel
theorem dX5_likeliestBehind_60 : decode cX5_likeliestBehind 60 = .ok (.iload_n 2, 1) := by decide +kernel
theorem dX5_likeliestBehind_61 : decode cX5_likeliestBehind 61 = .ok (.ireturn, 1) := by decide +kernel
