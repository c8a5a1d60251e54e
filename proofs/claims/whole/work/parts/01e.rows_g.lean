set_option maxRecDepth 20000 in
theorem ggX6_init_X2_init : GoodIn wsX6_init wsX2_init := goodIn_r _ [22, 23, 2, 3, 24, 25, 26, 27, 28, 29, 30, 31, 32, 33, 34, 35, 36, 6, 37, 38, 39, 40, 41, 42, 43, 44, 45, 46, 47, 48, 49, 50, 51, 52, 53, 54, 55, 56, 81, 82, 83, 84, 85, 86, 87, 88, 89, 90, 91, 92] rfl rfl
set_option maxRecDepth 20000 in
theorem gX6_init_X2_init : GoodIn wsX6_init (wsX2_init) := ggX6_init_X2_init
set_option maxRecDepth 20000 in
theorem ggX6_init_X5_init : GoodIn wsX6_init wsX5_init := goodIn_r _ [59, 60, 2, 3, 61, 24, 62, 63, 64, 32, 65, 97, 98, 99, 100, 101] rfl rfl
set_option maxRecDepth 20000 in
theorem gX6_init_X5_init : GoodIn wsX6_init (wsX5_init) := ggX6_init_X5_init
set_option maxRecDepth 20000 in
theorem ggX6_init_X4_init : GoodIn wsX6_init wsX4_init := goodIn_r _ [68, 69, 2, 3, 24, 70, 71, 72, 102, 103, 104] rfl rfl
set_option maxRecDepth 20000 in
theorem gX6_init_X4_init : GoodIn wsX6_init (wsX4_init) := ggX6_init_X4_init
set_option maxRecDepth 20000 in
theorem ggX6_init_X1_init : GoodIn wsX6_init wsX1_init := goodIn_r _ [75, 76, 2, 3, 24, 77, 78, 79, 80, 105, 106, 107, 108] rfl rfl
set_option maxRecDepth 20000 in
theorem gX6_init_X1_init : GoodIn wsX6_init (wsX1_init) := ggX6_init_X1_init
theorem dX6_init_0 : decode cX6_init 0 = .ok (.aload_n 0, 1) := by decide +kernel
theorem dX6_init_1 : decode cX6_init 1 = .ok (.invokespecial 3, 3) := by decide +kernel
theorem dX6_init_4 : decode cX6_init 4 = .ok (.aload_n 0, 1) := by decide +kernel
theorem dX6_init_5 : decode cX6_init 5 = .ok (.new 9, 3) := by decide +kernel
theorem dX6_init_8 : decode cX6_init 8 = .ok (.dup, 1) := by decide +kernel
theorem dX6_init_9 : decode cX6_init 9 = .ok (.invokespecial 11, 3) := by decide +kernel
theorem dX6_init_12 : decode cX6_init 12 = .ok (.putfield 12, 3) := by decide +kernel
theorem dX6_init_15 : decode cX6_init 15 = .ok (.aload_n 0, 1) := by decide +kernel
theorem dX6_init_16 : decode cX6_init 16 = .ok (.new 16, 3) := by decide +kernel
theorem dX6_init_19 : decode cX6_init 19 = .ok (.dup, 1) := by decide +kernel
theorem dX6_init_20 : decode cX6_init 20 = .ok (.aload_n 0, 1) := by decide +kernel
theorem dX6_init_21 : decode cX6_init 21 = .ok (.getfield 12, 3) := by decide +kernel
theorem dX6_init_24 : decode cX6_init 24 = .ok (.invokespecial 18, 3) := by decide +kernel
theorem dX6_init_27 : decode cX6_init 27 = .ok (.putfield 21, 3) := by decide +kernel
theorem dX6_init_30 : decode cX6_init 30 = .ok (.aload_n 0, 1) := by decide +kernel
theorem dX6_init_31 : decode cX6_init 31 = .ok (.iconst 4, 1) := by decide +kernel
theorem dX6_init_32 : decode cX6_init 32 = .ok (.anewarray 25, 3) := by decide +kernel
theorem dX6_init_35 : decode cX6_init 35 = .ok (.putfield 27, 3) := by decide +kernel
theorem dX6_init_38 : decode cX6_init 38 = .ok (.iconst 0, 1) := by decide +kernel
theorem dX6_init_39 : decode cX6_init 39 = .ok (.istore_n 1, 1) := by decide +kernel
theorem dX6_init_40 : decode cX6_init 40 = .ok (.iload_n 1, 1) := by decide +kernel
theorem dX6_init_41 : decode cX6_init 41 = .ok (.iconst 4, 1) := by decide +kernel
theorem dX6_init_42 : decode cX6_init 42 = .ok (.if_icmp .ge 22, 3) := by decide +kernel
theorem dX6_init_45 : decode cX6_init 45 = .ok (.aload_n 0, 1) := by decide +kernel
theorem dX6_init_46 : decode cX6_init 46 = .ok (.getfield 27, 3) := by decide +kernel
theorem dX6_init_49 : decode cX6_init 49 = .ok (.iload_n 1, 1) := by decide +kernel
theorem dX6_init_50 : decode cX6_init 50 = .ok (.new 25, 3) := by decide +kernel
theorem dX6_init_53 : decode cX6_init 53 = .ok (.dup, 1) := by decide +kernel
theorem dX6_init_54 : decode cX6_init 54 = .ok (.invokespecial 31, 3) := by decide +kernel
theorem dX6_init_57 : decode cX6_init 57 = .ok (.aastore, 1) := by decide +kernel
theorem dX6_init_58 : decode cX6_init 58 = .ok (.iinc 1 1, 3) := by decide +kernel
theorem dX6_init_61 : decode cX6_init 61 = .ok (.goto (-21), 3) := by decide +kernel
theorem dX6_init_64 : decode cX6_init 64 = .ok (.aload_n 0, 1) := by decide +kernel
theorem dX6_init_65 : decode cX6_init 65 = .ok (.iconst 2, 1) := by decide +kernel
theorem dX6_init_66 : decode cX6_init 66 = .ok (.anewarray 32, 3) := by decide +kernel
theorem dX6_init_69 : decode cX6_init 69 = .ok (.putfield 34, 3) := by decide +kernel
theorem dX6_init_72 : decode cX6_init 72 = .ok (.iconst 0, 1) := by decide +kernel
theorem dX6_init_73 : decode cX6_init 73 = .ok (.istore_n 1, 1) := by decide +kernel
theorem dX6_init_74 : decode cX6_init 74 = .ok (.iload_n 1, 1) := by decide +kernel
theorem dX6_init_75 : decode cX6_init 75 = .ok (.iconst 2, 1) := by decide +kernel
theorem dX6_init_76 : decode cX6_init 76 = .ok (.if_icmp .ge 22, 3) := by decide +kernel
theorem dX6_init_79 : decode cX6_init 79 = .ok (.aload_n 0, 1) := by decide +kernel
theorem dX6_init_80 : decode cX6_init 80 = .ok (.getfield 34, 3) := by decide +kernel
theorem dX6_init_83 : decode cX6_init 83 = .ok (.iload_n 1, 1) := by decide +kernel
theorem dX6_init_84 : decode cX6_init 84 = .ok (.new 32, 3) := by decide +kernel
theorem dX6_init_87 : decode cX6_init 87 = .ok (.dup, 1) := by decide +kernel
theorem dX6_init_88 : decode cX6_init 88 = .ok (.invokespecial 38, 3) := by decide +kernel
theorem dX6_init_91 : decode cX6_init 91 = .ok (.aastore, 1) := by decide +kernel
theorem dX6_init_92 : decode cX6_init 92 = .ok (.iinc 1 1, 3) := by decide +kernel
theorem dX6_init_95 : decode cX6_init 95 = .ok (.goto (-21), 3) := by decide +kernel
theorem dX6_init_98 : decode cX6_init 98 = .ok (.return_, 1) := by decide +kernel
set_option maxRecDepth 20000 in
theorem ggX6_begin_X2_startOver : GoodIn wsX6_begin wsX2_startOver := goodIn_r _ [7, 8, 9, 10, 11, 12, 13, 14, 15, 16, 6, 17, 18, 19, 20, 21, 22, 23, 24, 25, 26, 27, 28, 29, 30, 31, 32, 33, 38, 39, 40, 41, 42, 43, 44, 45, 46, 47, 48, 49] rfl rfl
set_option maxRecDepth 20000 in
theorem gX6_begin_X2_startOver : GoodIn wsX6_begin (wsV RX6 43 RX2 yX2_startOver wsX2_startOver) := goodIn_app (goodIn_r _ [3, 4, 5, 6] rfl rfl) ggX6_begin_X2_startOver
theorem dX6_begin_0 : decode cX6_begin 0 = .ok (.iload_n 1, 1) := by decide +kernel
theorem dX6_begin_1 : decode cX6_begin 1 = .ok (.iconst 1, 1) := by decide +kernel
theorem dX6_begin_2 : decode cX6_begin 2 = .ok (.if_icmp .lt 8, 3) := by decide +kernel
theorem dX6_begin_5 : decode cX6_begin 5 = .ok (.iload_n 1, 1) := by decide +kernel
theorem dX6_begin_6 : decode cX6_begin 6 = .ok (.iconst 5, 1) := by decide +kernel
theorem dX6_begin_7 : decode cX6_begin 7 = .ok (.if_icmp .le 5, 3) := by decide +kernel
theorem dX6_begin_10 : decode cX6_begin 10 = .ok (.iconst (-1), 1) := by decide +kernel
theorem dX6_begin_11 : decode cX6_begin 11 = .ok (.ireturn, 1) := by decide +kernel
theorem dX6_begin_12 : decode cX6_begin 12 = .ok (.aload_n 0, 1) := by decide +kernel
theorem dX6_begin_13 : decode cX6_begin 13 = .ok (.getfield 12, 3) := by decide +kernel
theorem dX6_begin_16 : decode cX6_begin 16 = .ok (.getfield 39, 3) := by decide +kernel
theorem dX6_begin_19 : decode cX6_begin 19 = .ok (.istore_n 2, 1) := by decide +kernel
theorem dX6_begin_20 : decode cX6_begin 20 = .ok (.aload_n 0, 1) := by decide +kernel
theorem dX6_begin_21 : decode cX6_begin 21 = .ok (.getfield 12, 3) := by decide +kernel
theorem dX6_begin_24 : decode cX6_begin 24 = .ok (.iload_n 1, 1) := by decide +kernel
theorem dX6_begin_25 : decode cX6_begin 25 = .ok (.invokevirtual 43, 3) := by decide +kernel
theorem dX6_begin_28 : decode cX6_begin 28 = .ok (.iload_n 2, 1) := by decide +kernel
theorem dX6_begin_29 : decode cX6_begin 29 = .ok (.ireturn, 1) := by decide +kernel
set_option maxRecDepth 20000 in
theorem ggX6_grow_X2_isLetter : GoodIn wsX6_grow wsX2_isLetter := goodIn_r _ [7, 8, 87, 88, 89, 90, 91, 92, 93, 94, 95, 96, 97, 98] rfl rfl
set_option maxRecDepth 20000 in
theorem gX6_grow_X2_isLetter : GoodIn wsX6_grow (wsV RX6 47 RX2 yX2_isLetter wsX2_isLetter) := goodIn_app (goodIn_r _ [3, 4, 5, 6] rfl rfl) ggX6_grow_X2_isLetter
set_option maxRecDepth 20000 in
theorem ggX6_grow_X2_hasRoomFor : GoodIn wsX6_grow wsX2_hasRoomFor := goodIn_r _ [12, 13, 87, 88, 89, 90, 91, 92, 93, 94, 95, 96, 97, 98] rfl rfl
set_option maxRecDepth 20000 in
theorem gX6_grow_X2_hasRoomFor : GoodIn wsX6_grow (wsV RX6 51 RX2 yX2_hasRoomFor wsX2_hasRoomFor) := goodIn_app (goodIn_r _ [9, 10, 11, 6] rfl rfl) ggX6_grow_X2_hasRoomFor
set_option maxRecDepth 20000 in
theorem ggX6_grow_X2_append : GoodIn wsX6_grow wsX2_append := goodIn_r _ [17, 18, 13, 19, 20, 21, 22, 4, 5, 6, 7, 8, 23, 10, 11, 12, 24, 25, 26, 27, 28, 29, 30, 31, 32, 33, 34, 35, 36, 37, 38, 39, 40, 41, 42, 43, 44, 45, 46, 47, 48, 49, 50, 51, 52, 53, 54, 55, 56, 57, 58, 59, 60, 61, 62, 63, 64, 65, 66, 67, 68, 69, 70, 71, 72, 73, 74, 75, 76, 77, 78, 79, 80, 81, 82, 87, 88, 89, 90, 91, 92, 93, 94, 95, 96, 97, 98] rfl rfl
set_option maxRecDepth 20000 in
theorem gX6_grow_X2_append : GoodIn wsX6_grow (wsV RX6 54 RX2 yX2_append wsX2_append) := goodIn_app (goodIn_r _ [14, 15, 16, 6] rfl rfl) ggX6_grow_X2_append
theorem dX6_grow_0 : decode cX6_grow 0 = .ok (.aload_n 0, 1) := by decide +kernel
theorem dX6_grow_1 : decode cX6_grow 1 = .ok (.getfield 12, 3) := by decide +kernel
theorem dX6_grow_4 : decode cX6_grow 4 = .ok (.iload_n 1, 1) := by decide +kernel
theorem dX6_grow_5 : decode cX6_grow 5 = .ok (.invokevirtual 47, 3) := by decide +kernel
theorem dX6_grow_8 : decode cX6_grow 8 = .ok (.ifCond .ne 5, 3) := by decide +kernel
theorem dX6_grow_11 : decode cX6_grow 11 = .ok (.iconst (-1), 1) := by decide +kernel
theorem dX6_grow_12 : decode cX6_grow 12 = .ok (.ireturn, 1) := by decide +kernel
theorem dX6_grow_13 : decode cX6_grow 13 = .ok (.aload_n 0, 1) := by decide +kernel
theorem dX6_grow_14 : decode cX6_grow 14 = .ok (.getfield 12, 3) := by decide +kernel
theorem dX6_grow_17 : decode cX6_grow 17 = .ok (.iconst 1, 1) := by decide +kernel
theorem dX6_grow_18 : decode cX6_grow 18 = .ok (.invokevirtual 51, 3) := by decide +kernel
theorem dX6_grow_21 : decode cX6_grow 21 = .ok (.ifCond .ne 6, 3) := by decide +kernel
theorem dX6_grow_24 : decode cX6_grow 24 = .ok (.bipush (-3), 2) := by decide +kernel
theorem dX6_grow_26 : decode cX6_grow 26 = .ok (.ireturn, 1) := by decide +kernel
theorem dX6_grow_27 : decode cX6_grow 27 = .ok (.aload_n 0, 1) := by decide +kernel
theorem dX6_grow_28 : decode cX6_grow 28 = .ok (.getfield 12, 3) := by decide +kernel
theorem dX6_grow_31 : decode cX6_grow 31 = .ok (.iload_n 1, 1) := by decide +kernel
theorem dX6_grow_32 : decode cX6_grow 32 = .ok (.invokevirtual 54, 3) := by decide +kernel
theorem dX6_grow_35 : decode cX6_grow 35 = .ok (.aload_n 0, 1) := by decide +kernel
theorem dX6_grow_36 : decode cX6_grow 36 = .ok (.getfield 12, 3) := by decide +kernel
theorem dX6_grow_39 : decode cX6_grow 39 = .ok (.getfield 57, 3) := by decide +kernel
theorem dX6_grow_42 : decode cX6_grow 42 = .ok (.ireturn, 1) := by decide +kernel
set_option maxRecDepth 20000 in
theorem ggX6_growBy_X6_pageAt : GoodIn wsX6_growBy wsX6_pageAt := goodIn_r _ [9, 10, 110, 111, 112, 113] rfl rfl
set_option maxRecDepth 20000 in
theorem gX6_growBy_X6_pageAt : GoodIn wsX6_growBy (wsV RX6 60 RX6 yX6_pageAt wsX6_pageAt) := goodIn_app (goodIn_r _ [5, 6, 7, 8] rfl rfl) ggX6_growBy_X6_pageAt
set_option maxRecDepth 20000 in
theorem ggX6_growBy_X2_takesAllOf : GoodIn wsX6_growBy wsX2_takesAllOf := goodIn_r _ [15, 16, 17, 18, 19, 20, 21, 22, 23, 24, 25, 26, 27, 28, 29, 30, 31, 32, 33, 14, 34, 35, 107, 108, 109, 114, 115, 116, 117, 118, 119, 120, 121, 122, 123, 124, 125] rfl rfl
set_option maxRecDepth 20000 in
theorem gX6_growBy_X2_takesAllOf : GoodIn wsX6_growBy (wsV RX6 68 RX2 yX2_takesAllOf wsX2_takesAllOf) := goodIn_app (goodIn_r _ [11, 12, 13, 14] rfl rfl) ggX6_growBy_X2_takesAllOf
set_option maxRecDepth 20000 in
theorem ggX6_growBy_X2_hasRoomFor : GoodIn wsX6_growBy wsX2_hasRoomFor := goodIn_r _ [39, 40, 114, 115, 116, 117, 118, 119, 120, 121, 122, 123, 124, 125] rfl rfl
set_option maxRecDepth 20000 in
theorem gX6_growBy_X2_hasRoomFor : GoodIn wsX6_growBy (wsV RX6 51 RX2 yX2_hasRoomFor wsX2_hasRoomFor) := goodIn_app (goodIn_r _ [36, 37, 38, 14] rfl rfl) ggX6_growBy_X2_hasRoomFor
set_option maxRecDepth 20000 in
theorem ggX6_growBy_X4_letterAt : GoodIn wsX6_growBy wsX4_letterAt := goodIn_r _ [21, 22, 23, 24, 20, 25, 26, 27, 28, 29, 30, 107, 108, 109] rfl rfl
set_option maxRecDepth 20000 in
theorem gX6_growBy_X4_letterAt : GoodIn wsX6_growBy (wsV RX6 73 RX4 yX4_letterAt wsX4_letterAt) := goodIn_app (goodIn_r _ [41, 18, 19, 20] rfl rfl) ggX6_growBy_X4_letterAt
set_option maxRecDepth 20000 in
theorem ggX6_growBy_X2_append : GoodIn wsX6_growBy wsX2_append := goodIn_r _ [45, 46, 40, 47, 48, 49, 31, 32, 33, 14, 34, 35, 50, 37, 38, 39, 51, 52, 29, 53, 54, 55, 56, 57, 58, 59, 60, 61, 62, 63, 64, 65, 66, 67, 68, 69, 70, 71, 72, 73, 74, 75, 76, 77, 78, 79, 80, 81, 82, 83, 28, 30, 84, 85, 86, 87, 88, 89, 90, 91, 92, 93, 94, 95, 96, 97, 98, 99, 100, 101, 102, 103, 104, 105, 106, 114, 115, 116, 117, 118, 119, 120, 121, 122, 123, 124, 125] rfl rfl
set_option maxRecDepth 20000 in
theorem gX6_growBy_X2_append : GoodIn wsX6_growBy (wsV RX6 54 RX2 yX2_append wsX2_append) := goodIn_app (goodIn_r _ [42, 43, 44, 14] rfl rfl) ggX6_growBy_X2_append
theorem dX6_growBy_0 : decode cX6_growBy 0 = .ok (.aload_n 0, 1) := by decide +kernel
theorem dX6_growBy_1 : decode cX6_growBy 1 = .ok (.iload_n 1, 1) := by decide +kernel
theorem dX6_growBy_2 : decode cX6_growBy 2 = .ok (.invokevirtual 60, 3) := by decide +kernel
theorem dX6_growBy_5 : decode cX6_growBy 5 = .ok (.astore_n 2, 1) := by decide +kernel
theorem dX6_growBy_6 : decode cX6_growBy 6 = .ok (.aload_n 2, 1) := by decide +kernel
theorem dX6_growBy_7 : decode cX6_growBy 7 = .ok (.ifnonnull 5, 3) := by decide +kernel
theorem dX6_growBy_10 : decode cX6_growBy 10 = .ok (.iconst (-1), 1) := by decide +kernel
theorem dX6_growBy_11 : decode cX6_growBy 11 = .ok (.ireturn, 1) := by decide +kernel
theorem dX6_growBy_12 : decode cX6_growBy 12 = .ok (.aload_n 2, 1) := by decide +kernel
theorem dX6_growBy_13 : decode cX6_growBy 13 = .ok (.getfield 64, 3) := by decide +kernel
theorem dX6_growBy_16 : decode cX6_growBy 16 = .ok (.ifCond .ne 6, 3) := by decide +kernel
theorem dX6_growBy_19 : decode cX6_growBy 19 = .ok (.bipush (-11), 2) := by decide +kernel
theorem dX6_growBy_21 : decode cX6_growBy 21 = .ok (.ireturn, 1) := by decide +kernel
theorem dX6_growBy_22 : decode cX6_growBy 22 = .ok (.aload_n 0, 1) := by decide +kernel
theorem dX6_growBy_23 : decode cX6_growBy 23 = .ok (.getfield 12, 3) := by decide +kernel
theorem dX6_growBy_26 : decode cX6_growBy 26 = .ok (.aload_n 2, 1) := by decide +kernel
theorem dX6_growBy_27 : decode cX6_growBy 27 = .ok (.invokevirtual 68, 3) := by decide +kernel
theorem dX6_growBy_30 : decode cX6_growBy 30 = .ok (.ifCond .ne 6, 3) := by decide +kernel
theorem dX6_growBy_33 : decode cX6_growBy 33 = .ok (.bipush (-2), 2) := by decide +kernel
theorem dX6_growBy_35 : decode cX6_growBy 35 = .ok (.ireturn, 1) := by decide +kernel
theorem dX6_growBy_36 : decode cX6_growBy 36 = .ok (.aload_n 0, 1) := by decide +kernel
theorem dX6_growBy_37 : decode cX6_growBy 37 = .ok (.getfield 12, 3) := by decide +kernel
theorem dX6_growBy_40 : decode cX6_growBy 40 = .ok (.aload_n 2, 1) := by decide +kernel
theorem dX6_growBy_41 : decode cX6_growBy 41 = .ok (.getfield 72, 3) := by decide +kernel
theorem dX6_growBy_44 : decode cX6_growBy 44 = .ok (.invokevirtual 51, 3) := by decide +kernel
theorem dX6_growBy_47 : decode cX6_growBy 47 = .ok (.ifCond .ne 6, 3) := by decide +kernel
theorem dX6_growBy_50 : decode cX6_growBy 50 = .ok (.bipush (-3), 2) := by decide +kernel
theorem dX6_growBy_52 : decode cX6_growBy 52 = .ok (.ireturn, 1) := by decide +kernel
theorem dX6_growBy_53 : decode cX6_growBy 53 = .ok (.iconst 0, 1) := by decide +kernel
theorem dX6_growBy_54 : decode cX6_growBy 54 = .ok (.istore_n 3, 1) := by decide +kernel
theorem dX6_growBy_55 : decode cX6_growBy 55 = .ok (.iload_n 3, 1) := by decide +kernel
theorem dX6_growBy_56 : decode cX6_growBy 56 = .ok (.aload_n 2, 1) := by decide +kernel
theorem dX6_growBy_57 : decode cX6_growBy 57 = .ok (.getfield 72, 3) := by decide +kernel
theorem dX6_growBy_60 : decode cX6_growBy 60 = .ok (.if_icmp .ge 21, 3) := by decide +kernel
theorem dX6_growBy_63 : decode cX6_growBy 63 = .ok (.aload_n 0, 1) := by decide +kernel
theorem dX6_growBy_64 : decode cX6_growBy 64 = .ok (.getfield 12, 3) := by decide +kernel
theorem dX6_growBy_67 : decode cX6_growBy 67 = .ok (.aload_n 2, 1) := by decide +kernel
theorem dX6_growBy_68 : decode cX6_growBy 68 = .ok (.iload_n 3, 1) := by decide +kernel
theorem dX6_growBy_69 : decode cX6_growBy 69 = .ok (.invokevirtual 73, 3) := by decide +kernel
theorem dX6_growBy_72 : decode cX6_growBy 72 = .ok (.invokevirtual 54, 3) := by decide +kernel
theorem dX6_growBy_75 : decode cX6_growBy 75 = .ok (.iinc 3 1, 3) := by decide +kernel
theorem dX6_growBy_78 : decode cX6_growBy 78 = .ok (.goto (-23), 3) := by decide +kernel
theorem dX6_growBy_81 : decode cX6_growBy 81 = .ok (.aload_n 0, 1) := by decide +kernel
theorem dX6_growBy_82 : decode cX6_growBy 82 = .ok (.getfield 12, 3) := by decide +kernel
theorem dX6_growBy_85 : decode cX6_growBy 85 = .ok (.getfield 39, 3) := by decide +kernel
theorem dX6_growBy_88 : decode cX6_growBy 88 = .ok (.ireturn, 1) := by decide +kernel
set_option maxRecDepth 20000 in
theorem ggX6_cut_X2_shortenTo : GoodIn wsX6_cut wsX2_shortenTo := goodIn_r _ [7, 8, 9, 10, 11, 6, 12, 13, 14, 15, 16, 17, 18, 19, 20, 21, 22, 23, 24, 25, 26, 27, 28, 29, 30, 31, 32, 33, 34, 35, 36, 37, 38, 39, 40, 41, 42, 43, 44, 45, 46, 47, 48, 49, 50, 51, 52, 53, 54, 55, 56, 57, 58, 59, 60, 61, 62, 63, 64, 65, 66, 67, 68, 69, 70, 71, 72, 73, 74, 75, 76, 77, 78, 79, 80, 81, 82, 83, 84, 85, 86, 87, 88, 89, 90, 91, 92, 97, 98, 99, 100, 101, 102, 103, 104, 105, 106, 107, 108] rfl rfl
set_option maxRecDepth 20000 in
theorem gX6_cut_X2_shortenTo : GoodIn wsX6_cut (wsV RX6 77 RX2 yX2_shortenTo wsX2_shortenTo) := goodIn_app (goodIn_r _ [3, 4, 5, 6] rfl rfl) ggX6_cut_X2_shortenTo
theorem dX6_cut_0 : decode cX6_cut 0 = .ok (.iload_n 1, 1) := by decide +kernel
theorem dX6_cut_1 : decode cX6_cut 1 = .ok (.ifCond .lt 14, 3) := by decide +kernel
theorem dX6_cut_4 : decode cX6_cut 4 = .ok (.iload_n 1, 1) := by decide +kernel
theorem dX6_cut_5 : decode cX6_cut 5 = .ok (.aload_n 0, 1) := by decide +kernel
theorem dX6_cut_6 : decode cX6_cut 6 = .ok (.getfield 12, 3) := by decide +kernel
theorem dX6_cut_9 : decode cX6_cut 9 = .ok (.getfield 39, 3) := by decide +kernel
theorem dX6_cut_12 : decode cX6_cut 12 = .ok (.if_icmp .le 5, 3) := by decide +kernel
theorem dX6_cut_15 : decode cX6_cut 15 = .ok (.iconst (-1), 1) := by decide +kernel
theorem dX6_cut_16 : decode cX6_cut 16 = .ok (.ireturn, 1) := by decide +kernel
theorem dX6_cut_17 : decode cX6_cut 17 = .ok (.aload_n 0, 1) := by decide +kernel
theorem dX6_cut_18 : decode cX6_cut 18 = .ok (.getfield 12, 3) := by decide +kernel
theorem dX6_cut_21 : decode cX6_cut 21 = .ok (.aload_n 0, 1) := by decide +kernel
theorem dX6_cut_22 : decode cX6_cut 22 = .ok (.getfield 12, 3) := by decide +kernel
theorem dX6_cut_25 : decode cX6_cut 25 = .ok (.getfield 39, 3) := by decide +kernel
theorem dX6_cut_28 : decode cX6_cut 28 = .ok (.iload_n 1, 1) := by decide +kernel
theorem dX6_cut_29 : decode cX6_cut 29 = .ok (.isub, 1) := by decide +kernel
theorem dX6_cut_30 : decode cX6_cut 30 = .ok (.invokevirtual 77, 3) := by decide +kernel
theorem dX6_cut_33 : decode cX6_cut 33 = .ok (.aload_n 0, 1) := by decide +kernel
theorem dX6_cut_34 : decode cX6_cut 34 = .ok (.getfield 12, 3) := by decide +kernel
theorem dX6_cut_37 : decode cX6_cut 37 = .ok (.getfield 39, 3) := by decide +kernel
theorem dX6_cut_40 : decode cX6_cut 40 = .ok (.ireturn, 1) := by decide +kernel
set_option maxRecDepth 20000 in
theorem ggX6_drift_X2_hasRoomFor : GoodIn wsX6_drift wsX2_hasRoomFor := goodIn_r _ [10, 11, 93, 94, 95, 96, 97, 98, 99, 100, 101, 102, 103, 104] rfl rfl
set_option maxRecDepth 20000 in
theorem gX6_drift_X2_hasRoomFor : GoodIn wsX6_drift (wsV RX6 51 RX2 yX2_hasRoomFor wsX2_hasRoomFor) := goodIn_app (goodIn_r _ [6, 7, 8, 9] rfl rfl) ggX6_drift_X2_hasRoomFor
set_option maxRecDepth 20000 in
theorem ggX6_drift_X2_letterLeftOver : GoodIn wsX6_drift wsX2_letterLeftOver := goodIn_r _ [15, 16, 93, 94, 95, 96, 97, 98, 99, 100, 101, 102, 103, 104] rfl rfl
set_option maxRecDepth 20000 in
theorem gX6_drift_X2_letterLeftOver : GoodIn wsX6_drift (wsV RX6 85 RX2 yX2_letterLeftOver wsX2_letterLeftOver) := goodIn_app (goodIn_r _ [12, 13, 14, 9] rfl rfl) ggX6_drift_X2_letterLeftOver
set_option maxRecDepth 20000 in
theorem ggX6_drift_X2_append : GoodIn wsX6_drift wsX2_append := goodIn_r _ [20, 21, 11, 22, 23, 24, 25, 26, 27, 9, 28, 16, 29, 7, 8, 10, 30, 31, 32, 33, 34, 35, 36, 37, 38, 39, 40, 41, 42, 43, 44, 45, 46, 47, 48, 49, 50, 51, 52, 53, 54, 55, 56, 57, 58, 59, 60, 61, 62, 63, 64, 65, 66, 67, 68, 69, 70, 71, 72, 73, 74, 75, 76, 77, 78, 79, 80, 81, 82, 83, 84, 85, 86, 87, 88, 93, 94, 95, 96, 97, 98, 99, 100, 101, 102, 103, 104] rfl rfl
set_option maxRecDepth 20000 in
theorem gX6_drift_X2_append : GoodIn wsX6_drift (wsV RX6 54 RX2 yX2_append wsX2_append) := goodIn_app (goodIn_r _ [17, 18, 19, 9] rfl rfl) ggX6_drift_X2_append
theorem dX6_drift_0 : decode cX6_drift 0 = .ok (.iload_n 1, 1) := by decide +kernel
theorem dX6_drift_1 : decode cX6_drift 1 = .ok (.iconst 1, 1) := by decide +kernel
theorem dX6_drift_2 : decode cX6_drift 2 = .ok (.if_icmp .lt 20, 3) := by decide +kernel
theorem dX6_drift_5 : decode cX6_drift 5 = .ok (.iload_n 1, 1) := by decide +kernel
theorem dX6_drift_6 : decode cX6_drift 6 = .ok (.bipush 60, 2) := by decide +kernel
theorem dX6_drift_8 : decode cX6_drift 8 = .ok (.if_icmp .gt 14, 3) := by decide +kernel
theorem dX6_drift_11 : decode cX6_drift 11 = .ok (.iload_n 2, 1) := by decide +kernel
theorem dX6_drift_12 : decode cX6_drift 12 = .ok (.iconst 1, 1) := by decide +kernel
theorem dX6_drift_13 : decode cX6_drift 13 = .ok (.if_icmp .lt 9, 3) := by decide +kernel
theorem dX6_drift_16 : decode cX6_drift 16 = .ok (.iload_n 2, 1) := by decide +kernel
theorem dX6_drift_17 : decode cX6_drift 17 = .ok (.ldc 80, 2) := by decide +kernel
theorem dX6_drift_19 : decode cX6_drift 19 = .ok (.if_icmp .le 5, 3) := by decide +kernel
theorem dX6_drift_22 : decode cX6_drift 22 = .ok (.iconst (-1), 1) := by decide +kernel
theorem dX6_drift_23 : decode cX6_drift 23 = .ok (.ireturn, 1) := by decide +kernel
theorem dX6_drift_24 : decode cX6_drift 24 = .ok (.aload_n 0, 1) := by decide +kernel
theorem dX6_drift_25 : decode cX6_drift 25 = .ok (.getfield 12, 3) := by decide +kernel
theorem dX6_drift_28 : decode cX6_drift 28 = .ok (.iload_n 1, 1) := by decide +kernel
theorem dX6_drift_29 : decode cX6_drift 29 = .ok (.invokevirtual 51, 3) := by decide +kernel
theorem dX6_drift_32 : decode cX6_drift 32 = .ok (.ifCond .ne 6, 3) := by decide +kernel
theorem dX6_drift_35 : decode cX6_drift 35 = .ok (.bipush (-3), 2) := by decide +kernel
theorem dX6_drift_37 : decode cX6_drift 37 = .ok (.ireturn, 1) := by decide +kernel
theorem dX6_drift_38 : decode cX6_drift 38 = .ok (.iload_n 2, 1) := by decide +kernel
theorem dX6_drift_39 : decode cX6_drift 39 = .ok (.i2l, 1) := by decide +kernel
theorem dX6_drift_40 : decode cX6_drift 40 = .ok (.lstore_n 3, 1) := by decide +kernel
theorem dX6_drift_41 : decode cX6_drift 41 = .ok (.iconst 0, 1) := by decide +kernel
theorem dX6_drift_42 : decode cX6_drift 42 = .ok (.istore 5, 2) := by decide +kernel
theorem dX6_drift_44 : decode cX6_drift 44 = .ok (.iload 5, 2) := by decide +kernel
theorem dX6_drift_46 : decode cX6_drift 46 = .ok (.iload_n 1, 1) := by decide +kernel
theorem dX6_drift_47 : decode cX6_drift 47 = .ok (.if_icmp .ge 34, 3) := by decide +kernel
theorem dX6_drift_50 : decode cX6_drift 50 = .ok (.lload_n 3, 1) := by decide +kernel
theorem dX6_drift_51 : decode cX6_drift 51 = .ok (.ldc2_w 81, 3) := by decide +kernel
theorem dX6_drift_54 : decode cX6_drift 54 = .ok (.lmul, 1) := by decide +kernel
theorem dX6_drift_55 : decode cX6_drift 55 = .ok (.ldc2_w 83, 3) := by decide +kernel
theorem dX6_drift_58 : decode cX6_drift 58 = .ok (.lrem, 1) := by decide +kernel
theorem dX6_drift_59 : decode cX6_drift 59 = .ok (.lstore_n 3, 1) := by decide +kernel
theorem dX6_drift_60 : decode cX6_drift 60 = .ok (.aload_n 0, 1) := by decide +kernel
theorem dX6_drift_61 : decode cX6_drift 61 = .ok (.getfield 12, 3) := by decide +kernel
theorem dX6_drift_64 : decode cX6_drift 64 = .ok (.aload_n 0, 1) := by decide +kernel
theorem dX6_drift_65 : decode cX6_drift 65 = .ok (.getfield 12, 3) := by decide +kernel
theorem dX6_drift_68 : decode cX6_drift 68 = .ok (.lload_n 3, 1) := by decide +kernel
theorem dX6_drift_69 : decode cX6_drift 69 = .ok (.invokevirtual 85, 3) := by decide +kernel
theorem dX6_drift_72 : decode cX6_drift 72 = .ok (.invokevirtual 54, 3) := by decide +kernel
theorem dX6_drift_75 : decode cX6_drift 75 = .ok (.iinc 5 1, 3) := by decide +kernel
theorem dX6_drift_78 : decode cX6_drift 78 = .ok (.goto (-34), 3) := by decide +kernel
theorem dX6_drift_81 : decode cX6_drift 81 = .ok (.aload_n 0, 1) := by decide +kernel
theorem dX6_drift_82 : decode cX6_drift 82 = .ok (.getfield 12, 3) := by decide +kernel
theorem dX6_drift_85 : decode cX6_drift 85 = .ok (.getfield 39, 3) := by decide +kernel
theorem dX6_drift_88 : decode cX6_drift 88 = .ok (.ireturn, 1) := by decide +kernel
set_option maxRecDepth 20000 in
theorem ggX6_letter_X2_letterAt : GoodIn wsX6_letter wsX2_letterAt := goodIn_r _ [7, 8, 9, 10, 11, 12, 17, 18, 19, 20, 21, 22, 23, 24, 25, 26, 27, 28] rfl rfl
set_option maxRecDepth 20000 in
theorem gX6_letter_X2_letterAt : GoodIn wsX6_letter (wsV RX6 89 RX2 yX2_letterAt wsX2_letterAt) := goodIn_app (goodIn_r _ [3, 4, 5, 6] rfl rfl) ggX6_letter_X2_letterAt
theorem dX6_letter_0 : decode cX6_letter 0 = .ok (.iload_n 1, 1) := by decide +kernel
theorem dX6_letter_1 : decode cX6_letter 1 = .ok (.ifCond .lt 25, 3) := by decide +kernel
theorem dX6_letter_4 : decode cX6_letter 4 = .ok (.iload_n 1, 1) := by decide +kernel
theorem dX6_letter_5 : decode cX6_letter 5 = .ok (.aload_n 0, 1) := by decide +kernel
theorem dX6_letter_6 : decode cX6_letter 6 = .ok (.getfield 12, 3) := by decide +kernel
theorem dX6_letter_9 : decode cX6_letter 9 = .ok (.getfield 39, 3) := by decide +kernel
theorem dX6_letter_12 : decode cX6_letter 12 = .ok (.if_icmp .ge 14, 3) := by decide +kernel
theorem dX6_letter_15 : decode cX6_letter 15 = .ok (.aload_n 0, 1) := by decide +kernel
theorem dX6_letter_16 : decode cX6_letter 16 = .ok (.getfield 12, 3) := by decide +kernel
theorem dX6_letter_19 : decode cX6_letter 19 = .ok (.iload_n 1, 1) := by decide +kernel
theorem dX6_letter_20 : decode cX6_letter 20 = .ok (.invokevirtual 89, 3) := by decide +kernel
theorem dX6_letter_23 : decode cX6_letter 23 = .ok (.goto 5, 3) := by decide +kernel
theorem dX6_letter_26 : decode cX6_letter 26 = .ok (.bipush (-12), 2) := by decide +kernel
theorem dX6_letter_28 : decode cX6_letter 28 = .ok (.ireturn, 1) := by decide +kernel
set_option maxRecDepth 20000 in
theorem ggX6_count_X2_clones : GoodIn wsX6_count wsX2_clones := goodIn_r _ [10, 11, 12, 13, 14, 9, 15, 16, 17, 18, 19, 20, 21, 22, 23, 24, 138, 139, 140, 141, 142, 143, 144, 145, 146, 147, 148, 149] rfl rfl
set_option maxRecDepth 20000 in
theorem gX6_count_X2_clones : GoodIn wsX6_count (wsV RX6 93 RX2 yX2_clones wsX2_clones) := goodIn_app (goodIn_r _ [6, 7, 8, 9] rfl rfl) ggX6_count_X2_clones
set_option maxRecDepth 20000 in
theorem ggX6_count_X2_movesInAll : GoodIn wsX6_count wsX2_movesInAll := goodIn_r _ [28, 11, 29, 30, 31, 32, 9, 33, 34, 17, 18, 19, 20, 35, 36, 37, 38, 21, 22, 23, 24, 138, 139, 140, 141, 142, 143, 144, 145, 146, 147, 148, 149] rfl rfl
set_option maxRecDepth 20000 in
theorem gX6_count_X2_movesInAll : GoodIn wsX6_count (wsV RX6 97 RX2 yX2_movesInAll wsX2_movesInAll) := goodIn_app (goodIn_r _ [25, 26, 27, 9] rfl rfl) ggX6_count_X2_movesInAll
set_option maxRecDepth 20000 in
theorem ggX6_count_X5_unlikeUpTo : GoodIn wsX6_count wsX5_unlikeUpTo := goodIn_r _ [43, 44, 45, 46, 47, 9, 48, 49, 21, 22, 23, 24, 150, 151, 152, 153, 154, 138, 139, 140, 141, 142, 143, 144, 145, 146, 147, 148, 149] rfl rfl
set_option maxRecDepth 20000 in
theorem gX6_count_X5_unlikeUpTo : GoodIn wsX6_count (wsV RX6 100 RX5 yX5_unlikeUpTo wsX5_unlikeUpTo) := goodIn_app (goodIn_r _ [39, 40, 41, 42] rfl rfl) ggX6_count_X5_unlikeUpTo
set_option maxRecDepth 20000 in
theorem ggX6_count_X2_againAt : GoodIn wsX6_count wsX2_againAt := goodIn_r _ [48, 49, 21, 22, 23, 24, 138, 139, 140, 141, 142, 143, 144, 145, 146, 147, 148, 149] rfl rfl
set_option maxRecDepth 20000 in
theorem gX6_count_X2_againAt : GoodIn wsX6_count (wsV RX6 103 RX2 yX2_againAt wsX2_againAt) := goodIn_app (goodIn_r _ [50, 46, 47, 9] rfl rfl) ggX6_count_X2_againAt
set_option maxRecDepth 20000 in
theorem ggX6_count_X5_period : GoodIn wsX6_count wsX5_period := goodIn_r _ [54, 44, 55, 56, 57, 58, 59, 60, 61, 62, 42, 63, 64, 65, 66, 9, 67, 68, 69, 70, 71, 72, 73, 17, 18, 19, 20, 11, 21, 22, 23, 24, 74, 75, 76, 77, 78, 79, 80, 81, 82, 83, 84, 85, 86, 87, 88, 89, 90, 91, 92, 93, 94, 95, 96, 97, 98, 99, 100, 101, 102, 103, 104, 105, 150, 151, 152, 153, 154, 138, 139, 140, 141, 142, 143, 144, 145, 146, 147, 148, 149] rfl rfl
set_option maxRecDepth 20000 in
theorem gX6_count_X5_period : GoodIn wsX6_count (wsV RX6 106 RX5 yX5_period wsX5_period) := goodIn_app (goodIn_r _ [51, 52, 53, 42] rfl rfl) ggX6_count_X5_period
set_option maxRecDepth 20000 in
theorem ggX6_count_X5_lengthsTogether : GoodIn wsX6_count wsX5_lengthsTogether := goodIn_r _ [109, 44, 55, 110, 111, 42, 112, 45, 46, 47, 9, 48, 49, 21, 22, 23, 24, 150, 151, 152, 153, 154, 138, 139, 140, 141, 142, 143, 144, 145, 146, 147, 148, 149] rfl rfl
set_option maxRecDepth 20000 in
theorem gX6_count_X5_lengthsTogether : GoodIn wsX6_count (wsV RX6 109 RX5 yX5_lengthsTogether wsX5_lengthsTogether) := goodIn_app (goodIn_r _ [106, 107, 108, 42] rfl rfl) ggX6_count_X5_lengthsTogether
set_option maxRecDepth 20000 in
theorem ggX6_count_X6_sheetsThere : GoodIn wsX6_count wsX6_sheetsThere := goodIn_r _ [117, 118, 119, 134, 135, 136, 137, 155, 156, 157] rfl rfl
set_option maxRecDepth 20000 in
theorem gX6_count_X6_sheetsThere : GoodIn wsX6_count (wsV RX6 112 RX6 yX6_sheetsThere wsX6_sheetsThere) := goodIn_app (goodIn_r _ [113, 114, 115, 116] rfl rfl) ggX6_count_X6_sheetsThere
set_option maxRecDepth 20000 in
theorem ggX6_count_X5_parts : GoodIn wsX6_count wsX5_parts := goodIn_r _ [123, 44, 55, 124, 125, 126, 42, 127, 56, 57, 58, 59, 128, 129, 130, 9, 131, 132, 21, 22, 23, 24, 133, 31, 32, 33, 34, 17, 18, 19, 20, 11, 35, 36, 37, 38, 29, 78, 79, 80, 81, 82, 83, 84, 85, 86, 87, 88, 89, 90, 91, 92, 93, 94, 95, 96, 97, 98, 99, 100, 150, 151, 152, 153, 154, 138, 139, 140, 141, 142, 143, 144, 145, 146, 147, 148, 149] rfl rfl
set_option maxRecDepth 20000 in
theorem gX6_count_X5_parts : GoodIn wsX6_count (wsV RX6 115 RX5 yX5_parts wsX5_parts) := goodIn_app (goodIn_r _ [120, 121, 122, 42] rfl rfl) ggX6_count_X5_parts
theorem dX6_count_0 : decode cX6_count 0 = .ok (.iload_n 1, 1) := by decide +kernel
theorem dX6_count_1 : decode cX6_count 1 = .ok (.tableswitch 173 0 10 #[59, 67, 75, 83, 91, 99, 114, 144, 152, 160, 165], 59) := by decide +kernel
theorem dX6_count_60 : decode cX6_count 60 = .ok (.aload_n 0, 1) := by decide +kernel
theorem dX6_count_61 : decode cX6_count 61 = .ok (.getfield 12, 3) := by decide +kernel
theorem dX6_count_64 : decode cX6_count 64 = .ok (.getfield 90, 3) := by decide +kernel
theorem dX6_count_67 : decode cX6_count 67 = .ok (.ireturn, 1) := by decide +kernel
theorem dX6_count_68 : decode cX6_count 68 = .ok (.aload_n 0, 1) := by decide +kernel
theorem dX6_count_69 : decode cX6_count 69 = .ok (.getfield 12, 3) := by decide +kernel
theorem dX6_count_72 : decode cX6_count 72 = .ok (.getfield 39, 3) := by decide +kernel
theorem dX6_count_75 : decode cX6_count 75 = .ok (.ireturn, 1) := by decide +kernel
theorem dX6_count_76 : decode cX6_count 76 = .ok (.aload_n 0, 1) := by decide +kernel
theorem dX6_count_77 : decode cX6_count 77 = .ok (.getfield 12, 3) := by decide +kernel
theorem dX6_count_80 : decode cX6_count 80 = .ok (.getfield 57, 3) := by decide +kernel
theorem dX6_count_83 : decode cX6_count 83 = .ok (.ireturn, 1) := by decide +kernel
theorem dX6_count_84 : decode cX6_count 84 = .ok (.aload_n 0, 1) := by decide +kernel
theorem dX6_count_85 : decode cX6_count 85 = .ok (.getfield 12, 3) := by decide +kernel
theorem dX6_count_88 : decode cX6_count 88 = .ok (.invokevirtual 93, 3) := by decide +kernel
theorem dX6_count_91 : decode cX6_count 91 = .ok (.ireturn, 1) := by decide +kernel
theorem dX6_count_92 : decode cX6_count 92 = .ok (.aload_n 0, 1) := by decide +kernel
theorem dX6_count_93 : decode cX6_count 93 = .ok (.getfield 12, 3) := by decide +kernel
theorem dX6_count_96 : decode cX6_count 96 = .ok (.invokevirtual 97, 3) := by decide +kernel
theorem dX6_count_99 : decode cX6_count 99 = .ok (.ireturn, 1) := by decide +kernel
theorem dX6_count_100 : decode cX6_count 100 = .ok (.aload_n 0, 1) := by decide +kernel
theorem dX6_count_101 : decode cX6_count 101 = .ok (.getfield 21, 3) := by decide +kernel
theorem dX6_count_104 : decode cX6_count 104 = .ok (.aload_n 0, 1) := by decide +kernel
theorem dX6_count_105 : decode cX6_count 105 = .ok (.getfield 12, 3) := by decide +kernel
theorem dX6_count_108 : decode cX6_count 108 = .ok (.getfield 39, 3) := by decide +kernel
theorem dX6_count_111 : decode cX6_count 111 = .ok (.invokevirtual 100, 3) := by decide +kernel
theorem dX6_count_114 : decode cX6_count 114 = .ok (.ireturn, 1) := by decide +kernel
theorem dX6_count_115 : decode cX6_count 115 = .ok (.aload_n 0, 1) := by decide +kernel
theorem dX6_count_116 : decode cX6_count 116 = .ok (.getfield 12, 3) := by decide +kernel
theorem dX6_count_119 : decode cX6_count 119 = .ok (.getfield 39, 3) := by decide +kernel
theorem dX6_count_122 : decode cX6_count 122 = .ok (.ifCond .le 20, 3) := by decide +kernel
theorem dX6_count_125 : decode cX6_count 125 = .ok (.aload_n 0, 1) := by decide +kernel
theorem dX6_count_126 : decode cX6_count 126 = .ok (.getfield 12, 3) := by decide +kernel
theorem dX6_count_129 : decode cX6_count 129 = .ok (.aload_n 0, 1) := by decide +kernel
theorem dX6_count_130 : decode cX6_count 130 = .ok (.getfield 12, 3) := by decide +kernel
theorem dX6_count_133 : decode cX6_count 133 = .ok (.getfield 39, 3) := by decide +kernel
theorem dX6_count_136 : decode cX6_count 136 = .ok (.invokevirtual 103, 3) := by decide +kernel
theorem dX6_count_139 : decode cX6_count 139 = .ok (.goto 5, 3) := by decide +kernel
theorem dX6_count_142 : decode cX6_count 142 = .ok (.bipush (-4), 2) := by decide +kernel
theorem dX6_count_144 : decode cX6_count 144 = .ok (.ireturn, 1) := by decide +kernel
theorem dX6_count_145 : decode cX6_count 145 = .ok (.aload_n 0, 1) := by decide +kernel
theorem dX6_count_146 : decode cX6_count 146 = .ok (.getfield 21, 3) := by decide +kernel
theorem dX6_count_149 : decode cX6_count 149 = .ok (.invokevirtual 106, 3) := by decide +kernel
theorem dX6_count_152 : decode cX6_count 152 = .ok (.ireturn, 1) := by decide +kernel
theorem dX6_count_153 : decode cX6_count 153 = .ok (.aload_n 0, 1) := by decide +kernel
theorem dX6_count_154 : decode cX6_count 154 = .ok (.getfield 21, 3) := by decide +kernel
theorem dX6_count_157 : decode cX6_count 157 = .ok (.invokevirtual 109, 3) := by decide +kernel
theorem dX6_count_160 : decode cX6_count 160 = .ok (.ireturn, 1) := by decide +kernel
theorem dX6_count_161 : decode cX6_count 161 = .ok (.aload_n 0, 1) := by decide +kernel
theorem dX6_count_162 : decode cX6_count 162 = .ok (.invokevirtual 112, 3) := by decide +kernel
theorem dX6_count_165 : decode cX6_count 165 = .ok (.ireturn, 1) := by decide +kernel
theorem dX6_count_166 : decode cX6_count 166 = .ok (.aload_n 0, 1) := by decide +kernel
theorem dX6_count_167 : decode cX6_count 167 = .ok (.getfield 21, 3) := by decide +kernel
theorem dX6_count_170 : decode cX6_count 170 = .ok (.invokevirtual 115, 3) := by decide +kernel
theorem dX6_count_173 : decode cX6_count 173 = .ok (.ireturn, 1) := by decide +kernel
theorem dX6_count_174 : decode cX6_count 174 = .ok (.iconst (-1), 1) := by decide +kernel
theorem dX6_count_175 : decode cX6_count 175 = .ok (.ireturn, 1) := by decide +kernel
set_option maxRecDepth 20000 in
theorem ggX6_state_X2_isState : GoodIn wsX6_state wsX2_isState := goodIn_r _ [6, 7, 68, 69, 70, 71, 72, 73, 74, 75, 76, 77, 78, 79] rfl rfl
set_option maxRecDepth 20000 in
theorem gX6_state_X2_isState : GoodIn wsX6_state (wsV RX6 118 RX2 yX2_isState wsX2_isState) := goodIn_app (goodIn_r _ [2, 3, 4, 5] rfl rfl) ggX6_state_X2_isState
set_option maxRecDepth 20000 in
theorem ggX6_state_X2_longestOf : GoodIn wsX6_state wsX2_longestOf := goodIn_r _ [11, 12, 13, 14, 15, 16, 68, 69, 70, 71, 72, 73, 74, 75, 76, 77, 78, 79] rfl rfl
set_option maxRecDepth 20000 in
theorem gX6_state_X2_longestOf : GoodIn wsX6_state (wsV RX6 121 RX2 yX2_longestOf wsX2_longestOf) := goodIn_app (goodIn_r _ [8, 9, 10, 5] rfl rfl) ggX6_state_X2_longestOf
set_option maxRecDepth 20000 in
theorem ggX6_state_X2_shortestOf : GoodIn wsX6_state wsX2_shortestOf := goodIn_r _ [20, 21, 22, 23, 5, 24, 25, 26, 3, 4, 6, 7, 13, 14, 15, 16, 27, 9, 10, 11, 12, 68, 69, 70, 71, 72, 73, 74, 75, 76, 77, 78, 79] rfl rfl
set_option maxRecDepth 20000 in
theorem gX6_state_X2_shortestOf : GoodIn wsX6_state (wsV RX6 124 RX2 yX2_shortestOf wsX2_shortestOf) := goodIn_app (goodIn_r _ [17, 18, 19, 5] rfl rfl) ggX6_state_X2_shortestOf
set_option maxRecDepth 20000 in
theorem ggX6_state_X2_linkOf : GoodIn wsX6_state wsX2_linkOf := goodIn_r _ [24, 25, 26, 3, 4, 5, 6, 7, 13, 14, 15, 16, 68, 69, 70, 71, 72, 73, 74, 75, 76, 77, 78, 79] rfl rfl
set_option maxRecDepth 20000 in
theorem gX6_state_X2_linkOf : GoodIn wsX6_state (wsV RX6 127 RX2 yX2_linkOf wsX2_linkOf) := goodIn_app (goodIn_r _ [28, 22, 23, 5] rfl rfl) ggX6_state_X2_linkOf
set_option maxRecDepth 20000 in
theorem ggX6_state_X2_endsOf : GoodIn wsX6_state wsX2_endsOf := goodIn_r _ [32, 33, 26, 3, 4, 5, 6, 7, 34, 35, 15, 36, 68, 69, 70, 71, 72, 73, 74, 75, 76, 77, 78, 79] rfl rfl
set_option maxRecDepth 20000 in
theorem gX6_state_X2_endsOf : GoodIn wsX6_state (wsV RX6 130 RX2 yX2_endsOf wsX2_endsOf) := goodIn_app (goodIn_r _ [29, 30, 31, 5] rfl rfl) ggX6_state_X2_endsOf
set_option maxRecDepth 20000 in
theorem ggX6_state_J13_bitCount_95d88 : GoodIn wsX6_state wsJ13_bitCount_95d88 := goodIn_r _ [40, 41, 42, 43] rfl rfl
set_option maxRecDepth 20000 in
theorem gX6_state_J13_bitCount_95d88 : GoodIn wsX6_state (va_wsS RX6 134 yJ13_bitCount_95d88 wsJ13_bitCount_95d88) := goodIn_app (goodIn_r _ [37, 38, 39] rfl rfl) ggX6_state_J13_bitCount_95d88
set_option maxRecDepth 20000 in
theorem ggX6_state_X2_firstEndOf : GoodIn wsX6_state wsX2_firstEndOf := goodIn_r _ [47, 48, 30, 31, 5, 32, 33, 26, 3, 4, 6, 7, 34, 35, 15, 36, 49, 50, 51, 52, 53, 38, 39, 40, 41, 42, 43, 68, 69, 70, 71, 72, 73, 74, 75, 76, 77, 78, 79] rfl rfl
set_option maxRecDepth 20000 in
theorem gX6_state_X2_firstEndOf : GoodIn wsX6_state (wsV RX6 139 RX2 yX2_firstEndOf wsX2_firstEndOf) := goodIn_app (goodIn_r _ [44, 45, 46, 5] rfl rfl) ggX6_state_X2_firstEndOf
set_option maxRecDepth 20000 in
theorem ggX6_state_X2_madeBehind : GoodIn wsX6_state wsX2_madeBehind := goodIn_r _ [57, 58, 13, 14, 15, 16, 68, 69, 70, 71, 72, 73, 74, 75, 76, 77, 78, 79] rfl rfl
set_option maxRecDepth 20000 in
theorem gX6_state_X2_madeBehind : GoodIn wsX6_state (wsV RX6 142 RX2 yX2_madeBehind wsX2_madeBehind) := goodIn_app (goodIn_r _ [54, 55, 56, 5] rfl rfl) ggX6_state_X2_madeBehind
set_option maxRecDepth 20000 in
theorem ggX6_state_X2_originalOf : GoodIn wsX6_state wsX2_originalOf := goodIn_r _ [62, 63, 26, 3, 4, 5, 6, 7, 13, 14, 15, 16, 68, 69, 70, 71, 72, 73, 74, 75, 76, 77, 78, 79] rfl rfl
set_option maxRecDepth 20000 in
theorem gX6_state_X2_originalOf : GoodIn wsX6_state (wsV RX6 145 RX2 yX2_originalOf wsX2_originalOf) := goodIn_app (goodIn_r _ [59, 60, 61, 5] rfl rfl) ggX6_state_X2_originalOf
theorem dX6_state_0 : decode cX6_state 0 = .ok (.aload_n 0, 1) := by decide +kernel
theorem dX6_state_1 : decode cX6_state 1 = .ok (.getfield 12, 3) := by decide +kernel
theorem dX6_state_4 : decode cX6_state 4 = .ok (.iload_n 1, 1) := by decide +kernel
theorem dX6_state_5 : decode cX6_state 5 = .ok (.invokevirtual 118, 3) := by decide +kernel
theorem dX6_state_8 : decode cX6_state 8 = .ok (.ifCond .ne 5, 3) := by decide +kernel
theorem dX6_state_11 : decode cX6_state 11 = .ok (.iconst (-1), 1) := by decide +kernel
theorem dX6_state_12 : decode cX6_state 12 = .ok (.ireturn, 1) := by decide +kernel
theorem dX6_state_13 : decode cX6_state 13 = .ok (.iload_n 2, 1) := by decide +kernel
theorem dX6_state_14 : decode cX6_state 14 = .ok (.tableswitch 108 0 6 #[42, 51, 60, 69, 81, 90, 99], 42) := by decide +kernel
theorem dX6_state_56 : decode cX6_state 56 = .ok (.aload_n 0, 1) := by decide +kernel
theorem dX6_state_57 : decode cX6_state 57 = .ok (.getfield 12, 3) := by decide +kernel
theorem dX6_state_60 : decode cX6_state 60 = .ok (.iload_n 1, 1) := by decide +kernel
theorem dX6_state_61 : decode cX6_state 61 = .ok (.invokevirtual 121, 3) := by decide +kernel
theorem dX6_state_64 : decode cX6_state 64 = .ok (.ireturn, 1) := by decide +kernel
theorem dX6_state_65 : decode cX6_state 65 = .ok (.aload_n 0, 1) := by decide +kernel
theorem dX6_state_66 : decode cX6_state 66 = .ok (.getfield 12, 3) := by decide +kernel
theorem dX6_state_69 : decode cX6_state 69 = .ok (.iload_n 1, 1) := by decide +kernel
theorem dX6_state_70 : decode cX6_state 70 = .ok (.invokevirtual 124, 3) := by decide +kernel
theorem dX6_state_73 : decode cX6_state 73 = .ok (.ireturn, 1) := by decide +kernel
theorem dX6_state_74 : decode cX6_state 74 = .ok (.aload_n 0, 1) := by decide +kernel
theorem dX6_state_75 : decode cX6_state 75 = .ok (.getfield 12, 3) := by decide +kernel
theorem dX6_state_78 : decode cX6_state 78 = .ok (.iload_n 1, 1) := by decide +kernel
theorem dX6_state_79 : decode cX6_state 79 = .ok (.invokevirtual 127, 3) := by decide +kernel
theorem dX6_state_82 : decode cX6_state 82 = .ok (.ireturn, 1) := by decide +kernel
theorem dX6_state_83 : decode cX6_state 83 = .ok (.aload_n 0, 1) := by decide +kernel
theorem dX6_state_84 : decode cX6_state 84 = .ok (.getfield 12, 3) := by decide +kernel
theorem dX6_state_87 : decode cX6_state 87 = .ok (.iload_n 1, 1) := by decide +kernel
theorem dX6_state_88 : decode cX6_state 88 = .ok (.invokevirtual 130, 3) := by decide +kernel
theorem dX6_state_91 : decode cX6_state 91 = .ok (.invokestatic 134, 3) := by decide +kernel
theorem dX6_state_94 : decode cX6_state 94 = .ok (.ireturn, 1) := by decide +kernel
theorem dX6_state_95 : decode cX6_state 95 = .ok (.aload_n 0, 1) := by decide +kernel
theorem dX6_state_96 : decode cX6_state 96 = .ok (.getfield 12, 3) := by decide +kernel
theorem dX6_state_99 : decode cX6_state 99 = .ok (.iload_n 1, 1) := by decide +kernel
theorem dX6_state_100 : decode cX6_state 100 = .ok (.invokevirtual 139, 3) := by decide +kernel
theorem dX6_state_103 : decode cX6_state 103 = .ok (.ireturn, 1) := by decide +kernel
theorem dX6_state_104 : decode cX6_state 104 = .ok (.aload_n 0, 1) := by decide +kernel
theorem dX6_state_105 : decode cX6_state 105 = .ok (.getfield 12, 3) := by decide +kernel
theorem dX6_state_108 : decode cX6_state 108 = .ok (.iload_n 1, 1) := by decide +kernel
theorem dX6_state_109 : decode cX6_state 109 = .ok (.invokevirtual 142, 3) := by decide +kernel
theorem dX6_state_112 : decode cX6_state 112 = .ok (.ireturn, 1) := by decide +kernel
theorem dX6_state_113 : decode cX6_state 113 = .ok (.aload_n 0, 1) := by decide +kernel
theorem dX6_state_114 : decode cX6_state 114 = .ok (.getfield 12, 3) := by decide +kernel
theorem dX6_state_117 : decode cX6_state 117 = .ok (.iload_n 1, 1) := by decide +kernel
theorem dX6_state_118 : decode cX6_state 118 = .ok (.invokevirtual 145, 3) := by decide +kernel
theorem dX6_state_121 : decode cX6_state 121 = .ok (.ireturn, 1) := by decide +kernel
theorem dX6_state_122 : decode cX6_state 122 = .ok (.iconst (-1), 1) := by decide +kernel
theorem dX6_state_123 : decode cX6_state 123 = .ok (.ireturn, 1) := by decide +kernel
set_option maxRecDepth 20000 in
theorem ggX6_move_X2_isState : GoodIn wsX6_move wsX2_isState := goodIn_r _ [6, 7, 28, 29, 30, 31, 32, 33, 34, 35, 36, 37, 38, 39] rfl rfl
set_option maxRecDepth 20000 in
theorem gX6_move_X2_isState : GoodIn wsX6_move (wsV RX6 118 RX2 yX2_isState wsX2_isState) := goodIn_app (goodIn_r _ [2, 3, 4, 5] rfl rfl) ggX6_move_X2_isState
set_option maxRecDepth 20000 in
theorem ggX6_move_X2_isLetter : GoodIn wsX6_move wsX2_isLetter := goodIn_r _ [11, 12, 28, 29, 30, 31, 32, 33, 34, 35, 36, 37, 38, 39] rfl rfl
set_option maxRecDepth 20000 in
theorem gX6_move_X2_isLetter : GoodIn wsX6_move (wsV RX6 47 RX2 yX2_isLetter wsX2_isLetter) := goodIn_app (goodIn_r _ [8, 9, 10, 5] rfl rfl) ggX6_move_X2_isLetter
set_option maxRecDepth 20000 in
theorem ggX6_move_X2_moveOf : GoodIn wsX6_move wsX2_moveOf := goodIn_r _ [16, 17, 18, 3, 4, 5, 6, 7, 19, 9, 10, 11, 12, 20, 21, 22, 23, 28, 29, 30, 31, 32, 33, 34, 35, 36, 37, 38, 39] rfl rfl
set_option maxRecDepth 20000 in
theorem gX6_move_X2_moveOf : GoodIn wsX6_move (wsV RX6 148 RX2 yX2_moveOf wsX2_moveOf) := goodIn_app (goodIn_r _ [13, 14, 15, 5] rfl rfl) ggX6_move_X2_moveOf
theorem dX6_move_0 : decode cX6_move 0 = .ok (.aload_n 0, 1) := by decide +kernel
theorem dX6_move_1 : decode cX6_move 1 = .ok (.getfield 12, 3) := by decide +kernel
theorem dX6_move_4 : decode cX6_move 4 = .ok (.iload_n 1, 1) := by decide +kernel
theorem dX6_move_5 : decode cX6_move 5 = .ok (.invokevirtual 118, 3) := by decide +kernel
theorem dX6_move_8 : decode cX6_move 8 = .ok (.ifCond .eq 14, 3) := by decide +kernel
theorem dX6_move_11 : decode cX6_move 11 = .ok (.aload_n 0, 1) := by decide +kernel
theorem dX6_move_12 : decode cX6_move 12 = .ok (.getfield 12, 3) := by decide +kernel
theorem dX6_move_15 : decode cX6_move 15 = .ok (.iload_n 2, 1) := by decide +kernel
theorem dX6_move_16 : decode cX6_move 16 = .ok (.invokevirtual 47, 3) := by decide +kernel
theorem dX6_move_19 : decode cX6_move 19 = .ok (.ifCond .ne 5, 3) := by decide +kernel
theorem dX6_move_22 : decode cX6_move 22 = .ok (.iconst (-1), 1) := by decide +kernel
theorem dX6_move_23 : decode cX6_move 23 = .ok (.ireturn, 1) := by decide +kernel
theorem dX6_move_24 : decode cX6_move 24 = .ok (.aload_n 0, 1) := by decide +kernel
theorem dX6_move_25 : decode cX6_move 25 = .ok (.getfield 12, 3) := by decide +kernel
theorem dX6_move_28 : decode cX6_move 28 = .ok (.iload_n 1, 1) := by decide +kernel
theorem dX6_move_29 : decode cX6_move 29 = .ok (.iload_n 2, 1) := by decide +kernel
theorem dX6_move_30 : decode cX6_move 30 = .ok (.invokevirtual 148, 3) := by decide +kernel
theorem dX6_move_33 : decode cX6_move 33 = .ok (.ireturn, 1) := by decide +kernel
set_option maxRecDepth 20000 in
theorem ggX6_end_X2_isState : GoodIn wsX6_end wsX2_isState := goodIn_r _ [6, 7, 39, 40, 41, 42, 43, 44, 45, 46, 47, 48, 49, 50] rfl rfl
set_option maxRecDepth 20000 in
theorem gX6_end_X2_isState : GoodIn wsX6_end (wsV RX6 118 RX2 yX2_isState wsX2_isState) := goodIn_app (goodIn_r _ [2, 3, 4, 5] rfl rfl) ggX6_end_X2_isState
set_option maxRecDepth 20000 in
theorem ggX6_end_X2_endsOf : GoodIn wsX6_end wsX2_endsOf := goodIn_r _ [11, 12, 13, 3, 4, 5, 6, 7, 14, 15, 16, 17, 39, 40, 41, 42, 43, 44, 45, 46, 47, 48, 49, 50] rfl rfl
set_option maxRecDepth 20000 in
theorem gX6_end_X2_endsOf : GoodIn wsX6_end (wsV RX6 130 RX2 yX2_endsOf wsX2_endsOf) := goodIn_app (goodIn_r _ [8, 9, 10, 5] rfl rfl) ggX6_end_X2_endsOf
set_option maxRecDepth 20000 in
theorem ggX6_end_X0_kthOf : GoodIn wsX6_end wsX0_kthOf := goodIn_r _ [21, 22, 23, 24, 25, 26, 27, 28, 29, 30, 20, 31, 32, 33, 34] rfl rfl
set_option maxRecDepth 20000 in
theorem gX6_end_X0_kthOf : GoodIn wsX6_end (va_wsS RX6 152 yX0_kthOf wsX0_kthOf) := goodIn_app (goodIn_r _ [18, 19, 20] rfl rfl) ggX6_end_X0_kthOf
theorem dX6_end_0 : decode cX6_end 0 = .ok (.aload_n 0, 1) := by decide +kernel
theorem dX6_end_1 : decode cX6_end 1 = .ok (.getfield 12, 3) := by decide +kernel
theorem dX6_end_4 : decode cX6_end 4 = .ok (.iload_n 1, 1) := by decide +kernel
theorem dX6_end_5 : decode cX6_end 5 = .ok (.invokevirtual 118, 3) := by decide +kernel
theorem dX6_end_8 : decode cX6_end 8 = .ok (.ifCond .eq 7, 3) := by decide +kernel
theorem dX6_end_11 : decode cX6_end 11 = .ok (.iload_n 2, 1) := by decide +kernel
theorem dX6_end_12 : decode cX6_end 12 = .ok (.ifCond .ge 5, 3) := by decide +kernel
theorem dX6_end_15 : decode cX6_end 15 = .ok (.iconst (-1), 1) := by decide +kernel
theorem dX6_end_16 : decode cX6_end 16 = .ok (.ireturn, 1) := by decide +kernel
theorem dX6_end_17 : decode cX6_end 17 = .ok (.aload_n 0, 1) := by decide +kernel
theorem dX6_end_18 : decode cX6_end 18 = .ok (.getfield 12, 3) := by decide +kernel
theorem dX6_end_21 : decode cX6_end 21 = .ok (.iload_n 1, 1) := by decide +kernel
theorem dX6_end_22 : decode cX6_end 22 = .ok (.invokevirtual 130, 3) := by decide +kernel
theorem dX6_end_25 : decode cX6_end 25 = .ok (.iload_n 2, 1) := by decide +kernel
theorem dX6_end_26 : decode cX6_end 26 = .ok (.invokestatic 152, 3) := by decide +kernel
theorem dX6_end_29 : decode cX6_end 29 = .ok (.ireturn, 1) := by decide +kernel
set_option maxRecDepth 20000 in
theorem ggX6_sheet_X6_pageAt : GoodIn wsX6_sheet wsX6_pageAt := goodIn_r _ [5, 6, 23, 24, 25, 26] rfl rfl
set_option maxRecDepth 20000 in
theorem gX6_sheet_X6_pageAt : GoodIn wsX6_sheet (wsV RX6 60 RX6 yX6_pageAt wsX6_pageAt) := goodIn_app (goodIn_r _ [1, 2, 3, 4] rfl rfl) ggX6_sheet_X6_pageAt
set_option maxRecDepth 20000 in
theorem ggX6_sheet_X4_layOut : GoodIn wsX6_sheet wsX4_layOut := goodIn_r _ [11, 12, 13, 14, 15, 16, 10, 17, 18, 19, 20, 21, 22, 27, 28, 29] rfl rfl
set_option maxRecDepth 20000 in
theorem gX6_sheet_X4_layOut : GoodIn wsX6_sheet (wsV RX6 158 RX4 yX4_layOut wsX4_layOut) := goodIn_app (goodIn_r _ [7, 8, 9, 10] rfl rfl) ggX6_sheet_X4_layOut
theorem dX6_sheet_0 : decode cX6_sheet 0 = .ok (.aload_n 0, 1) := by decide +kernel
theorem dX6_sheet_1 : decode cX6_sheet 1 = .ok (.iload_n 1, 1) := by decide +kernel
theorem dX6_sheet_2 : decode cX6_sheet 2 = .ok (.invokevirtual 60, 3) := by decide +kernel
theorem dX6_sheet_5 : decode cX6_sheet 5 = .ok (.astore_n 3, 1) := by decide +kernel
theorem dX6_sheet_6 : decode cX6_sheet 6 = .ok (.aload_n 3, 1) := by decide +kernel
theorem dX6_sheet_7 : decode cX6_sheet 7 = .ok (.ifnull 13, 3) := by decide +kernel
theorem dX6_sheet_10 : decode cX6_sheet 10 = .ok (.iload_n 2, 1) := by decide +kernel
theorem dX6_sheet_11 : decode cX6_sheet 11 = .ok (.ifCond .lt 9, 3) := by decide +kernel
theorem dX6_sheet_14 : decode cX6_sheet 14 = .ok (.iload_n 2, 1) := by decide +kernel
theorem dX6_sheet_15 : decode cX6_sheet 15 = .ok (.bipush 64, 2) := by decide +kernel
theorem dX6_sheet_17 : decode cX6_sheet 17 = .ok (.if_icmp .le 5, 3) := by decide +kernel
theorem dX6_sheet_20 : decode cX6_sheet 20 = .ok (.iconst (-1), 1) := by decide +kernel
theorem dX6_sheet_21 : decode cX6_sheet 21 = .ok (.ireturn, 1) := by decide +kernel
theorem dX6_sheet_22 : decode cX6_sheet 22 = .ok (.aload_n 3, 1) := by decide +kernel
theorem dX6_sheet_23 : decode cX6_sheet 23 = .ok (.iload_n 2, 1) := by decide +kernel
theorem dX6_sheet_24 : decode cX6_sheet 24 = .ok (.invokevirtual 158, 3) := by decide +kernel
theorem dX6_sheet_27 : decode cX6_sheet 27 = .ok (.iload_n 2, 1) := by decide +kernel
theorem dX6_sheet_28 : decode cX6_sheet 28 = .ok (.ireturn, 1) := by decide +kernel
set_option maxRecDepth 20000 in
theorem ggX6_set_X6_pageAt : GoodIn wsX6_set wsX6_pageAt := goodIn_r _ [7, 8, 34, 35, 36, 37] rfl rfl
set_option maxRecDepth 20000 in
theorem gX6_set_X6_pageAt : GoodIn wsX6_set (wsV RX6 60 RX6 yX6_pageAt wsX6_pageAt) := goodIn_app (goodIn_r _ [3, 4, 5, 6] rfl rfl) ggX6_set_X6_pageAt
set_option maxRecDepth 20000 in
theorem ggX6_set_X4_hasPlace : GoodIn wsX6_set wsX4_hasPlace := goodIn_r _ [13, 14, 31, 32, 33] rfl rfl
set_option maxRecDepth 20000 in
theorem gX6_set_X4_hasPlace : GoodIn wsX6_set (wsV RX6 162 RX4 yX4_hasPlace wsX4_hasPlace) := goodIn_app (goodIn_r _ [9, 10, 11, 12] rfl rfl) ggX6_set_X4_hasPlace
set_option maxRecDepth 20000 in
theorem ggX6_set_X4_signAt : GoodIn wsX6_set wsX4_signAt := goodIn_r _ [18, 19, 20, 21, 22, 23, 31, 32, 33] rfl rfl
set_option maxRecDepth 20000 in
theorem gX6_set_X4_signAt : GoodIn wsX6_set (wsV RX6 165 RX4 yX4_signAt wsX4_signAt) := goodIn_app (goodIn_r _ [15, 16, 17, 12] rfl rfl) ggX6_set_X4_signAt
set_option maxRecDepth 20000 in
theorem ggX6_set_X4_write : GoodIn wsX6_set wsX4_write := goodIn_r _ [27, 19, 28, 29, 22, 30, 31, 32, 33] rfl rfl
set_option maxRecDepth 20000 in
theorem gX6_set_X4_write : GoodIn wsX6_set (wsV RX6 168 RX4 yX4_write wsX4_write) := goodIn_app (goodIn_r _ [24, 25, 26, 12] rfl rfl) ggX6_set_X4_write
theorem dX6_set_0 : decode cX6_set 0 = .ok (.aload_n 0, 1) := by decide +kernel
theorem dX6_set_1 : decode cX6_set 1 = .ok (.iload_n 1, 1) := by decide +kernel
theorem dX6_set_2 : decode cX6_set 2 = .ok (.invokevirtual 60, 3) := by decide +kernel
theorem dX6_set_5 : decode cX6_set 5 = .ok (.astore 4, 2) := by decide +kernel
theorem dX6_set_7 : decode cX6_set 7 = .ok (.aload 4, 2) := by decide +kernel
theorem dX6_set_9 : decode cX6_set 9 = .ok (.ifnull 13, 3) := by decide +kernel
theorem dX6_set_12 : decode cX6_set 12 = .ok (.iload_n 3, 1) := by decide +kernel
theorem dX6_set_13 : decode cX6_set 13 = .ok (.ifCond .lt 9, 3) := by decide +kernel
theorem dX6_set_16 : decode cX6_set 16 = .ok (.iload_n 3, 1) := by decide +kernel
theorem dX6_set_17 : decode cX6_set 17 = .ok (.ldc 161, 2) := by decide +kernel
theorem dX6_set_19 : decode cX6_set 19 = .ok (.if_icmp .le 5, 3) := by decide +kernel
theorem dX6_set_22 : decode cX6_set 22 = .ok (.iconst (-1), 1) := by decide +kernel
theorem dX6_set_23 : decode cX6_set 23 = .ok (.ireturn, 1) := by decide +kernel
theorem dX6_set_24 : decode cX6_set 24 = .ok (.aload 4, 2) := by decide +kernel
theorem dX6_set_26 : decode cX6_set 26 = .ok (.getfield 64, 3) := by decide +kernel
theorem dX6_set_29 : decode cX6_set 29 = .ok (.ifCond .ne 6, 3) := by decide +kernel
theorem dX6_set_32 : decode cX6_set 32 = .ok (.bipush (-11), 2) := by decide +kernel
theorem dX6_set_34 : decode cX6_set 34 = .ok (.ireturn, 1) := by decide +kernel
theorem dX6_set_35 : decode cX6_set 35 = .ok (.aload 4, 2) := by decide +kernel
theorem dX6_set_37 : decode cX6_set 37 = .ok (.iload_n 2, 1) := by decide +kernel
theorem dX6_set_38 : decode cX6_set 38 = .ok (.invokevirtual 162, 3) := by decide +kernel
theorem dX6_set_41 : decode cX6_set 41 = .ok (.ifCond .ne 6, 3) := by decide +kernel
theorem dX6_set_44 : decode cX6_set 44 = .ok (.bipush (-12), 2) := by decide +kernel
theorem dX6_set_46 : decode cX6_set 46 = .ok (.ireturn, 1) := by decide +kernel
theorem dX6_set_47 : decode cX6_set 47 = .ok (.aload 4, 2) := by decide +kernel
theorem dX6_set_49 : decode cX6_set 49 = .ok (.iload_n 2, 1) := by decide +kernel
theorem dX6_set_50 : decode cX6_set 50 = .ok (.invokevirtual 165, 3) := by decide +kernel
theorem dX6_set_53 : decode cX6_set 53 = .ok (.istore 5, 2) := by decide +kernel
theorem dX6_set_55 : decode cX6_set 55 = .ok (.aload 4, 2) := by decide +kernel
theorem dX6_set_57 : decode cX6_set 57 = .ok (.iload_n 2, 1) := by decide +kernel
theorem dX6_set_58 : decode cX6_set 58 = .ok (.iload_n 3, 1) := by decide +kernel
theorem dX6_set_59 : decode cX6_set 59 = .ok (.invokevirtual 168, 3) := by decide +kernel
theorem dX6_set_62 : decode cX6_set 62 = .ok (.iload 5, 2) := by decide +kernel
theorem dX6_set_64 : decode cX6_set 64 = .ok (.ireturn, 1) := by decide +kernel
set_option maxRecDepth 20000 in
theorem ggX6_get_X6_pageAt : GoodIn wsX6_get wsX6_pageAt := goodIn_r _ [6, 7, 26, 27, 28, 29] rfl rfl
set_option maxRecDepth 20000 in
theorem gX6_get_X6_pageAt : GoodIn wsX6_get (wsV RX6 60 RX6 yX6_pageAt wsX6_pageAt) := goodIn_app (goodIn_r _ [2, 3, 4, 5] rfl rfl) ggX6_get_X6_pageAt
set_option maxRecDepth 20000 in
theorem ggX6_get_X4_hasPlace : GoodIn wsX6_get wsX4_hasPlace := goodIn_r _ [12, 13, 23, 24, 25] rfl rfl
set_option maxRecDepth 20000 in
theorem gX6_get_X4_hasPlace : GoodIn wsX6_get (wsV RX6 162 RX4 yX4_hasPlace wsX4_hasPlace) := goodIn_app (goodIn_r _ [8, 9, 10, 11] rfl rfl) ggX6_get_X4_hasPlace
set_option maxRecDepth 20000 in
theorem ggX6_get_X4_signAt : GoodIn wsX6_get wsX4_signAt := goodIn_r _ [17, 18, 19, 20, 21, 22, 23, 24, 25] rfl rfl
set_option maxRecDepth 20000 in
theorem gX6_get_X4_signAt : GoodIn wsX6_get (wsV RX6 165 RX4 yX4_signAt wsX4_signAt) := goodIn_app (goodIn_r _ [14, 15, 16, 11] rfl rfl) ggX6_get_X4_signAt
theorem dX6_get_0 : decode cX6_get 0 = .ok (.aload_n 0, 1) := by decide +kernel
theorem dX6_get_1 : decode cX6_get 1 = .ok (.iload_n 1, 1) := by decide +kernel
theorem dX6_get_2 : decode cX6_get 2 = .ok (.invokevirtual 60, 3) := by decide +kernel
theorem dX6_get_5 : decode cX6_get 5 = .ok (.astore_n 3, 1) := by decide +kernel
theorem dX6_get_6 : decode cX6_get 6 = .ok (.aload_n 3, 1) := by decide +kernel
theorem dX6_get_7 : decode cX6_get 7 = .ok (.ifnonnull 5, 3) := by decide +kernel
theorem dX6_get_10 : decode cX6_get 10 = .ok (.iconst (-1), 1) := by decide +kernel
theorem dX6_get_11 : decode cX6_get 11 = .ok (.ireturn, 1) := by decide +kernel
theorem dX6_get_12 : decode cX6_get 12 = .ok (.aload_n 3, 1) := by decide +kernel
theorem dX6_get_13 : decode cX6_get 13 = .ok (.getfield 64, 3) := by decide +kernel
theorem dX6_get_16 : decode cX6_get 16 = .ok (.ifCond .ne 6, 3) := by decide +kernel
theorem dX6_get_19 : decode cX6_get 19 = .ok (.bipush (-11), 2) := by decide +kernel
theorem dX6_get_21 : decode cX6_get 21 = .ok (.ireturn, 1) := by decide +kernel
theorem dX6_get_22 : decode cX6_get 22 = .ok (.aload_n 3, 1) := by decide +kernel
theorem dX6_get_23 : decode cX6_get 23 = .ok (.iload_n 2, 1) := by decide +kernel
theorem dX6_get_24 : decode cX6_get 24 = .ok (.invokevirtual 162, 3) := by decide +kernel
theorem dX6_get_27 : decode cX6_get 27 = .ok (.ifCond .eq 11, 3) := by decide +kernel
theorem dX6_get_30 : decode cX6_get 30 = .ok (.aload_n 3, 1) := by decide +kernel
theorem dX6_get_31 : decode cX6_get 31 = .ok (.iload_n 2, 1) := by decide +kernel
theorem dX6_get_32 : decode cX6_get 32 = .ok (.invokevirtual 165, 3) := by decide +kernel
theorem dX6_get_35 : decode cX6_get 35 = .ok (.goto 5, 3) := by decide +kernel
theorem dX6_get_38 : decode cX6_get 38 = .ok (.bipush (-12), 2) := by decide +kernel
theorem dX6_get_40 : decode cX6_get 40 = .ok (.ireturn, 1) := by decide +kernel
set_option maxRecDepth 20000 in
theorem ggX6_size_X6_pageAt : GoodIn wsX6_size wsX6_pageAt := goodIn_r _ [7, 8, 12, 13, 14, 15] rfl rfl
set_option maxRecDepth 20000 in
theorem gX6_size_X6_pageAt : GoodIn wsX6_size (wsV RX6 60 RX6 yX6_pageAt wsX6_pageAt) := goodIn_app (goodIn_r _ [3, 4, 5, 6] rfl rfl) ggX6_size_X6_pageAt
theorem dX6_size_0 : decode cX6_size 0 = .ok (.aload_n 0, 1) := by decide +kernel
theorem dX6_size_1 : decode cX6_size 1 = .ok (.iload_n 1, 1) := by decide +kernel
theorem dX6_size_2 : decode cX6_size 2 = .ok (.invokevirtual 60, 3) := by decide +kernel
theorem dX6_size_5 : decode cX6_size 5 = .ok (.astore_n 2, 1) := by decide +kernel
theorem dX6_size_6 : decode cX6_size 6 = .ok (.aload_n 2, 1) := by decide +kernel
theorem dX6_size_7 : decode cX6_size 7 = .ok (.ifnonnull 5, 3) := by decide +kernel
theorem dX6_size_10 : decode cX6_size 10 = .ok (.iconst (-1), 1) := by decide +kernel
theorem dX6_size_11 : decode cX6_size 11 = .ok (.ireturn, 1) := by decide +kernel
theorem dX6_size_12 : decode cX6_size 12 = .ok (.aload_n 2, 1) := by decide +kernel
theorem dX6_size_13 : decode cX6_size 13 = .ok (.getfield 64, 3) := by decide +kernel
theorem dX6_size_16 : decode cX6_size 16 = .ok (.ifCond .eq 10, 3) := by decide +kernel
theorem dX6_size_19 : decode cX6_size 19 = .ok (.aload_n 2, 1) := by decide +kernel
theorem dX6_size_20 : decode cX6_size 20 = .ok (.getfield 72, 3) := by decide +kernel
theorem dX6_size_23 : decode cX6_size 23 = .ok (.goto 5, 3) := by decide +kernel
theorem dX6_size_26 : decode cX6_size 26 = .ok (.bipush (-11), 2) := by decide +kernel
theorem dX6_size_28 : decode cX6_size 28 = .ok (.ireturn, 1) := by decide +kernel
set_option maxRecDepth 20000 in
theorem ggX6_drop_X6_pageAt : GoodIn wsX6_drop wsX6_pageAt := goodIn_r _ [7, 8, 19, 20, 21, 22] rfl rfl
set_option maxRecDepth 20000 in
theorem gX6_drop_X6_pageAt : GoodIn wsX6_drop (wsV RX6 60 RX6 yX6_pageAt wsX6_pageAt) := goodIn_app (goodIn_r _ [3, 4, 5, 6] rfl rfl) ggX6_drop_X6_pageAt
set_option maxRecDepth 20000 in
theorem ggX6_drop_X4_takeAway : GoodIn wsX6_drop wsX4_takeAway := goodIn_r _ [13, 14, 15, 16, 17, 18] rfl rfl
set_option maxRecDepth 20000 in
theorem gX6_drop_X4_takeAway : GoodIn wsX6_drop (wsV RX6 172 RX4 yX4_takeAway wsX4_takeAway) := goodIn_app (goodIn_r _ [9, 10, 11, 12] rfl rfl) ggX6_drop_X4_takeAway
theorem dX6_drop_0 : decode cX6_drop 0 = .ok (.aload_n 0, 1) := by decide +kernel
theorem dX6_drop_1 : decode cX6_drop 1 = .ok (.iload_n 1, 1) := by decide +kernel
theorem dX6_drop_2 : decode cX6_drop 2 = .ok (.invokevirtual 60, 3) := by decide +kernel
theorem dX6_drop_5 : decode cX6_drop 5 = .ok (.astore_n 2, 1) := by decide +kernel
theorem dX6_drop_6 : decode cX6_drop 6 = .ok (.aload_n 2, 1) := by decide +kernel
theorem dX6_drop_7 : decode cX6_drop 7 = .ok (.ifnonnull 5, 3) := by decide +kernel
theorem dX6_drop_10 : decode cX6_drop 10 = .ok (.iconst (-1), 1) := by decide +kernel
theorem dX6_drop_11 : decode cX6_drop 11 = .ok (.ireturn, 1) := by decide +kernel
theorem dX6_drop_12 : decode cX6_drop 12 = .ok (.aload_n 2, 1) := by decide +kernel
theorem dX6_drop_13 : decode cX6_drop 13 = .ok (.getfield 64, 3) := by decide +kernel
theorem dX6_drop_16 : decode cX6_drop 16 = .ok (.ifCond .ne 6, 3) := by decide +kernel
theorem dX6_drop_19 : decode cX6_drop 19 = .ok (.bipush (-11), 2) := by decide +kernel
theorem dX6_drop_21 : decode cX6_drop 21 = .ok (.ireturn, 1) := by decide +kernel
theorem dX6_drop_22 : decode cX6_drop 22 = .ok (.aload_n 2, 1) := by decide +kernel
theorem dX6_drop_23 : decode cX6_drop 23 = .ok (.getfield 72, 3) := by decide +kernel
theorem dX6_drop_26 : decode cX6_drop 26 = .ok (.istore_n 3, 1) := by decide +kernel
theorem dX6_drop_27 : decode cX6_drop 27 = .ok (.aload_n 2, 1) := by decide +kernel
theorem dX6_drop_28 : decode cX6_drop 28 = .ok (.invokevirtual 172, 3) := by decide +kernel
theorem dX6_drop_31 : decode cX6_drop 31 = .ok (.iload_n 3, 1) := by decide +kernel
theorem dX6_drop_32 : decode cX6_drop 32 = .ok (.ireturn, 1) := by decide +kernel
set_option maxRecDepth 20000 in
theorem ggX6_walk_X6_pageAt : GoodIn wsX6_walk wsX6_pageAt := goodIn_r _ [7, 8, 50, 51, 52, 53] rfl rfl
set_option maxRecDepth 20000 in
theorem gX6_walk_X6_pageAt : GoodIn wsX6_walk (wsV RX6 60 RX6 yX6_pageAt wsX6_pageAt) := goodIn_app (goodIn_r _ [3, 4, 5, 6] rfl rfl) ggX6_walk_X6_pageAt
set_option maxRecDepth 20000 in
theorem ggX6_walk_X5_stateOf : GoodIn wsX6_walk wsX5_stateOf := goodIn_r _ [13, 14, 15, 16, 17, 18, 19, 20, 21, 22, 23, 24, 25, 26, 27, 28, 29, 30, 31, 32, 33, 34, 35, 36, 37, 38, 39, 40, 41, 42, 43, 44, 45, 46, 47, 48, 49, 54, 55, 56, 57, 58, 59, 60, 61, 62, 63, 64, 65, 66, 67, 68, 69, 70] rfl rfl
set_option maxRecDepth 20000 in
theorem gX6_walk_X5_stateOf : GoodIn wsX6_walk (wsV RX6 175 RX5 yX5_stateOf wsX5_stateOf) := goodIn_app (goodIn_r _ [9, 10, 11, 12] rfl rfl) ggX6_walk_X5_stateOf
theorem dX6_walk_0 : decode cX6_walk 0 = .ok (.aload_n 0, 1) := by decide +kernel
theorem dX6_walk_1 : decode cX6_walk 1 = .ok (.iload_n 1, 1) := by decide +kernel
theorem dX6_walk_2 : decode cX6_walk 2 = .ok (.invokevirtual 60, 3) := by decide +kernel
theorem dX6_walk_5 : decode cX6_walk 5 = .ok (.astore_n 2, 1) := by decide +kernel
theorem dX6_walk_6 : decode cX6_walk 6 = .ok (.aload_n 2, 1) := by decide +kernel
theorem dX6_walk_7 : decode cX6_walk 7 = .ok (.ifnonnull 5, 3) := by decide +kernel
theorem dX6_walk_10 : decode cX6_walk 10 = .ok (.iconst (-1), 1) := by decide +kernel
theorem dX6_walk_11 : decode cX6_walk 11 = .ok (.ireturn, 1) := by decide +kernel
theorem dX6_walk_12 : decode cX6_walk 12 = .ok (.aload_n 2, 1) := by decide +kernel
theorem dX6_walk_13 : decode cX6_walk 13 = .ok (.getfield 64, 3) := by decide +kernel
theorem dX6_walk_16 : decode cX6_walk 16 = .ok (.ifCond .eq 14, 3) := by decide +kernel
theorem dX6_walk_19 : decode cX6_walk 19 = .ok (.aload_n 0, 1) := by decide +kernel
theorem dX6_walk_20 : decode cX6_walk 20 = .ok (.getfield 21, 3) := by decide +kernel
theorem dX6_walk_23 : decode cX6_walk 23 = .ok (.aload_n 2, 1) := by decide +kernel
theorem dX6_walk_24 : decode cX6_walk 24 = .ok (.invokevirtual 175, 3) := by decide +kernel
theorem dX6_walk_27 : decode cX6_walk 27 = .ok (.goto 5, 3) := by decide +kernel
theorem dX6_walk_30 : decode cX6_walk 30 = .ok (.bipush (-11), 2) := by decide +kernel
theorem dX6_walk_32 : decode cX6_walk 32 = .ok (.ireturn, 1) := by decide +kernel
set_option maxRecDepth 20000 in
theorem ggX6_times_X6_pageAt : GoodIn wsX6_times wsX6_pageAt := goodIn_r _ [8, 9, 77, 78, 79, 80] rfl rfl
set_option maxRecDepth 20000 in
theorem gX6_times_X6_pageAt : GoodIn wsX6_times (wsV RX6 60 RX6 yX6_pageAt wsX6_pageAt) := goodIn_app (goodIn_r _ [4, 5, 6, 7] rfl rfl) ggX6_times_X6_pageAt
set_option maxRecDepth 20000 in
theorem ggX6_times_X5_stateOf : GoodIn wsX6_times wsX5_stateOf := goodIn_r _ [14, 15, 16, 17, 18, 19, 20, 21, 22, 23, 24, 25, 26, 27, 28, 29, 30, 31, 32, 33, 34, 35, 36, 37, 38, 39, 40, 41, 42, 43, 44, 45, 46, 47, 74, 75, 76, 81, 82, 83, 84, 85, 86, 87, 88, 89, 90, 91, 92, 93, 94, 95, 96, 97] rfl rfl
set_option maxRecDepth 20000 in
theorem gX6_times_X5_stateOf : GoodIn wsX6_times (wsV RX6 175 RX5 yX5_stateOf wsX5_stateOf) := goodIn_app (goodIn_r _ [10, 11, 12, 13] rfl rfl) ggX6_times_X5_stateOf
set_option maxRecDepth 20000 in
theorem ggX6_times_X2_endsOf : GoodIn wsX6_times wsX2_endsOf := goodIn_r _ [51, 52, 37, 38, 39, 34, 40, 41, 53, 54, 29, 55, 86, 87, 88, 89, 90, 91, 92, 93, 94, 95, 96, 97] rfl rfl
set_option maxRecDepth 20000 in
theorem gX6_times_X2_endsOf : GoodIn wsX6_times (wsV RX6 130 RX2 yX2_endsOf wsX2_endsOf) := goodIn_app (goodIn_r _ [48, 49, 50, 34] rfl rfl) ggX6_times_X2_endsOf
set_option maxRecDepth 20000 in
theorem ggX6_times_J13_bitCount_95d88 : GoodIn wsX6_times wsJ13_bitCount_95d88 := goodIn_r _ [59, 60, 61, 62] rfl rfl
set_option maxRecDepth 20000 in
theorem gX6_times_J13_bitCount_95d88 : GoodIn wsX6_times (va_wsS RX6 134 yJ13_bitCount_95d88 wsJ13_bitCount_95d88) := goodIn_app (goodIn_r _ [56, 57, 58] rfl rfl) ggX6_times_J13_bitCount_95d88
set_option maxRecDepth 20000 in
theorem ggX6_times_X0_kthOf : GoodIn wsX6_times wsX0_kthOf := goodIn_r _ [66, 67, 57, 58, 59, 60, 61, 62, 68, 69, 65, 70, 71, 72, 73] rfl rfl
set_option maxRecDepth 20000 in
theorem gX6_times_X0_kthOf : GoodIn wsX6_times (va_wsS RX6 152 yX0_kthOf wsX0_kthOf) := goodIn_app (goodIn_r _ [63, 64, 65] rfl rfl) ggX6_times_X0_kthOf
theorem dX6_times_0 : decode cX6_times 0 = .ok (.aload_n 0, 1) := by decide +kernel
theorem dX6_times_1 : decode cX6_times 1 = .ok (.iload_n 1, 1) := by decide +kernel
theorem dX6_times_2 : decode cX6_times 2 = .ok (.invokevirtual 60, 3) := by decide +kernel
theorem dX6_times_5 : decode cX6_times 5 = .ok (.astore_n 3, 1) := by decide +kernel
theorem dX6_times_6 : decode cX6_times 6 = .ok (.aload_n 3, 1) := by decide +kernel
theorem dX6_times_7 : decode cX6_times 7 = .ok (.ifnull 12, 3) := by decide +kernel
theorem dX6_times_10 : decode cX6_times 10 = .ok (.iload_n 2, 1) := by decide +kernel
theorem dX6_times_11 : decode cX6_times 11 = .ok (.ifCond .lt 8, 3) := by decide +kernel
theorem dX6_times_14 : decode cX6_times 14 = .ok (.iload_n 2, 1) := by decide +kernel
theorem dX6_times_15 : decode cX6_times 15 = .ok (.iconst 2, 1) := by decide +kernel
theorem dX6_times_16 : decode cX6_times 16 = .ok (.if_icmp .le 5, 3) := by decide +kernel
theorem dX6_times_19 : decode cX6_times 19 = .ok (.iconst (-1), 1) := by decide +kernel
theorem dX6_times_20 : decode cX6_times 20 = .ok (.ireturn, 1) := by decide +kernel
theorem dX6_times_21 : decode cX6_times 21 = .ok (.aload_n 3, 1) := by decide +kernel
theorem dX6_times_22 : decode cX6_times 22 = .ok (.getfield 64, 3) := by decide +kernel
theorem dX6_times_25 : decode cX6_times 25 = .ok (.ifCond .ne 6, 3) := by decide +kernel
theorem dX6_times_28 : decode cX6_times 28 = .ok (.bipush (-11), 2) := by decide +kernel
theorem dX6_times_30 : decode cX6_times 30 = .ok (.ireturn, 1) := by decide +kernel
theorem dX6_times_31 : decode cX6_times 31 = .ok (.aload_n 0, 1) := by decide +kernel
theorem dX6_times_32 : decode cX6_times 32 = .ok (.getfield 12, 3) := by decide +kernel
theorem dX6_times_35 : decode cX6_times 35 = .ok (.aload_n 0, 1) := by decide +kernel
theorem dX6_times_36 : decode cX6_times 36 = .ok (.getfield 21, 3) := by decide +kernel
theorem dX6_times_39 : decode cX6_times 39 = .ok (.aload_n 3, 1) := by decide +kernel
theorem dX6_times_40 : decode cX6_times 40 = .ok (.invokevirtual 175, 3) := by decide +kernel
theorem dX6_times_43 : decode cX6_times 43 = .ok (.invokevirtual 130, 3) := by decide +kernel
theorem dX6_times_46 : decode cX6_times 46 = .ok (.lstore 4, 2) := by decide +kernel
theorem dX6_times_48 : decode cX6_times 48 = .ok (.lload 4, 2) := by decide +kernel
theorem dX6_times_50 : decode cX6_times 50 = .ok (.invokestatic 134, 3) := by decide +kernel
theorem dX6_times_53 : decode cX6_times 53 = .ok (.istore 6, 2) := by decide +kernel
theorem dX6_times_55 : decode cX6_times 55 = .ok (.iload_n 2, 1) := by decide +kernel
theorem dX6_times_56 : decode cX6_times 56 = .ok (.ifCond .ne 6, 3) := by decide +kernel
theorem dX6_times_59 : decode cX6_times 59 = .ok (.iload 6, 2) := by decide +kernel
theorem dX6_times_61 : decode cX6_times 61 = .ok (.ireturn, 1) := by decide +kernel
theorem dX6_times_62 : decode cX6_times 62 = .ok (.lload 4, 2) := by decide +kernel
theorem dX6_times_64 : decode cX6_times 64 = .ok (.iload_n 2, 1) := by decide +kernel
theorem dX6_times_65 : decode cX6_times 65 = .ok (.iconst 1, 1) := by decide +kernel
theorem dX6_times_66 : decode cX6_times 66 = .ok (.if_icmp .ne 7, 3) := by decide +kernel
theorem dX6_times_69 : decode cX6_times 69 = .ok (.iconst 0, 1) := by decide +kernel
theorem dX6_times_70 : decode cX6_times 70 = .ok (.goto 7, 3) := by decide +kernel
theorem dX6_times_73 : decode cX6_times 73 = .ok (.iload 6, 2) := by decide +kernel
theorem dX6_times_75 : decode cX6_times 75 = .ok (.iconst 1, 1) := by decide +kernel
theorem dX6_times_76 : decode cX6_times 76 = .ok (.isub, 1) := by decide +kernel
theorem dX6_times_77 : decode cX6_times 77 = .ok (.invokestatic 152, 3) := by decide +kernel
theorem dX6_times_80 : decode cX6_times 80 = .ok (.ireturn, 1) := by decide +kernel
set_option maxRecDepth 20000 in
theorem ggX6_kth_X6_pageAt : GoodIn wsX6_kth wsX6_pageAt := goodIn_r _ [9, 10, 89, 90, 91, 92] rfl rfl
set_option maxRecDepth 20000 in
theorem gX6_kth_X6_pageAt : GoodIn wsX6_kth (wsV RX6 60 RX6 yX6_pageAt wsX6_pageAt) := goodIn_app (goodIn_r _ [5, 6, 7, 8] rfl rfl) ggX6_kth_X6_pageAt
set_option maxRecDepth 20000 in
theorem ggX6_kth_X5_unlikeUpTo : GoodIn wsX6_kth wsX5_unlikeUpTo := goodIn_r _ [15, 16, 17, 18, 19, 20, 21, 22, 23, 24, 25, 26, 108, 109, 110, 111, 112, 93, 94, 95, 96, 97, 98, 99, 100, 101, 102, 103, 104] rfl rfl
set_option maxRecDepth 20000 in
theorem gX6_kth_X5_unlikeUpTo : GoodIn wsX6_kth (wsV RX6 100 RX5 yX5_unlikeUpTo wsX5_unlikeUpTo) := goodIn_app (goodIn_r _ [11, 12, 13, 14] rfl rfl) ggX6_kth_X5_unlikeUpTo
set_option maxRecDepth 20000 in
theorem ggX6_kth_X5_writeKth : GoodIn wsX6_kth wsX5_writeKth := goodIn_r _ [30, 16, 31, 32, 33, 34, 14, 35, 36, 37, 38, 39, 40, 41, 42, 43, 44, 45, 25, 46, 47, 48, 49, 20, 50, 51, 23, 24, 26, 52, 53, 54, 55, 56, 57, 58, 59, 60, 61, 62, 63, 64, 65, 66, 67, 68, 69, 70, 71, 72, 73, 74, 75, 76, 77, 78, 79, 80, 81, 82, 83, 84, 85, 86, 87, 88, 108, 109, 110, 111, 112, 93, 94, 95, 96, 97, 98, 99, 100, 101, 102, 103, 104, 105, 106, 107] rfl rfl
set_option maxRecDepth 20000 in
theorem gX6_kth_X5_writeKth : GoodIn wsX6_kth (wsV RX6 179 RX5 yX5_writeKth wsX5_writeKth) := goodIn_app (goodIn_r _ [27, 28, 29, 14] rfl rfl) ggX6_kth_X5_writeKth
theorem dX6_kth_0 : decode cX6_kth 0 = .ok (.aload_n 0, 1) := by decide +kernel
theorem dX6_kth_1 : decode cX6_kth 1 = .ok (.iload_n 2, 1) := by decide +kernel
theorem dX6_kth_2 : decode cX6_kth 2 = .ok (.invokevirtual 60, 3) := by decide +kernel
theorem dX6_kth_5 : decode cX6_kth 5 = .ok (.astore_n 3, 1) := by decide +kernel
theorem dX6_kth_6 : decode cX6_kth 6 = .ok (.iload_n 1, 1) := by decide +kernel
theorem dX6_kth_7 : decode cX6_kth 7 = .ok (.ifCond .lt 7, 3) := by decide +kernel
theorem dX6_kth_10 : decode cX6_kth 10 = .ok (.aload_n 3, 1) := by decide +kernel
theorem dX6_kth_11 : decode cX6_kth 11 = .ok (.ifnonnull 5, 3) := by decide +kernel
theorem dX6_kth_14 : decode cX6_kth 14 = .ok (.iconst (-1), 1) := by decide +kernel
theorem dX6_kth_15 : decode cX6_kth 15 = .ok (.ireturn, 1) := by decide +kernel
theorem dX6_kth_16 : decode cX6_kth 16 = .ok (.iload_n 1, 1) := by decide +kernel
theorem dX6_kth_17 : decode cX6_kth 17 = .ok (.aload_n 0, 1) := by decide +kernel
theorem dX6_kth_18 : decode cX6_kth 18 = .ok (.getfield 21, 3) := by decide +kernel
theorem dX6_kth_21 : decode cX6_kth 21 = .ok (.aload_n 0, 1) := by decide +kernel
theorem dX6_kth_22 : decode cX6_kth 22 = .ok (.getfield 12, 3) := by decide +kernel
theorem dX6_kth_25 : decode cX6_kth 25 = .ok (.getfield 39, 3) := by decide +kernel
theorem dX6_kth_28 : decode cX6_kth 28 = .ok (.invokevirtual 100, 3) := by decide +kernel
theorem dX6_kth_31 : decode cX6_kth 31 = .ok (.if_icmp .lt 6, 3) := by decide +kernel
theorem dX6_kth_34 : decode cX6_kth 34 = .ok (.bipush (-4), 2) := by decide +kernel
theorem dX6_kth_36 : decode cX6_kth 36 = .ok (.ireturn, 1) := by decide +kernel
theorem dX6_kth_37 : decode cX6_kth 37 = .ok (.aload_n 0, 1) := by decide +kernel
theorem dX6_kth_38 : decode cX6_kth 38 = .ok (.getfield 21, 3) := by decide +kernel
theorem dX6_kth_41 : decode cX6_kth 41 = .ok (.iload_n 1, 1) := by decide +kernel
theorem dX6_kth_42 : decode cX6_kth 42 = .ok (.aload_n 3, 1) := by decide +kernel
theorem dX6_kth_43 : decode cX6_kth 43 = .ok (.invokevirtual 179, 3) := by decide +kernel
theorem dX6_kth_46 : decode cX6_kth 46 = .ok (.aload_n 3, 1) := by decide +kernel
theorem dX6_kth_47 : decode cX6_kth 47 = .ok (.getfield 72, 3) := by decide +kernel
theorem dX6_kth_50 : decode cX6_kth 50 = .ok (.ireturn, 1) := by decide +kernel
set_option maxRecDepth 20000 in
theorem ggX6_rank_X6_pageAt : GoodIn wsX6_rank wsX6_pageAt := goodIn_r _ [8, 9, 81, 82, 83, 84] rfl rfl
set_option maxRecDepth 20000 in
theorem gX6_rank_X6_pageAt : GoodIn wsX6_rank (wsV RX6 60 RX6 yX6_pageAt wsX6_pageAt) := goodIn_app (goodIn_r _ [4, 5, 6, 7] rfl rfl) ggX6_rank_X6_pageAt
set_option maxRecDepth 20000 in
theorem ggX6_rank_X5_stateOf : GoodIn wsX6_rank wsX5_stateOf := goodIn_r _ [14, 15, 16, 17, 18, 19, 20, 21, 22, 23, 24, 25, 26, 27, 28, 29, 30, 31, 32, 33, 34, 35, 36, 37, 38, 39, 40, 41, 42, 43, 44, 45, 46, 47, 78, 79, 80, 85, 86, 87, 88, 89, 90, 91, 92, 93, 94, 95, 96, 97, 98, 99, 100, 101] rfl rfl
set_option maxRecDepth 20000 in
theorem gX6_rank_X5_stateOf : GoodIn wsX6_rank (wsV RX6 175 RX5 yX5_stateOf wsX5_stateOf) := goodIn_app (goodIn_r _ [10, 11, 12, 13] rfl rfl) ggX6_rank_X5_stateOf
set_option maxRecDepth 20000 in
theorem ggX6_rank_X5_wordsAheadOf : GoodIn wsX6_rank wsX5_wordsAheadOf := goodIn_r _ [51, 15, 16, 52, 53, 54, 55, 13, 56, 57, 58, 59, 60, 61, 62, 63, 64, 65, 66, 29, 67, 68, 69, 70, 34, 71, 72, 47, 28, 30, 73, 74, 75, 76, 77, 31, 32, 33, 35, 36, 37, 38, 39, 40, 41, 42, 43, 44, 45, 46, 17, 18, 19, 20, 21, 22, 23, 24, 25, 26, 27, 78, 79, 80, 85, 86, 87, 88, 89, 90, 91, 92, 93, 94, 95, 96, 97, 98, 99, 100, 101] rfl rfl
set_option maxRecDepth 20000 in
theorem gX6_rank_X5_wordsAheadOf : GoodIn wsX6_rank (wsV RX6 183 RX5 yX5_wordsAheadOf wsX5_wordsAheadOf) := goodIn_app (goodIn_r _ [48, 49, 50, 13] rfl rfl) ggX6_rank_X5_wordsAheadOf
theorem dX6_rank_0 : decode cX6_rank 0 = .ok (.aload_n 0, 1) := by decide +kernel
theorem dX6_rank_1 : decode cX6_rank 1 = .ok (.iload_n 1, 1) := by decide +kernel
theorem dX6_rank_2 : decode cX6_rank 2 = .ok (.invokevirtual 60, 3) := by decide +kernel
theorem dX6_rank_5 : decode cX6_rank 5 = .ok (.astore_n 2, 1) := by decide +kernel
theorem dX6_rank_6 : decode cX6_rank 6 = .ok (.aload_n 2, 1) := by decide +kernel
theorem dX6_rank_7 : decode cX6_rank 7 = .ok (.ifnonnull 5, 3) := by decide +kernel
theorem dX6_rank_10 : decode cX6_rank 10 = .ok (.iconst (-1), 1) := by decide +kernel
theorem dX6_rank_11 : decode cX6_rank 11 = .ok (.ireturn, 1) := by decide +kernel
theorem dX6_rank_12 : decode cX6_rank 12 = .ok (.aload_n 2, 1) := by decide +kernel
theorem dX6_rank_13 : decode cX6_rank 13 = .ok (.getfield 64, 3) := by decide +kernel
theorem dX6_rank_16 : decode cX6_rank 16 = .ok (.ifCond .ne 6, 3) := by decide +kernel
theorem dX6_rank_19 : decode cX6_rank 19 = .ok (.bipush (-11), 2) := by decide +kernel
theorem dX6_rank_21 : decode cX6_rank 21 = .ok (.ireturn, 1) := by decide +kernel
theorem dX6_rank_22 : decode cX6_rank 22 = .ok (.aload_n 2, 1) := by decide +kernel
theorem dX6_rank_23 : decode cX6_rank 23 = .ok (.getfield 72, 3) := by decide +kernel
theorem dX6_rank_26 : decode cX6_rank 26 = .ok (.ifCond .eq 16, 3) := by decide +kernel
theorem dX6_rank_29 : decode cX6_rank 29 = .ok (.aload_n 0, 1) := by decide +kernel
theorem dX6_rank_30 : decode cX6_rank 30 = .ok (.getfield 21, 3) := by decide +kernel
theorem dX6_rank_33 : decode cX6_rank 33 = .ok (.aload_n 2, 1) := by decide +kernel
theorem dX6_rank_34 : decode cX6_rank 34 = .ok (.invokevirtual 175, 3) := by decide +kernel
theorem dX6_rank_37 : decode cX6_rank 37 = .ok (.bipush (-4), 2) := by decide +kernel
theorem dX6_rank_39 : decode cX6_rank 39 = .ok (.if_icmp .ne 6, 3) := by decide +kernel
theorem dX6_rank_42 : decode cX6_rank 42 = .ok (.bipush (-4), 2) := by decide +kernel
theorem dX6_rank_44 : decode cX6_rank 44 = .ok (.ireturn, 1) := by decide +kernel
theorem dX6_rank_45 : decode cX6_rank 45 = .ok (.aload_n 0, 1) := by decide +kernel
theorem dX6_rank_46 : decode cX6_rank 46 = .ok (.getfield 21, 3) := by decide +kernel
theorem dX6_rank_49 : decode cX6_rank 49 = .ok (.aload_n 2, 1) := by decide +kernel
theorem dX6_rank_50 : decode cX6_rank 50 = .ok (.invokevirtual 183, 3) := by decide +kernel
theorem dX6_rank_53 : decode cX6_rank 53 = .ok (.ireturn, 1) := by decide +kernel
set_option maxRecDepth 20000 in
theorem ggX6_absent_X6_pageAt : GoodIn wsX6_absent wsX6_pageAt := goodIn_r _ [7, 8, 82, 83, 84, 85] rfl rfl
set_option maxRecDepth 20000 in
theorem gX6_absent_X6_pageAt : GoodIn wsX6_absent (wsV RX6 60 RX6 yX6_pageAt wsX6_pageAt) := goodIn_app (goodIn_r _ [3, 4, 5, 6] rfl rfl) ggX6_absent_X6_pageAt
set_option maxRecDepth 20000 in
theorem ggX6_absent_X5_writeAbsent : GoodIn wsX6_absent wsX5_writeAbsent := goodIn_r _ [13, 14, 15, 16, 17, 18, 19, 12, 20, 21, 22, 23, 24, 25, 26, 27, 28, 29, 30, 31, 32, 33, 34, 35, 36, 37, 38, 39, 40, 41, 42, 43, 44, 45, 46, 47, 48, 49, 50, 51, 52, 53, 54, 55, 56, 57, 58, 59, 60, 61, 62, 63, 64, 65, 66, 67, 68, 69, 70, 71, 72, 73, 74, 75, 76, 77, 78, 79, 80, 81, 89, 90, 91, 92, 93, 94, 95, 96, 97, 98, 99, 100, 101, 102, 103, 104, 105, 86, 87, 88] rfl rfl
set_option maxRecDepth 20000 in
theorem gX6_absent_X5_writeAbsent : GoodIn wsX6_absent (wsV RX6 186 RX5 yX5_writeAbsent wsX5_writeAbsent) := goodIn_app (goodIn_r _ [9, 10, 11, 12] rfl rfl) ggX6_absent_X5_writeAbsent
theorem dX6_absent_0 : decode cX6_absent 0 = .ok (.aload_n 0, 1) := by decide +kernel
theorem dX6_absent_1 : decode cX6_absent 1 = .ok (.iload_n 1, 1) := by decide +kernel
theorem dX6_absent_2 : decode cX6_absent 2 = .ok (.invokevirtual 60, 3) := by decide +kernel
theorem dX6_absent_5 : decode cX6_absent 5 = .ok (.astore_n 2, 1) := by decide +kernel
theorem dX6_absent_6 : decode cX6_absent 6 = .ok (.aload_n 2, 1) := by decide +kernel
theorem dX6_absent_7 : decode cX6_absent 7 = .ok (.ifnonnull 5, 3) := by decide +kernel
theorem dX6_absent_10 : decode cX6_absent 10 = .ok (.iconst (-1), 1) := by decide +kernel
theorem dX6_absent_11 : decode cX6_absent 11 = .ok (.ireturn, 1) := by decide +kernel
theorem dX6_absent_12 : decode cX6_absent 12 = .ok (.aload_n 0, 1) := by decide +kernel
theorem dX6_absent_13 : decode cX6_absent 13 = .ok (.getfield 21, 3) := by decide +kernel
theorem dX6_absent_16 : decode cX6_absent 16 = .ok (.aload_n 2, 1) := by decide +kernel
theorem dX6_absent_17 : decode cX6_absent 17 = .ok (.invokevirtual 186, 3) := by decide +kernel
theorem dX6_absent_20 : decode cX6_absent 20 = .ok (.aload_n 2, 1) := by decide +kernel
theorem dX6_absent_21 : decode cX6_absent 21 = .ok (.getfield 72, 3) := by decide +kernel
theorem dX6_absent_24 : decode cX6_absent 24 = .ok (.ireturn, 1) := by decide +kernel
set_option maxRecDepth 20000 in
theorem ggX6_missing_X5_wordsOfLength : GoodIn wsX6_missing wsX5_wordsOfLength := goodIn_r _ [9, 10, 11, 12, 13, 14, 15, 16, 17, 18, 19, 20, 21, 38, 39, 40, 41, 42, 26, 27, 28, 29, 30, 31, 32, 33, 34, 35, 36, 37] rfl rfl
set_option maxRecDepth 20000 in
theorem gX6_missing_X5_wordsOfLength : GoodIn wsX6_missing (wsV RX6 190 RX5 yX5_wordsOfLength wsX5_wordsOfLength) := goodIn_app (goodIn_r _ [5, 6, 7, 8] rfl rfl) ggX6_missing_X5_wordsOfLength
theorem dX6_missing_0 : decode cX6_missing 0 = .ok (.iload_n 1, 1) := by decide +kernel
theorem dX6_missing_1 : decode cX6_missing 1 = .ok (.ifCond .lt 9, 3) := by decide +kernel
theorem dX6_missing_4 : decode cX6_missing 4 = .ok (.iload_n 1, 1) := by decide +kernel
theorem dX6_missing_5 : decode cX6_missing 5 = .ok (.bipush 60, 2) := by decide +kernel
theorem dX6_missing_7 : decode cX6_missing 7 = .ok (.if_icmp .le 5, 3) := by decide +kernel
theorem dX6_missing_10 : decode cX6_missing 10 = .ok (.iconst (-1), 1) := by decide +kernel
theorem dX6_missing_11 : decode cX6_missing 11 = .ok (.ireturn, 1) := by decide +kernel
theorem dX6_missing_12 : decode cX6_missing 12 = .ok (.lconst 1, 1) := by decide +kernel
theorem dX6_missing_13 : decode cX6_missing 13 = .ok (.lstore_n 2, 1) := by decide +kernel
theorem dX6_missing_14 : decode cX6_missing 14 = .ok (.iconst 0, 1) := by decide +kernel
theorem dX6_missing_15 : decode cX6_missing 15 = .ok (.istore 4, 2) := by decide +kernel
theorem dX6_missing_17 : decode cX6_missing 17 = .ok (.iload 4, 2) := by decide +kernel
theorem dX6_missing_19 : decode cX6_missing 19 = .ok (.iload_n 1, 1) := by decide +kernel
theorem dX6_missing_20 : decode cX6_missing 20 = .ok (.if_icmp .ge 31, 3) := by decide +kernel
theorem dX6_missing_23 : decode cX6_missing 23 = .ok (.lload_n 2, 1) := by decide +kernel
theorem dX6_missing_24 : decode cX6_missing 24 = .ok (.aload_n 0, 1) := by decide +kernel
theorem dX6_missing_25 : decode cX6_missing 25 = .ok (.getfield 12, 3) := by decide +kernel
theorem dX6_missing_28 : decode cX6_missing 28 = .ok (.getfield 90, 3) := by decide +kernel
theorem dX6_missing_31 : decode cX6_missing 31 = .ok (.i2l, 1) := by decide +kernel
theorem dX6_missing_32 : decode cX6_missing 32 = .ok (.lmul, 1) := by decide +kernel
theorem dX6_missing_33 : decode cX6_missing 33 = .ok (.lstore_n 2, 1) := by decide +kernel
theorem dX6_missing_34 : decode cX6_missing 34 = .ok (.lload_n 2, 1) := by decide +kernel
theorem dX6_missing_35 : decode cX6_missing 35 = .ok (.ldc2_w 83, 3) := by decide +kernel
theorem dX6_missing_38 : decode cX6_missing 38 = .ok (.lcmp, 1) := by decide +kernel
theorem dX6_missing_39 : decode cX6_missing 39 = .ok (.ifCond .le 6, 3) := by decide +kernel
theorem dX6_missing_42 : decode cX6_missing 42 = .ok (.bipush (-13), 2) := by decide +kernel
theorem dX6_missing_44 : decode cX6_missing 44 = .ok (.ireturn, 1) := by decide +kernel
theorem dX6_missing_45 : decode cX6_missing 45 = .ok (.iinc 4 1, 3) := by decide +kernel
theorem dX6_missing_48 : decode cX6_missing 48 = .ok (.goto (-31), 3) := by decide +kernel
theorem dX6_missing_51 : decode cX6_missing 51 = .ok (.lload_n 2, 1) := by decide +kernel
theorem dX6_missing_52 : decode cX6_missing 52 = .ok (.aload_n 0, 1) := by decide +kernel
theorem dX6_missing_53 : decode cX6_missing 53 = .ok (.getfield 21, 3) := by decide +kernel
theorem dX6_missing_56 : decode cX6_missing 56 = .ok (.iload_n 1, 1) := by decide +kernel
theorem dX6_missing_57 : decode cX6_missing 57 = .ok (.invokevirtual 190, 3) := by decide +kernel
theorem dX6_missing_60 : decode cX6_missing 60 = .ok (.i2l, 1) := by decide +kernel
theorem dX6_missing_61 : decode cX6_missing 61 = .ok (.lsub, 1) := by decide +kernel
theorem dX6_missing_62 : decode cX6_missing 62 = .ok (.l2i, 1) := by decide +kernel
theorem dX6_missing_63 : decode cX6_missing 63 = .ok (.ireturn, 1) := by decide +kernel
set_option maxRecDepth 20000 in
theorem ggX6_often_X6_pageAt : GoodIn wsX6_often wsX6_pageAt := goodIn_r _ [8, 9, 94, 95, 96, 97] rfl rfl
set_option maxRecDepth 20000 in
theorem gX6_often_X6_pageAt : GoodIn wsX6_often (wsV RX6 60 RX6 yX6_pageAt wsX6_pageAt) := goodIn_app (goodIn_r _ [4, 5, 6, 7] rfl rfl) ggX6_often_X6_pageAt
set_option maxRecDepth 20000 in
theorem ggX6_often_X2_endsOf : GoodIn wsX6_often wsX2_endsOf := goodIn_r _ [14, 15, 16, 17, 18, 13, 19, 20, 21, 22, 23, 24, 101, 102, 103, 104, 105, 106, 107, 108, 109, 110, 111, 112] rfl rfl
set_option maxRecDepth 20000 in
theorem gX6_often_X2_endsOf : GoodIn wsX6_often (wsV RX6 130 RX2 yX2_endsOf wsX2_endsOf) := goodIn_app (goodIn_r _ [10, 11, 12, 13] rfl rfl) ggX6_often_X2_endsOf
set_option maxRecDepth 20000 in
theorem ggX6_often_J13_bitCount_95d88 : GoodIn wsX6_often wsJ13_bitCount_95d88 := goodIn_r _ [28, 29, 30, 31] rfl rfl
set_option maxRecDepth 20000 in
theorem gX6_often_J13_bitCount_95d88 : GoodIn wsX6_often (va_wsS RX6 134 yJ13_bitCount_95d88 wsJ13_bitCount_95d88) := goodIn_app (goodIn_r _ [25, 26, 27] rfl rfl) ggX6_often_J13_bitCount_95d88
set_option maxRecDepth 20000 in
theorem ggX6_often_X5_longestStateWith : GoodIn wsX6_often wsX5_longestStateWith := goodIn_r _ [36, 37, 38, 39, 40, 41, 13, 42, 43, 44, 45, 23, 46, 47, 11, 12, 14, 15, 16, 17, 18, 19, 20, 21, 22, 24, 48, 26, 27, 28, 29, 30, 31, 49, 50, 51, 35, 52, 53, 54, 55, 56, 57, 58, 59, 60, 61, 62, 63, 64, 65, 66, 67, 113, 114, 115, 116, 117, 101, 102, 103, 104, 105, 106, 107, 108, 109, 110, 111, 112] rfl rfl
set_option maxRecDepth 20000 in
theorem gX6_often_X5_longestStateWith : GoodIn wsX6_often (wsV RX6 193 RX5 yX5_longestStateWith wsX5_longestStateWith) := goodIn_app (goodIn_r _ [32, 33, 34, 35] rfl rfl) ggX6_often_X5_longestStateWith
set_option maxRecDepth 20000 in
theorem ggX6_often_X2_firstEndOf : GoodIn wsX6_often wsX2_firstEndOf := goodIn_r _ [56, 57, 11, 12, 13, 14, 15, 16, 17, 18, 19, 20, 21, 22, 23, 24, 58, 59, 60, 61, 62, 26, 27, 28, 29, 30, 31, 101, 102, 103, 104, 105, 106, 107, 108, 109, 110, 111, 112] rfl rfl
set_option maxRecDepth 20000 in
theorem gX6_often_X2_firstEndOf : GoodIn wsX6_often (wsV RX6 139 RX2 yX2_firstEndOf wsX2_firstEndOf) := goodIn_app (goodIn_r _ [68, 54, 55, 13] rfl rfl) ggX6_often_X2_firstEndOf
set_option maxRecDepth 20000 in
theorem ggX6_often_X2_longestOf : GoodIn wsX6_often wsX2_longestOf := goodIn_r _ [42, 43, 44, 45, 23, 46, 101, 102, 103, 104, 105, 106, 107, 108, 109, 110, 111, 112] rfl rfl
set_option maxRecDepth 20000 in
theorem gX6_often_X2_longestOf : GoodIn wsX6_often (wsV RX6 121 RX2 yX2_longestOf wsX2_longestOf) := goodIn_app (goodIn_r _ [69, 40, 41, 13] rfl rfl) ggX6_often_X2_longestOf
set_option maxRecDepth 20000 in
theorem ggX6_often_X4_copyWord : GoodIn wsX6_often wsX4_copyWord := goodIn_r _ [74, 75, 76, 77, 73, 78, 79, 80, 81, 82, 83, 84, 85, 86, 87, 23, 88, 89, 64, 65, 13, 66, 67, 44, 45, 46, 90, 91, 92, 93, 98, 99, 100, 101, 102, 103, 104, 105, 106, 107, 108, 109, 110, 111, 112] rfl rfl
set_option maxRecDepth 20000 in
theorem gX6_often_X4_copyWord : GoodIn wsX6_often (wsV RX6 196 RX4 yX4_copyWord wsX4_copyWord) := goodIn_app (goodIn_r _ [70, 71, 72, 73] rfl rfl) ggX6_often_X4_copyWord
theorem dX6_often_0 : decode cX6_often 0 = .ok (.aload_n 0, 1) := by decide +kernel
theorem dX6_often_1 : decode cX6_often 1 = .ok (.iload_n 2, 1) := by decide +kernel
theorem dX6_often_2 : decode cX6_often 2 = .ok (.invokevirtual 60, 3) := by decide +kernel
theorem dX6_often_5 : decode cX6_often 5 = .ok (.astore_n 3, 1) := by decide +kernel
theorem dX6_often_6 : decode cX6_often 6 = .ok (.iload_n 1, 1) := by decide +kernel
theorem dX6_often_7 : decode cX6_often 7 = .ok (.iconst 1, 1) := by decide +kernel
theorem dX6_often_8 : decode cX6_often 8 = .ok (.if_icmp .lt 7, 3) := by decide +kernel
theorem dX6_often_11 : decode cX6_often 11 = .ok (.aload_n 3, 1) := by decide +kernel
theorem dX6_often_12 : decode cX6_often 12 = .ok (.ifnonnull 5, 3) := by decide +kernel
theorem dX6_often_15 : decode cX6_often 15 = .ok (.iconst (-1), 1) := by decide +kernel
theorem dX6_often_16 : decode cX6_often 16 = .ok (.ireturn, 1) := by decide +kernel
theorem dX6_often_17 : decode cX6_often 17 = .ok (.iload_n 1, 1) := by decide +kernel
theorem dX6_often_18 : decode cX6_often 18 = .ok (.aload_n 0, 1) := by decide +kernel
theorem dX6_often_19 : decode cX6_often 19 = .ok (.getfield 12, 3) := by decide +kernel
theorem dX6_often_22 : decode cX6_often 22 = .ok (.iconst 0, 1) := by decide +kernel
theorem dX6_often_23 : decode cX6_often 23 = .ok (.invokevirtual 130, 3) := by decide +kernel
theorem dX6_often_26 : decode cX6_often 26 = .ok (.invokestatic 134, 3) := by decide +kernel
theorem dX6_often_29 : decode cX6_often 29 = .ok (.if_icmp .le 6, 3) := by decide +kernel
theorem dX6_often_32 : decode cX6_often 32 = .ok (.bipush (-4), 2) := by decide +kernel
theorem dX6_often_34 : decode cX6_often 34 = .ok (.ireturn, 1) := by decide +kernel
theorem dX6_often_35 : decode cX6_often 35 = .ok (.aload_n 0, 1) := by decide +kernel
theorem dX6_often_36 : decode cX6_often 36 = .ok (.getfield 21, 3) := by decide +kernel
theorem dX6_often_39 : decode cX6_often 39 = .ok (.iload_n 1, 1) := by decide +kernel
theorem dX6_often_40 : decode cX6_often 40 = .ok (.invokevirtual 193, 3) := by decide +kernel
theorem dX6_often_43 : decode cX6_often 43 = .ok (.istore 4, 2) := by decide +kernel
theorem dX6_often_45 : decode cX6_often 45 = .ok (.aload_n 3, 1) := by decide +kernel
theorem dX6_often_46 : decode cX6_often 46 = .ok (.aload_n 0, 1) := by decide +kernel
theorem dX6_often_47 : decode cX6_often 47 = .ok (.getfield 12, 3) := by decide +kernel
theorem dX6_often_50 : decode cX6_often 50 = .ok (.aload_n 0, 1) := by decide +kernel
theorem dX6_often_51 : decode cX6_often 51 = .ok (.getfield 12, 3) := by decide +kernel
theorem dX6_often_54 : decode cX6_often 54 = .ok (.iload 4, 2) := by decide +kernel
theorem dX6_often_56 : decode cX6_often 56 = .ok (.invokevirtual 139, 3) := by decide +kernel
theorem dX6_often_59 : decode cX6_often 59 = .ok (.aload_n 0, 1) := by decide +kernel
theorem dX6_often_60 : decode cX6_often 60 = .ok (.getfield 12, 3) := by decide +kernel
theorem dX6_often_63 : decode cX6_often 63 = .ok (.iload 4, 2) := by decide +kernel
theorem dX6_often_65 : decode cX6_often 65 = .ok (.invokevirtual 121, 3) := by decide +kernel
theorem dX6_often_68 : decode cX6_often 68 = .ok (.invokevirtual 196, 3) := by decide +kernel
theorem dX6_often_71 : decode cX6_often 71 = .ok (.aload_n 3, 1) := by decide +kernel
theorem dX6_often_72 : decode cX6_often 72 = .ok (.getfield 72, 3) := by decide +kernel
theorem dX6_often_75 : decode cX6_often 75 = .ok (.ireturn, 1) := by decide +kernel
set_option maxRecDepth 20000 in
theorem ggX6_twice_X5_firstTwice : GoodIn wsX6_twice wsX5_firstTwice := goodIn_r _ [6, 7, 8, 9, 10, 11, 12, 13, 14, 15, 16, 17, 18, 23, 24, 25, 26, 27, 28, 29, 30, 31, 32, 33, 34, 35, 36, 37, 38, 39] rfl rfl
set_option maxRecDepth 20000 in
theorem gX6_twice_X5_firstTwice : GoodIn wsX6_twice (wsV RX6 200 RX5 yX5_firstTwice wsX5_firstTwice) := goodIn_app (goodIn_r _ [2, 3, 4, 5] rfl rfl) ggX6_twice_X5_firstTwice
theorem dX6_twice_0 : decode cX6_twice 0 = .ok (.iload_n 1, 1) := by decide +kernel
theorem dX6_twice_1 : decode cX6_twice 1 = .ok (.iconst 1, 1) := by decide +kernel
theorem dX6_twice_2 : decode cX6_twice 2 = .ok (.if_icmp .lt 9, 3) := by decide +kernel
theorem dX6_twice_5 : decode cX6_twice 5 = .ok (.iload_n 1, 1) := by decide +kernel
theorem dX6_twice_6 : decode cX6_twice 6 = .ok (.bipush 60, 2) := by decide +kernel
theorem dX6_twice_8 : decode cX6_twice 8 = .ok (.if_icmp .le 5, 3) := by decide +kernel
theorem dX6_twice_11 : decode cX6_twice 11 = .ok (.iconst (-1), 1) := by decide +kernel
theorem dX6_twice_12 : decode cX6_twice 12 = .ok (.ireturn, 1) := by decide +kernel
theorem dX6_twice_13 : decode cX6_twice 13 = .ok (.aload_n 0, 1) := by decide +kernel
theorem dX6_twice_14 : decode cX6_twice 14 = .ok (.getfield 21, 3) := by decide +kernel
theorem dX6_twice_17 : decode cX6_twice 17 = .ok (.iload_n 1, 1) := by decide +kernel
theorem dX6_twice_18 : decode cX6_twice 18 = .ok (.invokevirtual 200, 3) := by decide +kernel
theorem dX6_twice_21 : decode cX6_twice 21 = .ok (.ireturn, 1) := by decide +kernel
set_option maxRecDepth 20000 in
theorem ggX6_unlike_X5_unlikeUpTo : GoodIn wsX6_unlike wsX5_unlikeUpTo := goodIn_r _ [8, 9, 10, 11, 12, 13, 14, 15, 16, 17, 18, 19, 36, 37, 38, 39, 40, 24, 25, 26, 27, 28, 29, 30, 31, 32, 33, 34, 35] rfl rfl
set_option maxRecDepth 20000 in
theorem gX6_unlike_X5_unlikeUpTo : GoodIn wsX6_unlike (wsV RX6 100 RX5 yX5_unlikeUpTo wsX5_unlikeUpTo) := goodIn_app (goodIn_r _ [4, 5, 6, 7] rfl rfl) ggX6_unlike_X5_unlikeUpTo
theorem dX6_unlike_0 : decode cX6_unlike 0 = .ok (.iload_n 1, 1) := by decide +kernel
theorem dX6_unlike_1 : decode cX6_unlike 1 = .ok (.ifCond .lt 14, 3) := by decide +kernel
theorem dX6_unlike_4 : decode cX6_unlike 4 = .ok (.iload_n 1, 1) := by decide +kernel
theorem dX6_unlike_5 : decode cX6_unlike 5 = .ok (.aload_n 0, 1) := by decide +kernel
theorem dX6_unlike_6 : decode cX6_unlike 6 = .ok (.getfield 12, 3) := by decide +kernel
theorem dX6_unlike_9 : decode cX6_unlike 9 = .ok (.getfield 39, 3) := by decide +kernel
theorem dX6_unlike_12 : decode cX6_unlike 12 = .ok (.if_icmp .le 5, 3) := by decide +kernel
theorem dX6_unlike_15 : decode cX6_unlike 15 = .ok (.iconst (-1), 1) := by decide +kernel
theorem dX6_unlike_16 : decode cX6_unlike 16 = .ok (.ireturn, 1) := by decide +kernel
theorem dX6_unlike_17 : decode cX6_unlike 17 = .ok (.aload_n 0, 1) := by decide +kernel
theorem dX6_unlike_18 : decode cX6_unlike 18 = .ok (.getfield 21, 3) := by decide +kernel
theorem dX6_unlike_21 : decode cX6_unlike 21 = .ok (.iload_n 1, 1) := by decide +kernel
theorem dX6_unlike_22 : decode cX6_unlike 22 = .ok (.invokevirtual 100, 3) := by decide +kernel
theorem dX6_unlike_25 : decode cX6_unlike 25 = .ok (.ireturn, 1) := by decide +kernel
set_option maxRecDepth 20000 in
theorem ggX6_single_X6_pageAt : GoodIn wsX6_single wsX6_pageAt := goodIn_r _ [8, 9, 106, 107, 108, 109] rfl rfl
set_option maxRecDepth 20000 in
theorem gX6_single_X6_pageAt : GoodIn wsX6_single (wsV RX6 60 RX6 yX6_pageAt wsX6_pageAt) := goodIn_app (goodIn_r _ [4, 5, 6, 7] rfl rfl) ggX6_single_X6_pageAt
set_option maxRecDepth 20000 in
theorem ggX6_single_X5_shortestStateAlone : GoodIn wsX6_single wsX5_shortestStateAlone := goodIn_r _ [14, 15, 16, 17, 18, 19, 20, 21, 22, 23, 24, 25, 26, 27, 28, 29, 30, 31, 32, 33, 34, 35, 36, 37, 38, 39, 40, 41, 42, 43, 44, 45, 46, 47, 48, 49, 50, 51, 52, 53, 54, 55, 56, 57, 58, 59, 60, 61, 62, 63, 13, 64, 65, 66, 67, 68, 69, 70, 71, 72, 73, 74, 75, 76, 77, 78, 79, 113, 114, 115, 116, 117, 118, 119, 120, 121, 122, 123, 124, 125, 126, 127, 128, 129] rfl rfl
set_option maxRecDepth 20000 in
theorem gX6_single_X5_shortestStateAlone : GoodIn wsX6_single (wsV RX6 203 RX5 yX5_shortestStateAlone wsX5_shortestStateAlone) := goodIn_app (goodIn_r _ [10, 11, 12, 13] rfl rfl) ggX6_single_X5_shortestStateAlone
set_option maxRecDepth 20000 in
theorem ggX6_single_X2_firstEndOf : GoodIn wsX6_single wsX2_firstEndOf := goodIn_r _ [68, 69, 47, 48, 20, 49, 50, 32, 33, 34, 35, 36, 51, 52, 39, 53, 70, 71, 72, 73, 74, 55, 56, 57, 58, 59, 60, 118, 119, 120, 121, 122, 123, 124, 125, 126, 127, 128, 129] rfl rfl
set_option maxRecDepth 20000 in
theorem gX6_single_X2_firstEndOf : GoodIn wsX6_single (wsV RX6 139 RX2 yX2_firstEndOf wsX2_firstEndOf) := goodIn_app (goodIn_r _ [80, 66, 67, 20] rfl rfl) ggX6_single_X2_firstEndOf
set_option maxRecDepth 20000 in
theorem ggX6_single_X2_shortestOf : GoodIn wsX6_single wsX2_shortestOf := goodIn_r _ [26, 27, 28, 29, 20, 30, 31, 32, 33, 34, 35, 36, 37, 38, 39, 40, 41, 42, 43, 44, 45, 118, 119, 120, 121, 122, 123, 124, 125, 126, 127, 128, 129] rfl rfl
set_option maxRecDepth 20000 in
theorem gX6_single_X2_shortestOf : GoodIn wsX6_single (wsV RX6 124 RX2 yX2_shortestOf wsX2_shortestOf) := goodIn_app (goodIn_r _ [81, 24, 25, 20] rfl rfl) ggX6_single_X2_shortestOf
set_option maxRecDepth 20000 in
theorem ggX6_single_X4_copyWord : GoodIn wsX6_single wsX4_copyWord := goodIn_r _ [86, 87, 88, 89, 85, 90, 91, 92, 93, 94, 95, 96, 97, 98, 99, 39, 100, 101, 76, 77, 20, 78, 79, 37, 38, 40, 102, 103, 104, 105, 110, 111, 112, 118, 119, 120, 121, 122, 123, 124, 125, 126, 127, 128, 129] rfl rfl
set_option maxRecDepth 20000 in
theorem gX6_single_X4_copyWord : GoodIn wsX6_single (wsV RX6 196 RX4 yX4_copyWord wsX4_copyWord) := goodIn_app (goodIn_r _ [82, 83, 84, 85] rfl rfl) ggX6_single_X4_copyWord
theorem dX6_single_0 : decode cX6_single 0 = .ok (.aload_n 0, 1) := by decide +kernel
theorem dX6_single_1 : decode cX6_single 1 = .ok (.iload_n 1, 1) := by decide +kernel
theorem dX6_single_2 : decode cX6_single 2 = .ok (.invokevirtual 60, 3) := by decide +kernel
theorem dX6_single_5 : decode cX6_single 5 = .ok (.astore_n 2, 1) := by decide +kernel
theorem dX6_single_6 : decode cX6_single 6 = .ok (.aload_n 2, 1) := by decide +kernel
theorem dX6_single_7 : decode cX6_single 7 = .ok (.ifnonnull 5, 3) := by decide +kernel
theorem dX6_single_10 : decode cX6_single 10 = .ok (.iconst (-1), 1) := by decide +kernel
theorem dX6_single_11 : decode cX6_single 11 = .ok (.ireturn, 1) := by decide +kernel
theorem dX6_single_12 : decode cX6_single 12 = .ok (.aload_n 0, 1) := by decide +kernel
theorem dX6_single_13 : decode cX6_single 13 = .ok (.getfield 21, 3) := by decide +kernel
theorem dX6_single_16 : decode cX6_single 16 = .ok (.invokevirtual 203, 3) := by decide +kernel
theorem dX6_single_19 : decode cX6_single 19 = .ok (.istore_n 3, 1) := by decide +kernel
theorem dX6_single_20 : decode cX6_single 20 = .ok (.aload_n 2, 1) := by decide +kernel
theorem dX6_single_21 : decode cX6_single 21 = .ok (.aload_n 0, 1) := by decide +kernel
theorem dX6_single_22 : decode cX6_single 22 = .ok (.getfield 12, 3) := by decide +kernel
theorem dX6_single_25 : decode cX6_single 25 = .ok (.aload_n 0, 1) := by decide +kernel
theorem dX6_single_26 : decode cX6_single 26 = .ok (.getfield 12, 3) := by decide +kernel
theorem dX6_single_29 : decode cX6_single 29 = .ok (.iload_n 3, 1) := by decide +kernel
theorem dX6_single_30 : decode cX6_single 30 = .ok (.invokevirtual 139, 3) := by decide +kernel
theorem dX6_single_33 : decode cX6_single 33 = .ok (.aload_n 0, 1) := by decide +kernel
theorem dX6_single_34 : decode cX6_single 34 = .ok (.getfield 12, 3) := by decide +kernel
theorem dX6_single_37 : decode cX6_single 37 = .ok (.iload_n 3, 1) := by decide +kernel
theorem dX6_single_38 : decode cX6_single 38 = .ok (.invokevirtual 124, 3) := by decide +kernel
theorem dX6_single_41 : decode cX6_single 41 = .ok (.invokevirtual 196, 3) := by decide +kernel
theorem dX6_single_44 : decode cX6_single 44 = .ok (.aload_n 2, 1) := by decide +kernel
theorem dX6_single_45 : decode cX6_single 45 = .ok (.getfield 72, 3) := by decide +kernel
theorem dX6_single_48 : decode cX6_single 48 = .ok (.ireturn, 1) := by decide +kernel
set_option maxRecDepth 20000 in
theorem ggX6_gap_X6_pageAt : GoodIn wsX6_gap wsX6_pageAt := goodIn_r _ [8, 9, 80, 81, 82, 83] rfl rfl
set_option maxRecDepth 20000 in
theorem gX6_gap_X6_pageAt : GoodIn wsX6_gap (wsV RX6 60 RX6 yX6_pageAt wsX6_pageAt) := goodIn_app (goodIn_r _ [4, 5, 6, 7] rfl rfl) ggX6_gap_X6_pageAt
set_option maxRecDepth 20000 in
theorem ggX6_gap_X5_stateOf : GoodIn wsX6_gap wsX5_stateOf := goodIn_r _ [14, 15, 16, 17, 18, 19, 20, 21, 22, 23, 24, 25, 26, 27, 28, 29, 30, 31, 32, 33, 34, 35, 36, 37, 38, 39, 40, 41, 42, 43, 44, 45, 46, 47, 77, 78, 79, 84, 85, 86, 87, 88, 89, 90, 91, 92, 93, 94, 95, 96, 97, 98, 99, 100] rfl rfl
set_option maxRecDepth 20000 in
theorem gX6_gap_X5_stateOf : GoodIn wsX6_gap (wsV RX6 175 RX5 yX5_stateOf wsX5_stateOf) := goodIn_app (goodIn_r _ [10, 11, 12, 13] rfl rfl) ggX6_gap_X5_stateOf
set_option maxRecDepth 20000 in
theorem ggX6_gap_X2_endsOf : GoodIn wsX6_gap wsX2_endsOf := goodIn_r _ [51, 52, 37, 38, 39, 34, 40, 41, 53, 54, 29, 55, 89, 90, 91, 92, 93, 94, 95, 96, 97, 98, 99, 100] rfl rfl
set_option maxRecDepth 20000 in
theorem gX6_gap_X2_endsOf : GoodIn wsX6_gap (wsV RX6 130 RX2 yX2_endsOf wsX2_endsOf) := goodIn_app (goodIn_r _ [48, 49, 50, 34] rfl rfl) ggX6_gap_X2_endsOf
set_option maxRecDepth 20000 in
theorem ggX6_gap_X0_widestGap : GoodIn wsX6_gap wsX0_widestGap := goodIn_r _ [59, 60, 61, 62, 63, 64, 65, 66, 67, 68, 69, 70, 71, 72, 58, 73, 74, 75, 76] rfl rfl
set_option maxRecDepth 20000 in
theorem gX6_gap_X0_widestGap : GoodIn wsX6_gap (va_wsS RX6 206 yX0_widestGap wsX0_widestGap) := goodIn_app (goodIn_r _ [56, 57, 58] rfl rfl) ggX6_gap_X0_widestGap
theorem dX6_gap_0 : decode cX6_gap 0 = .ok (.aload_n 0, 1) := by decide +kernel
theorem dX6_gap_1 : decode cX6_gap 1 = .ok (.iload_n 1, 1) := by decide +kernel
theorem dX6_gap_2 : decode cX6_gap 2 = .ok (.invokevirtual 60, 3) := by decide +kernel
theorem dX6_gap_5 : decode cX6_gap 5 = .ok (.astore_n 2, 1) := by decide +kernel
theorem dX6_gap_6 : decode cX6_gap 6 = .ok (.aload_n 2, 1) := by decide +kernel
theorem dX6_gap_7 : decode cX6_gap 7 = .ok (.ifnonnull 5, 3) := by decide +kernel
theorem dX6_gap_10 : decode cX6_gap 10 = .ok (.iconst (-1), 1) := by decide +kernel
theorem dX6_gap_11 : decode cX6_gap 11 = .ok (.ireturn, 1) := by decide +kernel
theorem dX6_gap_12 : decode cX6_gap 12 = .ok (.aload_n 2, 1) := by decide +kernel
theorem dX6_gap_13 : decode cX6_gap 13 = .ok (.getfield 64, 3) := by decide +kernel
theorem dX6_gap_16 : decode cX6_gap 16 = .ok (.ifCond .ne 6, 3) := by decide +kernel
theorem dX6_gap_19 : decode cX6_gap 19 = .ok (.bipush (-11), 2) := by decide +kernel
theorem dX6_gap_21 : decode cX6_gap 21 = .ok (.ireturn, 1) := by decide +kernel
theorem dX6_gap_22 : decode cX6_gap 22 = .ok (.aload_n 0, 1) := by decide +kernel
theorem dX6_gap_23 : decode cX6_gap 23 = .ok (.getfield 12, 3) := by decide +kernel
theorem dX6_gap_26 : decode cX6_gap 26 = .ok (.aload_n 0, 1) := by decide +kernel
theorem dX6_gap_27 : decode cX6_gap 27 = .ok (.getfield 21, 3) := by decide +kernel
theorem dX6_gap_30 : decode cX6_gap 30 = .ok (.aload_n 2, 1) := by decide +kernel
theorem dX6_gap_31 : decode cX6_gap 31 = .ok (.invokevirtual 175, 3) := by decide +kernel
theorem dX6_gap_34 : decode cX6_gap 34 = .ok (.invokevirtual 130, 3) := by decide +kernel
theorem dX6_gap_37 : decode cX6_gap 37 = .ok (.invokestatic 206, 3) := by decide +kernel
theorem dX6_gap_40 : decode cX6_gap 40 = .ok (.istore_n 3, 1) := by decide +kernel
theorem dX6_gap_41 : decode cX6_gap 41 = .ok (.iload_n 3, 1) := by decide +kernel
theorem dX6_gap_42 : decode cX6_gap 42 = .ok (.ifCond .le 7, 3) := by decide +kernel
theorem dX6_gap_45 : decode cX6_gap 45 = .ok (.iload_n 3, 1) := by decide +kernel
theorem dX6_gap_46 : decode cX6_gap 46 = .ok (.goto 5, 3) := by decide +kernel
theorem dX6_gap_49 : decode cX6_gap 49 = .ok (.bipush (-4), 2) := by decide +kernel
theorem dX6_gap_51 : decode cX6_gap 51 = .ok (.ireturn, 1) := by decide +kernel
set_option maxRecDepth 20000 in
theorem ggX6_cover_X5_leastCover : GoodIn wsX6_cover wsX5_leastCover := goodIn_r _ [6, 7, 8, 9, 10, 11, 12, 13, 14, 15, 16, 17, 18, 19, 20, 21, 22, 23, 24, 25, 5, 26, 27, 28, 29, 30, 31, 32, 33, 34, 35, 36, 37, 38, 39, 40, 41, 42, 43, 44, 45, 46, 47, 48, 49, 50, 51, 52, 53, 54, 55, 56, 57, 58, 59, 60, 61, 62, 63, 64, 65, 66, 67, 68, 69, 70, 71, 76, 77, 78, 79, 80, 81, 82, 83, 84, 85, 86, 87, 88, 89, 90, 91, 92] rfl rfl
set_option maxRecDepth 20000 in
theorem gX6_cover_X5_leastCover : GoodIn wsX6_cover (wsV RX6 209 RX5 yX5_leastCover wsX5_leastCover) := goodIn_app (goodIn_r _ [2, 3, 4, 5] rfl rfl) ggX6_cover_X5_leastCover
theorem dX6_cover_0 : decode cX6_cover 0 = .ok (.aload_n 0, 1) := by decide +kernel
theorem dX6_cover_1 : decode cX6_cover 1 = .ok (.getfield 21, 3) := by decide +kernel
theorem dX6_cover_4 : decode cX6_cover 4 = .ok (.invokevirtual 209, 3) := by decide +kernel
theorem dX6_cover_7 : decode cX6_cover 7 = .ok (.ireturn, 1) := by decide +kernel
set_option maxRecDepth 20000 in
theorem ggX6_part_X5_beginOfPart : GoodIn wsX6_part wsX5_beginOfPart := goodIn_r _ [6, 7, 8, 9, 10, 11, 5, 12, 13, 14, 15, 16, 17, 18, 19, 20, 21, 22, 23, 24, 25, 26, 27, 28, 29, 30, 31, 32, 33, 34, 35, 36, 37, 38, 39, 40, 41, 42, 43, 44, 45, 46, 47, 48, 49, 50, 51, 52, 53, 54, 55, 56, 57, 58, 59, 60, 61, 62, 63, 64, 69, 70, 71, 72, 73, 74, 75, 76, 77, 78, 79, 80, 81, 82, 83, 84, 85] rfl rfl
set_option maxRecDepth 20000 in
theorem gX6_part_X5_beginOfPart : GoodIn wsX6_part (wsV RX6 212 RX5 yX5_beginOfPart wsX5_beginOfPart) := goodIn_app (goodIn_r _ [2, 3, 4, 5] rfl rfl) ggX6_part_X5_beginOfPart
theorem dX6_part_0 : decode cX6_part 0 = .ok (.iload_n 1, 1) := by decide +kernel
theorem dX6_part_1 : decode cX6_part 1 = .ok (.ifCond .ge 7, 3) := by decide +kernel
theorem dX6_part_4 : decode cX6_part 4 = .ok (.iconst (-1), 1) := by decide +kernel
theorem dX6_part_5 : decode cX6_part 5 = .ok (.goto 11, 3) := by decide +kernel
theorem dX6_part_8 : decode cX6_part 8 = .ok (.aload_n 0, 1) := by decide +kernel
theorem dX6_part_9 : decode cX6_part 9 = .ok (.getfield 21, 3) := by decide +kernel
theorem dX6_part_12 : decode cX6_part 12 = .ok (.iload_n 1, 1) := by decide +kernel
theorem dX6_part_13 : decode cX6_part 13 = .ok (.invokevirtual 212, 3) := by decide +kernel
theorem dX6_part_16 : decode cX6_part 16 = .ok (.ireturn, 1) := by decide +kernel
set_option maxRecDepth 20000 in
theorem ggX6_common_X6_pageAt : GoodIn wsX6_common wsX6_pageAt := goodIn_r _ [7, 8, 60, 61, 62, 63] rfl rfl
set_option maxRecDepth 20000 in
theorem gX6_common_X6_pageAt : GoodIn wsX6_common (wsV RX6 60 RX6 yX6_pageAt wsX6_pageAt) := goodIn_app (goodIn_r _ [3, 4, 5, 6] rfl rfl) ggX6_common_X6_pageAt
set_option maxRecDepth 20000 in
theorem ggX6_common_X5_longestCommon : GoodIn wsX6_common wsX5_longestCommon := goodIn_r _ [13, 14, 15, 16, 17, 18, 19, 20, 21, 22, 23, 24, 25, 26, 27, 28, 29, 30, 31, 32, 33, 34, 35, 36, 37, 38, 39, 40, 41, 42, 43, 44, 45, 46, 47, 48, 49, 50, 51, 52, 53, 54, 55, 56, 57, 58, 59, 64, 65, 66, 67, 68, 69, 70, 71, 72, 73, 74, 75, 76, 77, 78, 79, 80] rfl rfl
set_option maxRecDepth 20000 in
theorem gX6_common_X5_longestCommon : GoodIn wsX6_common (wsV RX6 215 RX5 yX5_longestCommon wsX5_longestCommon) := goodIn_app (goodIn_r _ [9, 10, 11, 12] rfl rfl) ggX6_common_X5_longestCommon
theorem dX6_common_0 : decode cX6_common 0 = .ok (.aload_n 0, 1) := by decide +kernel
theorem dX6_common_1 : decode cX6_common 1 = .ok (.iload_n 1, 1) := by decide +kernel
theorem dX6_common_2 : decode cX6_common 2 = .ok (.invokevirtual 60, 3) := by decide +kernel
theorem dX6_common_5 : decode cX6_common 5 = .ok (.astore_n 3, 1) := by decide +kernel
theorem dX6_common_6 : decode cX6_common 6 = .ok (.aload_n 3, 1) := by decide +kernel
theorem dX6_common_7 : decode cX6_common 7 = .ok (.ifnull 12, 3) := by decide +kernel
theorem dX6_common_10 : decode cX6_common 10 = .ok (.iload_n 2, 1) := by decide +kernel
theorem dX6_common_11 : decode cX6_common 11 = .ok (.ifCond .lt 8, 3) := by decide +kernel
theorem dX6_common_14 : decode cX6_common 14 = .ok (.iload_n 2, 1) := by decide +kernel
theorem dX6_common_15 : decode cX6_common 15 = .ok (.iconst 1, 1) := by decide +kernel
theorem dX6_common_16 : decode cX6_common 16 = .ok (.if_icmp .le 5, 3) := by decide +kernel
theorem dX6_common_19 : decode cX6_common 19 = .ok (.iconst (-1), 1) := by decide +kernel
theorem dX6_common_20 : decode cX6_common 20 = .ok (.ireturn, 1) := by decide +kernel
theorem dX6_common_21 : decode cX6_common 21 = .ok (.aload_n 3, 1) := by decide +kernel
theorem dX6_common_22 : decode cX6_common 22 = .ok (.getfield 64, 3) := by decide +kernel
theorem dX6_common_25 : decode cX6_common 25 = .ok (.ifCond .ne 6, 3) := by decide +kernel
theorem dX6_common_28 : decode cX6_common 28 = .ok (.bipush (-11), 2) := by decide +kernel
theorem dX6_common_30 : decode cX6_common 30 = .ok (.ireturn, 1) := by decide +kernel
theorem dX6_common_31 : decode cX6_common 31 = .ok (.aload_n 0, 1) := by decide +kernel
theorem dX6_common_32 : decode cX6_common 32 = .ok (.getfield 21, 3) := by decide +kernel
theorem dX6_common_35 : decode cX6_common 35 = .ok (.aload_n 3, 1) := by decide +kernel
theorem dX6_common_36 : decode cX6_common 36 = .ok (.iload_n 2, 1) := by decide +kernel
theorem dX6_common_37 : decode cX6_common 37 = .ok (.iconst 1, 1) := by decide +kernel
theorem dX6_common_38 : decode cX6_common 38 = .ok (.if_icmp .ne 7, 3) := by decide +kernel
theorem dX6_common_41 : decode cX6_common 41 = .ok (.iconst 1, 1) := by decide +kernel
theorem dX6_common_42 : decode cX6_common 42 = .ok (.goto 4, 3) := by decide +kernel
theorem dX6_common_45 : decode cX6_common 45 = .ok (.iconst 0, 1) := by decide +kernel
theorem dX6_common_46 : decode cX6_common 46 = .ok (.invokevirtual 215, 3) := by decide +kernel
theorem dX6_common_49 : decode cX6_common 49 = .ok (.ireturn, 1) := by decide +kernel
set_option maxRecDepth 20000 in
theorem ggX6_border_X5_kthBorder : GoodIn wsX6_border wsX5_kthBorder := goodIn_r _ [6, 7, 8, 9, 10, 11, 12, 13, 14, 15, 16, 17, 18, 19, 20, 21, 22, 23, 24, 25, 26, 27, 28, 29, 30, 5, 31, 32, 33, 34, 35, 36, 37, 38, 39, 40, 41, 42, 43, 44, 45, 46, 47, 48, 49, 50, 51, 52, 53, 54, 55, 56, 57, 58, 59, 64, 65, 66, 67, 68, 69, 70, 71, 72, 73, 74, 75, 76, 77, 78, 79, 80] rfl rfl
set_option maxRecDepth 20000 in
theorem gX6_border_X5_kthBorder : GoodIn wsX6_border (wsV RX6 219 RX5 yX5_kthBorder wsX5_kthBorder) := goodIn_app (goodIn_r _ [2, 3, 4, 5] rfl rfl) ggX6_border_X5_kthBorder
theorem dX6_border_0 : decode cX6_border 0 = .ok (.iload_n 1, 1) := by decide +kernel
theorem dX6_border_1 : decode cX6_border 1 = .ok (.ifCond .ge 7, 3) := by decide +kernel
theorem dX6_border_4 : decode cX6_border 4 = .ok (.iconst (-1), 1) := by decide +kernel
theorem dX6_border_5 : decode cX6_border 5 = .ok (.goto 11, 3) := by decide +kernel
theorem dX6_border_8 : decode cX6_border 8 = .ok (.aload_n 0, 1) := by decide +kernel
theorem dX6_border_9 : decode cX6_border 9 = .ok (.getfield 21, 3) := by decide +kernel
theorem dX6_border_12 : decode cX6_border 12 = .ok (.iload_n 1, 1) := by decide +kernel
theorem dX6_border_13 : decode cX6_border 13 = .ok (.invokevirtual 219, 3) := by decide +kernel
theorem dX6_border_16 : decode cX6_border 16 = .ok (.ireturn, 1) := by decide +kernel
set_option maxRecDepth 20000 in
theorem ggX6_next_X5_stateOfLast : GoodIn wsX6_next wsX5_stateOfLast := goodIn_r _ [8, 9, 10, 11, 12, 13, 14, 15, 16, 17, 18, 19, 20, 21, 22, 23, 24, 25, 26, 27, 28, 29, 30, 31, 32, 33, 34, 35, 36, 37, 38, 39, 86, 87, 88, 89, 90, 74, 75, 76, 77, 78, 79, 80, 81, 82, 83, 84, 85] rfl rfl
set_option maxRecDepth 20000 in
theorem gX6_next_X5_stateOfLast : GoodIn wsX6_next (wsV RX6 222 RX5 yX5_stateOfLast wsX5_stateOfLast) := goodIn_app (goodIn_r _ [4, 5, 6, 7] rfl rfl) ggX6_next_X5_stateOfLast
set_option maxRecDepth 20000 in
theorem ggX6_next_X5_likeliestBehind : GoodIn wsX6_next wsX5_likeliestBehind := goodIn_r _ [43, 9, 44, 45, 46, 47, 13, 48, 49, 25, 26, 27, 28, 29, 50, 51, 52, 53, 54, 30, 31, 32, 33, 55, 56, 57, 58, 59, 60, 61, 62, 63, 64, 65, 66, 67, 68, 69, 86, 87, 88, 89, 90, 74, 75, 76, 77, 78, 79, 80, 81, 82, 83, 84, 85] rfl rfl
set_option maxRecDepth 20000 in
theorem gX6_next_X5_likeliestBehind : GoodIn wsX6_next (wsV RX6 225 RX5 yX5_likeliestBehind wsX5_likeliestBehind) := goodIn_app (goodIn_r _ [40, 41, 42, 7] rfl rfl) ggX6_next_X5_likeliestBehind
theorem dX6_next_0 : decode cX6_next 0 = .ok (.iload_n 1, 1) := by decide +kernel
theorem dX6_next_1 : decode cX6_next 1 = .ok (.ifCond .lt 14, 3) := by decide +kernel
theorem dX6_next_4 : decode cX6_next 4 = .ok (.iload_n 1, 1) := by decide +kernel
theorem dX6_next_5 : decode cX6_next 5 = .ok (.aload_n 0, 1) := by decide +kernel
theorem dX6_next_6 : decode cX6_next 6 = .ok (.getfield 12, 3) := by decide +kernel
theorem dX6_next_9 : decode cX6_next 9 = .ok (.getfield 39, 3) := by decide +kernel
theorem dX6_next_12 : decode cX6_next 12 = .ok (.if_icmp .le 5, 3) := by decide +kernel
theorem dX6_next_15 : decode cX6_next 15 = .ok (.iconst (-1), 1) := by decide +kernel
theorem dX6_next_16 : decode cX6_next 16 = .ok (.ireturn, 1) := by decide +kernel
theorem dX6_next_17 : decode cX6_next 17 = .ok (.aload_n 0, 1) := by decide +kernel
theorem dX6_next_18 : decode cX6_next 18 = .ok (.getfield 21, 3) := by decide +kernel
theorem dX6_next_21 : decode cX6_next 21 = .ok (.aload_n 0, 1) := by decide +kernel
theorem dX6_next_22 : decode cX6_next 22 = .ok (.getfield 21, 3) := by decide +kernel
theorem dX6_next_25 : decode cX6_next 25 = .ok (.iload_n 1, 1) := by decide +kernel
theorem dX6_next_26 : decode cX6_next 26 = .ok (.invokevirtual 222, 3) := by decide +kernel
theorem dX6_next_29 : decode cX6_next 29 = .ok (.invokevirtual 225, 3) := by decide +kernel
theorem dX6_next_32 : decode cX6_next 32 = .ok (.ireturn, 1) := by decide +kernel
set_option maxRecDepth 20000 in
theorem ggX6_worth_X5_worthTogether : GoodIn wsX6_worth wsX5_worthTogether := goodIn_r _ [6, 7, 8, 9, 10, 11, 12, 13, 14, 15, 16, 17, 18, 19, 20, 21, 22, 23, 24, 25, 26, 31, 32, 33, 34, 35, 36, 37, 38, 39, 40, 41, 42, 43, 44, 45, 46, 47] rfl rfl
set_option maxRecDepth 20000 in
theorem gX6_worth_X5_worthTogether : GoodIn wsX6_worth (wsV RX6 228 RX5 yX5_worthTogether wsX5_worthTogether) := goodIn_app (goodIn_r _ [2, 3, 4, 5] rfl rfl) ggX6_worth_X5_worthTogether
theorem dX6_worth_0 : decode cX6_worth 0 = .ok (.iload_n 1, 1) := by decide +kernel
theorem dX6_worth_1 : decode cX6_worth 1 = .ok (.iconst 1, 1) := by decide +kernel
theorem dX6_worth_2 : decode cX6_worth 2 = .ok (.if_icmp .lt 9, 3) := by decide +kernel
theorem dX6_worth_5 : decode cX6_worth 5 = .ok (.iload_n 1, 1) := by decide +kernel
theorem dX6_worth_6 : decode cX6_worth 6 = .ok (.bipush 9, 2) := by decide +kernel
theorem dX6_worth_8 : decode cX6_worth 8 = .ok (.if_icmp .le 5, 3) := by decide +kernel
theorem dX6_worth_11 : decode cX6_worth 11 = .ok (.iconst (-1), 1) := by decide +kernel
theorem dX6_worth_12 : decode cX6_worth 12 = .ok (.ireturn, 1) := by decide +kernel
theorem dX6_worth_13 : decode cX6_worth 13 = .ok (.aload_n 0, 1) := by decide +kernel
theorem dX6_worth_14 : decode cX6_worth 14 = .ok (.getfield 21, 3) := by decide +kernel
theorem dX6_worth_17 : decode cX6_worth 17 = .ok (.iload_n 1, 1) := by decide +kernel
theorem dX6_worth_18 : decode cX6_worth 18 = .ok (.invokevirtual 228, 3) := by decide +kernel
theorem dX6_worth_21 : decode cX6_worth 21 = .ok (.ireturn, 1) := by decide +kernel
set_option maxRecDepth 20000 in
theorem ggX6_keep_X6_imageAt : GoodIn wsX6_keep wsX6_imageAt := goodIn_r _ [7, 8, 33, 34, 35, 36] rfl rfl
set_option maxRecDepth 20000 in
theorem gX6_keep_X6_imageAt : GoodIn wsX6_keep (wsV RX6 231 RX6 yX6_imageAt wsX6_imageAt) := goodIn_app (goodIn_r _ [3, 4, 5, 6] rfl rfl) ggX6_keep_X6_imageAt
set_option maxRecDepth 20000 in
theorem ggX6_keep_X1_take : GoodIn wsX6_keep wsX1_take := goodIn_r _ [13, 14, 15, 16, 17, 18, 19, 20, 21, 22, 23, 24, 25, 26, 27, 28, 29, 30, 31, 32, 49, 50, 51, 52, 37, 38, 39, 40, 41, 42, 43, 44, 45, 46, 47, 48] rfl rfl
set_option maxRecDepth 20000 in
theorem gX6_keep_X1_take : GoodIn wsX6_keep (wsV RX6 235 RX1 yX1_take wsX1_take) := goodIn_app (goodIn_r _ [9, 10, 11, 12] rfl rfl) ggX6_keep_X1_take
theorem dX6_keep_0 : decode cX6_keep 0 = .ok (.aload_n 0, 1) := by decide +kernel
theorem dX6_keep_1 : decode cX6_keep 1 = .ok (.iload_n 1, 1) := by decide +kernel
theorem dX6_keep_2 : decode cX6_keep 2 = .ok (.invokevirtual 231, 3) := by decide +kernel
theorem dX6_keep_5 : decode cX6_keep 5 = .ok (.astore_n 2, 1) := by decide +kernel
theorem dX6_keep_6 : decode cX6_keep 6 = .ok (.aload_n 2, 1) := by decide +kernel
theorem dX6_keep_7 : decode cX6_keep 7 = .ok (.ifnonnull 5, 3) := by decide +kernel
theorem dX6_keep_10 : decode cX6_keep 10 = .ok (.iconst (-1), 1) := by decide +kernel
theorem dX6_keep_11 : decode cX6_keep 11 = .ok (.ireturn, 1) := by decide +kernel
theorem dX6_keep_12 : decode cX6_keep 12 = .ok (.aload_n 2, 1) := by decide +kernel
theorem dX6_keep_13 : decode cX6_keep 13 = .ok (.aload_n 0, 1) := by decide +kernel
theorem dX6_keep_14 : decode cX6_keep 14 = .ok (.getfield 12, 3) := by decide +kernel
theorem dX6_keep_17 : decode cX6_keep 17 = .ok (.invokevirtual 235, 3) := by decide +kernel
theorem dX6_keep_20 : decode cX6_keep 20 = .ok (.aload_n 0, 1) := by decide +kernel
theorem dX6_keep_21 : decode cX6_keep 21 = .ok (.getfield 12, 3) := by decide +kernel
theorem dX6_keep_24 : decode cX6_keep 24 = .ok (.getfield 39, 3) := by decide +kernel
theorem dX6_keep_27 : decode cX6_keep 27 = .ok (.ireturn, 1) := by decide +kernel
set_option maxRecDepth 20000 in
theorem ggX6_goBack_X6_imageAt : GoodIn wsX6_goBack wsX6_imageAt := goodIn_r _ [8, 9, 105, 106, 107, 108] rfl rfl
set_option maxRecDepth 20000 in
theorem gX6_goBack_X6_imageAt : GoodIn wsX6_goBack (wsV RX6 231 RX6 yX6_imageAt wsX6_imageAt) := goodIn_app (goodIn_r _ [4, 5, 6, 7] rfl rfl) ggX6_goBack_X6_imageAt
set_option maxRecDepth 20000 in
theorem ggX6_goBack_X1_giveBack : GoodIn wsX6_goBack wsX1_giveBack := goodIn_r _ [14, 15, 16, 17, 18, 19, 20, 21, 22, 23, 24, 25, 26, 27, 28, 29, 30, 31, 32, 33, 34, 35, 36, 37, 38, 39, 40, 41, 42, 43, 44, 45, 46, 47, 48, 49, 50, 51, 52, 53, 54, 55, 56, 57, 58, 59, 60, 61, 62, 63, 64, 65, 66, 67, 68, 69, 70, 71, 72, 73, 74, 75, 76, 77, 78, 79, 80, 81, 82, 83, 84, 85, 86, 87, 88, 89, 90, 91, 92, 93, 94, 95, 96, 97, 98, 99, 100, 101, 102, 103, 104, 109, 110, 111, 112, 113, 114, 115, 116, 117, 118, 119, 120] rfl rfl
set_option maxRecDepth 20000 in
theorem gX6_goBack_X1_giveBack : GoodIn wsX6_goBack (wsV RX6 241 RX1 yX1_giveBack wsX1_giveBack) := goodIn_app (goodIn_r _ [10, 11, 12, 13] rfl rfl) ggX6_goBack_X1_giveBack
theorem dX6_goBack_0 : decode cX6_goBack 0 = .ok (.aload_n 0, 1) := by decide +kernel
theorem dX6_goBack_1 : decode cX6_goBack 1 = .ok (.iload_n 1, 1) := by decide +kernel
theorem dX6_goBack_2 : decode cX6_goBack 2 = .ok (.invokevirtual 231, 3) := by decide +kernel
theorem dX6_goBack_5 : decode cX6_goBack 5 = .ok (.astore_n 2, 1) := by decide +kernel
theorem dX6_goBack_6 : decode cX6_goBack 6 = .ok (.aload_n 2, 1) := by decide +kernel
theorem dX6_goBack_7 : decode cX6_goBack 7 = .ok (.ifnonnull 5, 3) := by decide +kernel
theorem dX6_goBack_10 : decode cX6_goBack 10 = .ok (.iconst (-1), 1) := by decide +kernel
theorem dX6_goBack_11 : decode cX6_goBack 11 = .ok (.ireturn, 1) := by decide +kernel
theorem dX6_goBack_12 : decode cX6_goBack 12 = .ok (.aload_n 2, 1) := by decide +kernel
theorem dX6_goBack_13 : decode cX6_goBack 13 = .ok (.getfield 238, 3) := by decide +kernel
theorem dX6_goBack_16 : decode cX6_goBack 16 = .ok (.ifCond .ne 6, 3) := by decide +kernel
theorem dX6_goBack_19 : decode cX6_goBack 19 = .ok (.bipush (-2), 2) := by decide +kernel
theorem dX6_goBack_21 : decode cX6_goBack 21 = .ok (.ireturn, 1) := by decide +kernel
theorem dX6_goBack_22 : decode cX6_goBack 22 = .ok (.aload_n 2, 1) := by decide +kernel
theorem dX6_goBack_23 : decode cX6_goBack 23 = .ok (.aload_n 0, 1) := by decide +kernel
theorem dX6_goBack_24 : decode cX6_goBack 24 = .ok (.getfield 12, 3) := by decide +kernel
theorem dX6_goBack_27 : decode cX6_goBack 27 = .ok (.invokevirtual 241, 3) := by decide +kernel
theorem dX6_goBack_30 : decode cX6_goBack 30 = .ok (.aload_n 0, 1) := by decide +kernel
theorem dX6_goBack_31 : decode cX6_goBack 31 = .ok (.getfield 12, 3) := by decide +kernel
theorem dX6_goBack_34 : decode cX6_goBack 34 = .ok (.getfield 39, 3) := by decide +kernel
theorem dX6_goBack_37 : decode cX6_goBack 37 = .ok (.ireturn, 1) := by decide +kernel
theorem dX6_pageAt_0 : decode cX6_pageAt 0 = .ok (.iload_n 1, 1) := by decide +kernel
theorem dX6_pageAt_1 : decode cX6_pageAt 1 = .ok (.ifCond .lt 21, 3) := by decide +kernel
theorem dX6_pageAt_4 : decode cX6_pageAt 4 = .ok (.iload_n 1, 1) := by decide +kernel
theorem dX6_pageAt_5 : decode cX6_pageAt 5 = .ok (.aload_n 0, 1) := by decide +kernel
theorem dX6_pageAt_6 : decode cX6_pageAt 6 = .ok (.getfield 27, 3) := by decide +kernel
theorem dX6_pageAt_9 : decode cX6_pageAt 9 = .ok (.arraylength, 1) := by decide +kernel
theorem dX6_pageAt_10 : decode cX6_pageAt 10 = .ok (.if_icmp .ge 12, 3) := by decide +kernel
theorem dX6_pageAt_13 : decode cX6_pageAt 13 = .ok (.aload_n 0, 1) := by decide +kernel
theorem dX6_pageAt_14 : decode cX6_pageAt 14 = .ok (.getfield 27, 3) := by decide +kernel
theorem dX6_pageAt_17 : decode cX6_pageAt 17 = .ok (.iload_n 1, 1) := by decide +kernel
theorem dX6_pageAt_18 : decode cX6_pageAt 18 = .ok (.aaload, 1) := by decide +kernel
theorem dX6_pageAt_19 : decode cX6_pageAt 19 = .ok (.goto 4, 3) := by decide +kernel
theorem dX6_pageAt_22 : decode cX6_pageAt 22 = .ok (.aconst_null, 1) := by decide +kernel
theorem dX6_pageAt_23 : decode cX6_pageAt 23 = .ok (.areturn, 1) := by decide +kernel
theorem dX6_imageAt_0 : decode cX6_imageAt 0 = .ok (.iload_n 1, 1) := by decide +kernel
theorem dX6_imageAt_1 : decode cX6_imageAt 1 = .ok (.ifCond .lt 21, 3) := by decide +kernel
theorem dX6_imageAt_4 : decode cX6_imageAt 4 = .ok (.iload_n 1, 1) := by decide +kernel
theorem dX6_imageAt_5 : decode cX6_imageAt 5 = .ok (.aload_n 0, 1) := by decide +kernel
theorem dX6_imageAt_6 : decode cX6_imageAt 6 = .ok (.getfield 34, 3) := by decide +kernel
theorem dX6_imageAt_9 : decode cX6_imageAt 9 = .ok (.arraylength, 1) := by decide +kernel
theorem dX6_imageAt_10 : decode cX6_imageAt 10 = .ok (.if_icmp .ge 12, 3) := by decide +kernel
theorem dX6_imageAt_13 : decode cX6_imageAt 13 = .ok (.aload_n 0, 1) := by decide +kernel
theorem dX6_imageAt_14 : decode cX6_imageAt 14 = .ok (.getfield 34, 3) := by decide +kernel
theorem dX6_imageAt_17 : decode cX6_imageAt 17 = .ok (.iload_n 1, 1) := by decide +kernel
theorem dX6_imageAt_18 : decode cX6_imageAt 18 = .ok (.aaload, 1) := by decide +kernel
theorem dX6_imageAt_19 : decode cX6_imageAt 19 = .ok (.goto 4, 3) := by decide +kernel
theorem dX6_imageAt_22 : decode cX6_imageAt 22 = .ok (.aconst_null, 1) := by decide +kernel
theorem dX6_imageAt_23 : decode cX6_imageAt 23 = .ok (.areturn, 1) := by decide +kernel
theorem dX6_sheetsThere_0 : decode cX6_sheetsThere 0 = .ok (.iconst 0, 1) := by decide +kernel
theorem dX6_sheetsThere_1 : decode cX6_sheetsThere 1 = .ok (.istore_n 1, 1) := by decide +kernel
theorem dX6_sheetsThere_2 : decode cX6_sheetsThere 2 = .ok (.iconst 0, 1) := by decide +kernel
theorem dX6_sheetsThere_3 : decode cX6_sheetsThere 3 = .ok (.istore_n 2, 1) := by decide +kernel
theorem dX6_sheetsThere_4 : decode cX6_sheetsThere 4 = .ok (.iload_n 2, 1) := by decide +kernel
theorem dX6_sheetsThere_5 : decode cX6_sheetsThere 5 = .ok (.aload_n 0, 1) := by decide +kernel
theorem dX6_sheetsThere_6 : decode cX6_sheetsThere 6 = .ok (.getfield 27, 3) := by decide +kernel
theorem dX6_sheetsThere_9 : decode cX6_sheetsThere 9 = .ok (.arraylength, 1) := by decide +kernel
theorem dX6_sheetsThere_10 : decode cX6_sheetsThere 10 = .ok (.if_icmp .ge 33, 3) := by decide +kernel
theorem dX6_sheetsThere_13 : decode cX6_sheetsThere 13 = .ok (.aload_n 0, 1) := by decide +kernel
theorem dX6_sheetsThere_14 : decode cX6_sheetsThere 14 = .ok (.getfield 27, 3) := by decide +kernel
theorem dX6_sheetsThere_17 : decode cX6_sheetsThere 17 = .ok (.iload_n 2, 1) := by decide +kernel
theorem dX6_sheetsThere_18 : decode cX6_sheetsThere 18 = .ok (.aaload, 1) := by decide +kernel
theorem dX6_sheetsThere_19 : decode cX6_sheetsThere 19 = .ok (.ifnull 18, 3) := by decide +kernel
theorem dX6_sheetsThere_22 : decode cX6_sheetsThere 22 = .ok (.aload_n 0, 1) := by decide +kernel
theorem dX6_sheetsThere_23 : decode cX6_sheetsThere 23 = .ok (.getfield 27, 3) := by decide +kernel
theorem dX6_sheetsThere_26 : decode cX6_sheetsThere 26 = .ok (.iload_n 2, 1) := by decide +kernel
theorem dX6_sheetsThere_27 : decode cX6_sheetsThere 27 = .ok (.aaload, 1) := by decide +kernel
theorem dX6_sheetsThere_28 : decode cX6_sheetsThere 28 = .ok (.getfield 64, 3) := by decide +kernel
theorem dX6_sheetsThere_31 : decode cX6_sheetsThere 31 = .ok (.ifCond .eq 6, 3) := by decide +kernel
theorem dX6_sheetsThere_34 : decode cX6_sheetsThere 34 = .ok (.iinc 1 1, 3) := by decide +kernel
theorem dX6_sheetsThere_37 : decode cX6_sheetsThere 37 = .ok (.iinc 2 1, 3) := by decide +kernel
theorem dX6_sheetsThere_40 : decode cX6_sheetsThere 40 = .ok (.goto (-36), 3) := by decide +kernel
theorem dX6_sheetsThere_43 : decode cX6_sheetsThere 43 = .ok (.iload_n 1, 1) := by decide +kernel
theorem dX6_sheetsThere_44 : decode cX6_sheetsThere 44 = .ok (.ireturn, 1) := by decide +kernel
