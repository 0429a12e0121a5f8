theorem dX8_init_0 : decode cX8_init 0 = .ok (.aload_n 0, 1) := by decide +kernel
theorem dX8_init_1 : decode cX8_init 1 = .ok (.invokespecial 1, 3) := by decide +kernel
theorem dX8_init_4 : decode cX8_init 4 = .ok (.aload_n 0, 1) := by decide +kernel
theorem dX8_init_5 : decode cX8_init 5 = .ok (.new 7, 3) := by decide +kernel
theorem dX8_init_8 : decode cX8_init 8 = .ok (.dup, 1) := by decide +kernel
theorem dX8_init_9 : decode cX8_init 9 = .ok (.invokespecial 9, 3) := by decide +kernel
theorem dX8_init_12 : decode cX8_init 12 = .ok (.putfield 10, 3) := by decide +kernel
theorem dX8_init_15 : decode cX8_init 15 = .ok (.aload_n 0, 1) := by decide +kernel
theorem dX8_init_16 : decode cX8_init 16 = .ok (.new 7, 3) := by decide +kernel
theorem dX8_init_19 : decode cX8_init 19 = .ok (.dup, 1) := by decide +kernel
theorem dX8_init_20 : decode cX8_init 20 = .ok (.invokespecial 9, 3) := by decide +kernel
theorem dX8_init_23 : decode cX8_init 23 = .ok (.putfield 16, 3) := by decide +kernel
theorem dX8_init_26 : decode cX8_init 26 = .ok (.aload_n 0, 1) := by decide +kernel
theorem dX8_init_27 : decode cX8_init 27 = .ok (.new 19, 3) := by decide +kernel
theorem dX8_init_30 : decode cX8_init 30 = .ok (.dup, 1) := by decide +kernel
theorem dX8_init_31 : decode cX8_init 31 = .ok (.invokespecial 21, 3) := by decide +kernel
theorem dX8_init_34 : decode cX8_init 34 = .ok (.putfield 22, 3) := by decide +kernel
theorem dX8_init_37 : decode cX8_init 37 = .ok (.aload_n 0, 1) := by decide +kernel
theorem dX8_init_38 : decode cX8_init 38 = .ok (.new 26, 3) := by decide +kernel
theorem dX8_init_41 : decode cX8_init 41 = .ok (.dup, 1) := by decide +kernel
theorem dX8_init_42 : decode cX8_init 42 = .ok (.invokespecial 28, 3) := by decide +kernel
theorem dX8_init_45 : decode cX8_init 45 = .ok (.putfield 29, 3) := by decide +kernel
theorem dX8_init_48 : decode cX8_init 48 = .ok (.aload_n 0, 1) := by decide +kernel
theorem dX8_init_49 : decode cX8_init 49 = .ok (.new 33, 3) := by decide +kernel
theorem dX8_init_52 : decode cX8_init 52 = .ok (.dup, 1) := by decide +kernel
theorem dX8_init_53 : decode cX8_init 53 = .ok (.invokespecial 35, 3) := by decide +kernel
theorem dX8_init_56 : decode cX8_init 56 = .ok (.putfield 36, 3) := by decide +kernel
theorem dX8_init_59 : decode cX8_init 59 = .ok (.aload_n 0, 1) := by decide +kernel
theorem dX8_init_60 : decode cX8_init 60 = .ok (.new 40, 3) := by decide +kernel
theorem dX8_init_63 : decode cX8_init 63 = .ok (.dup, 1) := by decide +kernel
theorem dX8_init_64 : decode cX8_init 64 = .ok (.invokespecial 42, 3) := by decide +kernel
theorem dX8_init_67 : decode cX8_init 67 = .ok (.putfield 43, 3) := by decide +kernel
theorem dX8_init_70 : decode cX8_init 70 = .ok (.aload_n 0, 1) := by decide +kernel
theorem dX8_init_71 : decode cX8_init 71 = .ok (.new 47, 3) := by decide +kernel
theorem dX8_init_74 : decode cX8_init 74 = .ok (.dup, 1) := by decide +kernel
theorem dX8_init_75 : decode cX8_init 75 = .ok (.invokespecial 49, 3) := by decide +kernel
theorem dX8_init_78 : decode cX8_init 78 = .ok (.putfield 50, 3) := by decide +kernel
theorem dX8_init_81 : decode cX8_init 81 = .ok (.aload_n 0, 1) := by decide +kernel
theorem dX8_init_82 : decode cX8_init 82 = .ok (.new 54, 3) := by decide +kernel
theorem dX8_init_85 : decode cX8_init 85 = .ok (.dup, 1) := by decide +kernel
theorem dX8_init_86 : decode cX8_init 86 = .ok (.invokespecial 56, 3) := by decide +kernel
theorem dX8_init_89 : decode cX8_init 89 = .ok (.putfield 57, 3) := by decide +kernel
theorem dX8_init_92 : decode cX8_init 92 = .ok (.aload_n 0, 1) := by decide +kernel
theorem dX8_init_93 : decode cX8_init 93 = .ok (.new 61, 3) := by decide +kernel
theorem dX8_init_96 : decode cX8_init 96 = .ok (.dup, 1) := by decide +kernel
theorem dX8_init_97 : decode cX8_init 97 = .ok (.invokespecial 63, 3) := by decide +kernel
theorem dX8_init_100 : decode cX8_init 100 = .ok (.putfield 64, 3) := by decide +kernel
theorem dX8_init_103 : decode cX8_init 103 = .ok (.aload_n 0, 1) := by decide +kernel
theorem dX8_init_104 : decode cX8_init 104 = .ok (.iconst 2, 1) := by decide +kernel
theorem dX8_init_105 : decode cX8_init 105 = .ok (.anewarray 7, 3) := by decide +kernel
theorem dX8_init_108 : decode cX8_init 108 = .ok (.putfield 68, 3) := by decide +kernel
theorem dX8_init_111 : decode cX8_init 111 = .ok (.aload_n 0, 1) := by decide +kernel
theorem dX8_init_112 : decode cX8_init 112 = .ok (.iconst 2, 1) := by decide +kernel
theorem dX8_init_113 : decode cX8_init 113 = .ok (.newarray .boolean, 2) := by decide +kernel
theorem dX8_init_115 : decode cX8_init 115 = .ok (.putfield 72, 3) := by decide +kernel
theorem dX8_init_118 : decode cX8_init 118 = .ok (.iconst 0, 1) := by decide +kernel
theorem dX8_init_119 : decode cX8_init 119 = .ok (.istore_n 1, 1) := by decide +kernel
theorem dX8_init_120 : decode cX8_init 120 = .ok (.iload_n 1, 1) := by decide +kernel
theorem dX8_init_121 : decode cX8_init 121 = .ok (.iconst 2, 1) := by decide +kernel
theorem dX8_init_122 : decode cX8_init 122 = .ok (.if_icmp .ge 22, 3) := by decide +kernel
theorem dX8_init_125 : decode cX8_init 125 = .ok (.aload_n 0, 1) := by decide +kernel
theorem dX8_init_126 : decode cX8_init 126 = .ok (.getfield 68, 3) := by decide +kernel
theorem dX8_init_129 : decode cX8_init 129 = .ok (.iload_n 1, 1) := by decide +kernel
theorem dX8_init_130 : decode cX8_init 130 = .ok (.new 7, 3) := by decide +kernel
theorem dX8_init_133 : decode cX8_init 133 = .ok (.dup, 1) := by decide +kernel
theorem dX8_init_134 : decode cX8_init 134 = .ok (.invokespecial 9, 3) := by decide +kernel
theorem dX8_init_137 : decode cX8_init 137 = .ok (.aastore, 1) := by decide +kernel
theorem dX8_init_138 : decode cX8_init 138 = .ok (.iinc 1 1, 3) := by decide +kernel
theorem dX8_init_141 : decode cX8_init 141 = .ok (.goto (-21), 3) := by decide +kernel
theorem dX8_init_144 : decode cX8_init 144 = .ok (.return_, 1) := by decide +kernel
set_option maxRecDepth 20000 in
theorem ggX8_type_X7_append : GoodIn wsX8_type wsX7_append := goodIn_r _ [7, 8, 9, 21, 22, 23, 24, 25, 26] (by decide +kernel) (by decide +kernel)
set_option maxRecDepth 20000 in
theorem gX8_type_X7_append : GoodIn wsX8_type (wsV RX8 76 RX7 yX7_append wsX7_append) := goodIn_app (goodIn_of _ (by decide +kernel)) ggX8_type_X7_append
theorem dX8_type_0 : decode cX8_type 0 = .ok (.iload_n 1, 1) := by decide +kernel
theorem dX8_type_1 : decode cX8_type 1 = .ok (.ifCond .lt 10, 3) := by decide +kernel
theorem dX8_type_4 : decode cX8_type 4 = .ok (.iload_n 1, 1) := by decide +kernel
theorem dX8_type_5 : decode cX8_type 5 = .ok (.sipush 255, 3) := by decide +kernel
theorem dX8_type_8 : decode cX8_type 8 = .ok (.if_icmp .le 5, 3) := by decide +kernel
theorem dX8_type_11 : decode cX8_type 11 = .ok (.iconst (-1), 1) := by decide +kernel
theorem dX8_type_12 : decode cX8_type 12 = .ok (.ireturn, 1) := by decide +kernel
theorem dX8_type_13 : decode cX8_type 13 = .ok (.aload_n 0, 1) := by decide +kernel
theorem dX8_type_14 : decode cX8_type 14 = .ok (.getfield 22, 3) := by decide +kernel
theorem dX8_type_17 : decode cX8_type 17 = .ok (.iload_n 1, 1) := by decide +kernel
theorem dX8_type_18 : decode cX8_type 18 = .ok (.invokevirtual 76, 3) := by decide +kernel
theorem dX8_type_21 : decode cX8_type 21 = .ok (.ifCond .eq 13, 3) := by decide +kernel
theorem dX8_type_24 : decode cX8_type 24 = .ok (.aload_n 0, 1) := by decide +kernel
theorem dX8_type_25 : decode cX8_type 25 = .ok (.getfield 22, 3) := by decide +kernel
theorem dX8_type_28 : decode cX8_type 28 = .ok (.getfield 80, 3) := by decide +kernel
theorem dX8_type_31 : decode cX8_type 31 = .ok (.goto 5, 3) := by decide +kernel
theorem dX8_type_34 : decode cX8_type 34 = .ok (.bipush (-3), 2) := by decide +kernel
theorem dX8_type_36 : decode cX8_type 36 = .ok (.ireturn, 1) := by decide +kernel
theorem dX8_clear_0 : decode cX8_clear 0 = .ok (.aload_n 0, 1) := by decide +kernel
theorem dX8_clear_1 : decode cX8_clear 1 = .ok (.getfield 22, 3) := by decide +kernel
theorem dX8_clear_4 : decode cX8_clear 4 = .ok (.getfield 80, 3) := by decide +kernel
theorem dX8_clear_7 : decode cX8_clear 7 = .ok (.istore_n 1, 1) := by decide +kernel
theorem dX8_clear_8 : decode cX8_clear 8 = .ok (.aload_n 0, 1) := by decide +kernel
theorem dX8_clear_9 : decode cX8_clear 9 = .ok (.getfield 22, 3) := by decide +kernel
theorem dX8_clear_12 : decode cX8_clear 12 = .ok (.iconst 0, 1) := by decide +kernel
theorem dX8_clear_13 : decode cX8_clear 13 = .ok (.putfield 80, 3) := by decide +kernel
theorem dX8_clear_16 : decode cX8_clear 16 = .ok (.iload_n 1, 1) := by decide +kernel
theorem dX8_clear_17 : decode cX8_clear 17 = .ok (.ireturn, 1) := by decide +kernel
set_option maxRecDepth 20000 in
theorem ggX8_store_X7_readInto : GoodIn wsX8_store wsX7_readInto := goodIn_r _ [15, 16, 17, 18, 19, 20, 21, 22, 23, 24, 25, 26, 27, 28, 29, 30, 31, 32, 14, 33, 34, 35, 36, 37, 38, 39, 40, 41, 42, 43, 44, 45, 46, 47, 48, 49, 50, 51, 52, 53, 54, 55, 56, 57, 58, 59, 60, 61, 62, 63, 64, 65, 66, 67, 68, 69, 70, 71, 72, 73, 74, 75, 76, 77, 78, 79, 80, 81, 82, 83, 84, 85, 86, 87, 88, 89, 90, 91, 92, 93, 94, 95, 96, 97, 98, 99, 100, 101, 102, 103, 104, 105, 106, 107, 108, 109, 110, 111, 112, 113, 114, 115, 116, 117, 118, 119, 120, 121, 122, 123, 124, 125, 126, 127, 128, 156, 157, 158, 159, 160, 161, 167, 168, 169, 170, 171, 172, 173] (by decide +kernel) (by decide +kernel)
set_option maxRecDepth 20000 in
theorem gX8_store_X7_readInto : GoodIn wsX8_store (wsV RX8 84 RX7 yX7_readInto wsX7_readInto) := goodIn_app (goodIn_of _ (by decide +kernel)) ggX8_store_X7_readInto
set_option maxRecDepth 20000 in
theorem ggX8_store_X3_copyOf : GoodIn wsX8_store wsX3_copyOf := goodIn_r _ [132, 24, 25, 26, 133, 134, 135, 136, 27, 28, 29, 167, 168, 169, 170, 171, 172, 173] (by decide +kernel) (by decide +kernel)
set_option maxRecDepth 20000 in
theorem gX8_store_X3_copyOf : GoodIn wsX8_store (wsV RX8 88 RX3 yX3_copyOf wsX3_copyOf) := goodIn_app (goodIn_of _ (by decide +kernel)) ggX8_store_X3_copyOf
set_option maxRecDepth 20000 in
theorem ggX8_store_X5_empty : GoodIn wsX8_store wsX5_empty := goodIn_r _ [141, 142, 143, 144, 174, 175, 176, 177, 178, 179] (by decide +kernel) (by decide +kernel)
set_option maxRecDepth 20000 in
theorem gX8_store_X5_empty : GoodIn wsX8_store (wsV RX8 96 RX5 yX5_empty wsX5_empty) := goodIn_app (goodIn_of _ (by decide +kernel)) ggX8_store_X5_empty
theorem dX8_store_0 : decode cX8_store 0 = .ok (.aload_n 0, 1) := by decide +kernel
theorem dX8_store_1 : decode cX8_store 1 = .ok (.getfield 22, 3) := by decide +kernel
theorem dX8_store_4 : decode cX8_store 4 = .ok (.aload_n 0, 1) := by decide +kernel
theorem dX8_store_5 : decode cX8_store 5 = .ok (.getfield 16, 3) := by decide +kernel
theorem dX8_store_8 : decode cX8_store 8 = .ok (.invokevirtual 84, 3) := by decide +kernel
theorem dX8_store_11 : decode cX8_store 11 = .ok (.istore_n 1, 1) := by decide +kernel
theorem dX8_store_12 : decode cX8_store 12 = .ok (.iload_n 1, 1) := by decide +kernel
theorem dX8_store_13 : decode cX8_store 13 = .ok (.ifCond .ge 5, 3) := by decide +kernel
theorem dX8_store_16 : decode cX8_store 16 = .ok (.iload_n 1, 1) := by decide +kernel
theorem dX8_store_17 : decode cX8_store 17 = .ok (.ireturn, 1) := by decide +kernel
theorem dX8_store_18 : decode cX8_store 18 = .ok (.aload_n 0, 1) := by decide +kernel
theorem dX8_store_19 : decode cX8_store 19 = .ok (.getfield 10, 3) := by decide +kernel
theorem dX8_store_22 : decode cX8_store 22 = .ok (.aload_n 0, 1) := by decide +kernel
theorem dX8_store_23 : decode cX8_store 23 = .ok (.getfield 16, 3) := by decide +kernel
theorem dX8_store_26 : decode cX8_store 26 = .ok (.invokevirtual 88, 3) := by decide +kernel
theorem dX8_store_29 : decode cX8_store 29 = .ok (.aload_n 0, 1) := by decide +kernel
theorem dX8_store_30 : decode cX8_store 30 = .ok (.getfield 22, 3) := by decide +kernel
theorem dX8_store_33 : decode cX8_store 33 = .ok (.iconst 0, 1) := by decide +kernel
theorem dX8_store_34 : decode cX8_store 34 = .ok (.putfield 80, 3) := by decide +kernel
theorem dX8_store_37 : decode cX8_store 37 = .ok (.aload_n 0, 1) := by decide +kernel
theorem dX8_store_38 : decode cX8_store 38 = .ok (.getfield 29, 3) := by decide +kernel
theorem dX8_store_41 : decode cX8_store 41 = .ok (.iconst 0, 1) := by decide +kernel
theorem dX8_store_42 : decode cX8_store 42 = .ok (.putfield 92, 3) := by decide +kernel
theorem dX8_store_45 : decode cX8_store 45 = .ok (.aload_n 0, 1) := by decide +kernel
theorem dX8_store_46 : decode cX8_store 46 = .ok (.getfield 36, 3) := by decide +kernel
theorem dX8_store_49 : decode cX8_store 49 = .ok (.iconst 0, 1) := by decide +kernel
theorem dX8_store_50 : decode cX8_store 50 = .ok (.putfield 95, 3) := by decide +kernel
theorem dX8_store_53 : decode cX8_store 53 = .ok (.aload_n 0, 1) := by decide +kernel
theorem dX8_store_54 : decode cX8_store 54 = .ok (.getfield 50, 3) := by decide +kernel
theorem dX8_store_57 : decode cX8_store 57 = .ok (.invokevirtual 96, 3) := by decide +kernel
theorem dX8_store_60 : decode cX8_store 60 = .ok (.iconst 0, 1) := by decide +kernel
theorem dX8_store_61 : decode cX8_store 61 = .ok (.istore_n 2, 1) := by decide +kernel
theorem dX8_store_62 : decode cX8_store 62 = .ok (.iload_n 2, 1) := by decide +kernel
theorem dX8_store_63 : decode cX8_store 63 = .ok (.iconst 2, 1) := by decide +kernel
theorem dX8_store_64 : decode cX8_store 64 = .ok (.if_icmp .ge 16, 3) := by decide +kernel
theorem dX8_store_67 : decode cX8_store 67 = .ok (.aload_n 0, 1) := by decide +kernel
theorem dX8_store_68 : decode cX8_store 68 = .ok (.getfield 72, 3) := by decide +kernel
theorem dX8_store_71 : decode cX8_store 71 = .ok (.iload_n 2, 1) := by decide +kernel
theorem dX8_store_72 : decode cX8_store 72 = .ok (.iconst 0, 1) := by decide +kernel
theorem dX8_store_73 : decode cX8_store 73 = .ok (.bastore, 1) := by decide +kernel
theorem dX8_store_74 : decode cX8_store 74 = .ok (.iinc 2 1, 3) := by decide +kernel
theorem dX8_store_77 : decode cX8_store 77 = .ok (.goto (-15), 3) := by decide +kernel
theorem dX8_store_80 : decode cX8_store 80 = .ok (.iload_n 1, 1) := by decide +kernel
theorem dX8_store_81 : decode cX8_store 81 = .ok (.ireturn, 1) := by decide +kernel
set_option maxRecDepth 20000 in
theorem ggX8_item_X3_isItem : GoodIn wsX8_item wsX3_isItem := goodIn_r _ [10, 11, 50, 51, 52, 53, 54, 55, 56] (by decide +kernel) (by decide +kernel)
set_option maxRecDepth 20000 in
theorem gX8_item_X3_isItem : GoodIn wsX8_item (wsV RX8 99 RX3 yX3_isItem wsX3_isItem) := goodIn_app (goodIn_of _ (by decide +kernel)) ggX8_item_X3_isItem
set_option maxRecDepth 20000 in
theorem ggX8_item_X3_allAheadOf : GoodIn wsX8_item wsX3_allAheadOf := goodIn_r _ [15, 16, 17, 18, 9, 19, 20, 21, 22, 50, 51, 52, 53, 54, 55, 56] (by decide +kernel) (by decide +kernel)
set_option maxRecDepth 20000 in
theorem gX8_item_X3_allAheadOf : GoodIn wsX8_item (wsV RX8 112 RX3 yX3_allAheadOf wsX3_allAheadOf) := goodIn_app (goodIn_of _ (by decide +kernel)) ggX8_item_X3_allAheadOf
set_option maxRecDepth 20000 in
theorem ggX8_item_J6_bitCount_0f7a4 : GoodIn wsX8_item wsJ6_bitCount_0f7a4 := goodIn_r _ [26, 27, 28, 29] (by decide +kernel) (by decide +kernel)
set_option maxRecDepth 20000 in
theorem gX8_item_J6_bitCount_0f7a4 : GoodIn wsX8_item (va_wsS RX8 116 yJ6_bitCount_0f7a4 wsJ6_bitCount_0f7a4) := goodIn_app (goodIn_of _ (by decide +kernel)) ggX8_item_J6_bitCount_0f7a4
set_option maxRecDepth 20000 in
theorem ggX8_item_X3_allBehind : GoodIn wsX8_item wsX3_allBehind := goodIn_r _ [33, 11, 34, 35, 36, 9, 37, 20, 21, 38, 50, 51, 52, 53, 54, 55, 56] (by decide +kernel) (by decide +kernel)
set_option maxRecDepth 20000 in
theorem gX8_item_X3_allBehind : GoodIn wsX8_item (wsV RX8 124 RX3 yX3_allBehind wsX3_allBehind) := goodIn_app (goodIn_of _ (by decide +kernel)) ggX8_item_X3_allBehind
theorem dX8_item_0 : decode cX8_item 0 = .ok (.aload_n 0, 1) := by decide +kernel
theorem dX8_item_1 : decode cX8_item 1 = .ok (.getfield 10, 3) := by decide +kernel
theorem dX8_item_4 : decode cX8_item 4 = .ok (.iload_n 1, 1) := by decide +kernel
theorem dX8_item_5 : decode cX8_item 5 = .ok (.invokevirtual 99, 3) := by decide +kernel
theorem dX8_item_8 : decode cX8_item 8 = .ok (.ifCond .ne 5, 3) := by decide +kernel
theorem dX8_item_11 : decode cX8_item 11 = .ok (.iconst (-1), 1) := by decide +kernel
theorem dX8_item_12 : decode cX8_item 12 = .ok (.ireturn, 1) := by decide +kernel
theorem dX8_item_13 : decode cX8_item 13 = .ok (.iload_n 2, 1) := by decide +kernel
theorem dX8_item_14 : decode cX8_item 14 = .ok (.tableswitch 124 0 6 #[42, 52, 62, 72, 84, 106, 115], 42) := by decide +kernel
theorem dX8_item_56 : decode cX8_item 56 = .ok (.aload_n 0, 1) := by decide +kernel
theorem dX8_item_57 : decode cX8_item 57 = .ok (.getfield 10, 3) := by decide +kernel
theorem dX8_item_60 : decode cX8_item 60 = .ok (.getfield 102, 3) := by decide +kernel
theorem dX8_item_63 : decode cX8_item 63 = .ok (.iload_n 1, 1) := by decide +kernel
theorem dX8_item_64 : decode cX8_item 64 = .ok (.iaload, 1) := by decide +kernel
theorem dX8_item_65 : decode cX8_item 65 = .ok (.ireturn, 1) := by decide +kernel
theorem dX8_item_66 : decode cX8_item 66 = .ok (.aload_n 0, 1) := by decide +kernel
theorem dX8_item_67 : decode cX8_item 67 = .ok (.getfield 10, 3) := by decide +kernel
theorem dX8_item_70 : decode cX8_item 70 = .ok (.getfield 106, 3) := by decide +kernel
theorem dX8_item_73 : decode cX8_item 73 = .ok (.iload_n 1, 1) := by decide +kernel
theorem dX8_item_74 : decode cX8_item 74 = .ok (.iaload, 1) := by decide +kernel
theorem dX8_item_75 : decode cX8_item 75 = .ok (.ireturn, 1) := by decide +kernel
theorem dX8_item_76 : decode cX8_item 76 = .ok (.aload_n 0, 1) := by decide +kernel
theorem dX8_item_77 : decode cX8_item 77 = .ok (.getfield 10, 3) := by decide +kernel
theorem dX8_item_80 : decode cX8_item 80 = .ok (.getfield 109, 3) := by decide +kernel
theorem dX8_item_83 : decode cX8_item 83 = .ok (.iload_n 1, 1) := by decide +kernel
theorem dX8_item_84 : decode cX8_item 84 = .ok (.iaload, 1) := by decide +kernel
theorem dX8_item_85 : decode cX8_item 85 = .ok (.ireturn, 1) := by decide +kernel
theorem dX8_item_86 : decode cX8_item 86 = .ok (.aload_n 0, 1) := by decide +kernel
theorem dX8_item_87 : decode cX8_item 87 = .ok (.getfield 10, 3) := by decide +kernel
theorem dX8_item_90 : decode cX8_item 90 = .ok (.iload_n 1, 1) := by decide +kernel
theorem dX8_item_91 : decode cX8_item 91 = .ok (.invokevirtual 112, 3) := by decide +kernel
theorem dX8_item_94 : decode cX8_item 94 = .ok (.invokestatic 116, 3) := by decide +kernel
theorem dX8_item_97 : decode cX8_item 97 = .ok (.ireturn, 1) := by decide +kernel
theorem dX8_item_98 : decode cX8_item 98 = .ok (.aload_n 0, 1) := by decide +kernel
theorem dX8_item_99 : decode cX8_item 99 = .ok (.getfield 10, 3) := by decide +kernel
theorem dX8_item_102 : decode cX8_item 102 = .ok (.getfield 121, 3) := by decide +kernel
theorem dX8_item_105 : decode cX8_item 105 = .ok (.iconst 1, 1) := by decide +kernel
theorem dX8_item_106 : decode cX8_item 106 = .ok (.isub, 1) := by decide +kernel
theorem dX8_item_107 : decode cX8_item 107 = .ok (.aload_n 0, 1) := by decide +kernel
theorem dX8_item_108 : decode cX8_item 108 = .ok (.getfield 10, 3) := by decide +kernel
theorem dX8_item_111 : decode cX8_item 111 = .ok (.iload_n 1, 1) := by decide +kernel
theorem dX8_item_112 : decode cX8_item 112 = .ok (.invokevirtual 124, 3) := by decide +kernel
theorem dX8_item_115 : decode cX8_item 115 = .ok (.invokestatic 116, 3) := by decide +kernel
theorem dX8_item_118 : decode cX8_item 118 = .ok (.isub, 1) := by decide +kernel
theorem dX8_item_119 : decode cX8_item 119 = .ok (.ireturn, 1) := by decide +kernel
theorem dX8_item_120 : decode cX8_item 120 = .ok (.aload_n 0, 1) := by decide +kernel
theorem dX8_item_121 : decode cX8_item 121 = .ok (.getfield 10, 3) := by decide +kernel
theorem dX8_item_124 : decode cX8_item 124 = .ok (.iload_n 1, 1) := by decide +kernel
theorem dX8_item_125 : decode cX8_item 125 = .ok (.invokevirtual 124, 3) := by decide +kernel
theorem dX8_item_128 : decode cX8_item 128 = .ok (.ireturn, 1) := by decide +kernel
theorem dX8_item_129 : decode cX8_item 129 = .ok (.aload_n 0, 1) := by decide +kernel
theorem dX8_item_130 : decode cX8_item 130 = .ok (.getfield 10, 3) := by decide +kernel
theorem dX8_item_133 : decode cX8_item 133 = .ok (.iload_n 1, 1) := by decide +kernel
theorem dX8_item_134 : decode cX8_item 134 = .ok (.invokevirtual 112, 3) := by decide +kernel
theorem dX8_item_137 : decode cX8_item 137 = .ok (.ireturn, 1) := by decide +kernel
theorem dX8_item_138 : decode cX8_item 138 = .ok (.iconst (-1), 1) := by decide +kernel
theorem dX8_item_139 : decode cX8_item 139 = .ok (.ireturn, 1) := by decide +kernel
set_option maxRecDepth 20000 in
theorem ggX8_at_X3_isItem : GoodIn wsX8_at wsX3_isItem := goodIn_r _ [7, 8, 20, 21, 22, 23, 24, 25, 26] (by decide +kernel) (by decide +kernel)
set_option maxRecDepth 20000 in
theorem gX8_at_X3_isItem : GoodIn wsX8_at (wsV RX8 99 RX3 yX3_isItem wsX3_isItem) := goodIn_app (goodIn_of _ (by decide +kernel)) ggX8_at_X3_isItem
theorem dX8_at_0 : decode cX8_at 0 = .ok (.aload_n 0, 1) := by decide +kernel
theorem dX8_at_1 : decode cX8_at 1 = .ok (.getfield 10, 3) := by decide +kernel
theorem dX8_at_4 : decode cX8_at 4 = .ok (.iload_n 1, 1) := by decide +kernel
theorem dX8_at_5 : decode cX8_at 5 = .ok (.invokevirtual 99, 3) := by decide +kernel
theorem dX8_at_8 : decode cX8_at 8 = .ok (.ifCond .eq 15, 3) := by decide +kernel
theorem dX8_at_11 : decode cX8_at 11 = .ok (.aload_n 0, 1) := by decide +kernel
theorem dX8_at_12 : decode cX8_at 12 = .ok (.getfield 10, 3) := by decide +kernel
theorem dX8_at_15 : decode cX8_at 15 = .ok (.getfield 127, 3) := by decide +kernel
theorem dX8_at_18 : decode cX8_at 18 = .ok (.iload_n 1, 1) := by decide +kernel
theorem dX8_at_19 : decode cX8_at 19 = .ok (.iaload, 1) := by decide +kernel
theorem dX8_at_20 : decode cX8_at 20 = .ok (.goto 4, 3) := by decide +kernel
theorem dX8_at_23 : decode cX8_at 23 = .ok (.iconst (-1), 1) := by decide +kernel
theorem dX8_at_24 : decode cX8_at 24 = .ok (.ireturn, 1) := by decide +kernel
set_option maxRecDepth 20000 in
theorem ggX8_now_X8_freeArcs : GoodIn wsX8_now wsX8_freeArcs := goodIn_r _ [9, 1, 10, 11, 12, 13, 14, 15, 16, 17, 18, 19, 20, 21, 22, 23, 24, 25, 26, 27, 28, 29, 30, 8, 31, 32, 33, 34, 35, 36, 37, 38, 39, 40, 41, 42, 43, 44, 45, 46, 47, 48, 49, 50, 51, 52, 53, 54, 55, 56, 57, 58, 99, 100, 101, 102, 103, 104, 105, 106, 107, 108, 109, 110, 111, 112, 113, 114, 115, 116] (by decide +kernel) (by decide +kernel)
set_option maxRecDepth 20000 in
theorem gX8_now_X8_freeArcs : GoodIn wsX8_now (wsV RX8 133 RX8 yX8_freeArcs wsX8_freeArcs) := goodIn_app (goodIn_of _ (by decide +kernel)) ggX8_now_X8_freeArcs
set_option maxRecDepth 20000 in
theorem ggX8_now_X8_arcMovingMost : GoodIn wsX8_now wsX8_arcMovingMost := goodIn_r _ [62, 1, 10, 11, 12, 13, 14, 15, 16, 17, 18, 19, 20, 21, 22, 23, 24, 25, 26, 27, 28, 29, 30, 8, 31, 32, 33, 34, 35, 36, 37, 38, 39, 40, 41, 42, 43, 44, 45, 46, 47, 48, 49, 50, 51, 52, 53, 54, 55, 56, 57, 58, 63, 64, 65, 66, 67, 68, 69, 70, 71, 72, 99, 100, 101, 102, 103, 104, 105, 106, 107, 108, 109, 110, 111, 112, 113, 114, 115, 116] (by decide +kernel) (by decide +kernel)
set_option maxRecDepth 20000 in
theorem gX8_now_X8_arcMovingMost : GoodIn wsX8_now (wsV RX8 137 RX8 yX8_arcMovingMost wsX8_arcMovingMost) := goodIn_app (goodIn_of _ (by decide +kernel)) ggX8_now_X8_arcMovingMost
set_option maxRecDepth 20000 in
theorem ggX8_now_X3_longestChain : GoodIn wsX8_now wsX3_longestChain := goodIn_r _ [76, 24, 77, 78, 79, 14, 80, 81, 82, 83, 84, 85, 86, 87, 88, 42, 30, 8, 31, 110, 111, 112, 113, 114, 115, 116] (by decide +kernel) (by decide +kernel)
set_option maxRecDepth 20000 in
theorem gX8_now_X3_longestChain : GoodIn wsX8_now (wsV RX8 140 RX3 yX3_longestChain wsX3_longestChain) := goodIn_app (goodIn_of _ (by decide +kernel)) ggX8_now_X3_longestChain
set_option maxRecDepth 20000 in
theorem ggX8_now_X8_spareArcs : GoodIn wsX8_now wsX8_spareArcs := goodIn_r _ [92, 1, 10, 93, 94, 95, 96, 14, 97, 24, 37, 38, 39, 40, 36, 41, 42, 98, 26, 27, 28, 29, 30, 8, 31, 99, 100, 101, 102, 103, 104, 105, 106, 107, 108, 109, 110, 111, 112, 113, 114, 115, 116] (by decide +kernel) (by decide +kernel)
set_option maxRecDepth 20000 in
theorem gX8_now_X8_spareArcs : GoodIn wsX8_now (wsV RX8 143 RX8 yX8_spareArcs wsX8_spareArcs) := goodIn_app (goodIn_of _ (by decide +kernel)) ggX8_now_X8_spareArcs
theorem dX8_now_0 : decode cX8_now 0 = .ok (.iload_n 1, 1) := by decide +kernel
theorem dX8_now_1 : decode cX8_now 1 = .ok (.tableswitch 78 0 5 #[39, 47, 52, 57, 65, 70], 39) := by decide +kernel
theorem dX8_now_40 : decode cX8_now 40 = .ok (.aload_n 0, 1) := by decide +kernel
theorem dX8_now_41 : decode cX8_now 41 = .ok (.getfield 10, 3) := by decide +kernel
theorem dX8_now_44 : decode cX8_now 44 = .ok (.getfield 130, 3) := by decide +kernel
theorem dX8_now_47 : decode cX8_now 47 = .ok (.ireturn, 1) := by decide +kernel
theorem dX8_now_48 : decode cX8_now 48 = .ok (.aload_n 0, 1) := by decide +kernel
theorem dX8_now_49 : decode cX8_now 49 = .ok (.invokevirtual 133, 3) := by decide +kernel
theorem dX8_now_52 : decode cX8_now 52 = .ok (.ireturn, 1) := by decide +kernel
theorem dX8_now_53 : decode cX8_now 53 = .ok (.aload_n 0, 1) := by decide +kernel
theorem dX8_now_54 : decode cX8_now 54 = .ok (.invokevirtual 137, 3) := by decide +kernel
theorem dX8_now_57 : decode cX8_now 57 = .ok (.ireturn, 1) := by decide +kernel
theorem dX8_now_58 : decode cX8_now 58 = .ok (.aload_n 0, 1) := by decide +kernel
theorem dX8_now_59 : decode cX8_now 59 = .ok (.getfield 10, 3) := by decide +kernel
theorem dX8_now_62 : decode cX8_now 62 = .ok (.invokevirtual 140, 3) := by decide +kernel
theorem dX8_now_65 : decode cX8_now 65 = .ok (.ireturn, 1) := by decide +kernel
theorem dX8_now_66 : decode cX8_now 66 = .ok (.aload_n 0, 1) := by decide +kernel
theorem dX8_now_67 : decode cX8_now 67 = .ok (.invokevirtual 143, 3) := by decide +kernel
theorem dX8_now_70 : decode cX8_now 70 = .ok (.ireturn, 1) := by decide +kernel
theorem dX8_now_71 : decode cX8_now 71 = .ok (.aload_n 0, 1) := by decide +kernel
theorem dX8_now_72 : decode cX8_now 72 = .ok (.getfield 36, 3) := by decide +kernel
theorem dX8_now_75 : decode cX8_now 75 = .ok (.getfield 95, 3) := by decide +kernel
theorem dX8_now_78 : decode cX8_now 78 = .ok (.ireturn, 1) := by decide +kernel
theorem dX8_now_79 : decode cX8_now 79 = .ok (.iconst (-1), 1) := by decide +kernel
theorem dX8_now_80 : decode cX8_now 80 = .ok (.ireturn, 1) := by decide +kernel
set_option maxRecDepth 20000 in
theorem ggX8_puts_X3_isPair : GoodIn wsX8_puts wsX3_isPair := goodIn_r _ [8, 9, 10, 11, 7, 12, 13, 129, 130, 131, 132, 133, 134, 135] (by decide +kernel) (by decide +kernel)
set_option maxRecDepth 20000 in
theorem gX8_puts_X3_isPair : GoodIn wsX8_puts (wsV RX8 146 RX3 yX3_isPair wsX3_isPair) := goodIn_app (goodIn_of _ (by decide +kernel)) ggX8_puts_X3_isPair
set_option maxRecDepth 20000 in
theorem ggX8_puts_X3_has : GoodIn wsX8_puts wsX3_has := goodIn_r _ [17, 18, 19, 20, 21, 129, 130, 131, 132, 133, 134, 135] (by decide +kernel) (by decide +kernel)
set_option maxRecDepth 20000 in
theorem gX8_puts_X3_has : GoodIn wsX8_puts (wsV RX8 150 RX3 yX3_has wsX3_has) := goodIn_app (goodIn_of _ (by decide +kernel)) ggX8_puts_X3_has
set_option maxRecDepth 20000 in
theorem ggX8_puts_X3_closesRing : GoodIn wsX8_puts wsX3_closesRing := goodIn_r _ [25, 26, 27, 28, 29, 7, 30, 31, 32, 19, 20, 21, 129, 130, 131, 132, 133, 134, 135] (by decide +kernel) (by decide +kernel)
set_option maxRecDepth 20000 in
theorem gX8_puts_X3_closesRing : GoodIn wsX8_puts (wsV RX8 153 RX3 yX3_closesRing wsX3_closesRing) := goodIn_app (goodIn_of _ (by decide +kernel)) ggX8_puts_X3_closesRing
set_option maxRecDepth 20000 in
theorem ggX8_puts_X2_trace : GoodIn wsX8_puts wsX2_trace := goodIn_r _ [37, 38, 39, 40, 41, 42, 43, 36, 44, 45, 46, 47, 48, 49, 50, 51, 52, 53, 54, 55, 56, 15, 16, 7, 17, 18, 19, 20, 21, 57, 58, 59, 60, 136, 137, 138, 129, 130, 131, 132, 133, 134, 135] (by decide +kernel) (by decide +kernel)
set_option maxRecDepth 20000 in
theorem gX8_puts_X2_trace : GoodIn wsX8_puts (wsV RX8 156 RX2 yX2_trace wsX2_trace) := goodIn_app (goodIn_of _ (by decide +kernel)) ggX8_puts_X2_trace
set_option maxRecDepth 20000 in
theorem ggX8_puts_X4_push : GoodIn wsX8_puts wsX4_push := goodIn_r _ [65, 66, 67, 68, 69, 70, 64, 71, 72, 73, 74, 7, 75, 13, 76, 18, 77, 78, 79, 80, 32, 31, 26, 139, 140, 129, 130, 131, 132, 133, 134, 135] (by decide +kernel) (by decide +kernel)
set_option maxRecDepth 20000 in
theorem gX8_puts_X4_push : GoodIn wsX8_puts (wsV RX8 160 RX4 yX4_push wsX4_push) := goodIn_app (goodIn_of _ (by decide +kernel)) ggX8_puts_X4_push
set_option maxRecDepth 20000 in
theorem ggX8_puts_X3_put : GoodIn wsX8_puts wsX3_put := goodIn_r _ [84, 18, 32, 76, 85, 23, 24, 7, 25, 26, 27, 28, 29, 30, 31, 19, 20, 21, 86, 87, 88, 89, 90, 91, 92, 93, 94, 95, 96, 97, 98, 99, 100, 101, 13, 102, 103, 104, 105, 106, 107, 108, 109, 110, 111, 112, 113, 114, 115, 116, 117, 129, 130, 131, 132, 133, 134, 135] (by decide +kernel) (by decide +kernel)
set_option maxRecDepth 20000 in
theorem gX8_puts_X3_put : GoodIn wsX8_puts (wsV RX8 163 RX3 yX3_put wsX3_put) := goodIn_app (goodIn_of _ (by decide +kernel)) ggX8_puts_X3_put
theorem dX8_puts_0 : decode cX8_puts 0 = .ok (.aload_n 0, 1) := by decide +kernel
theorem dX8_puts_1 : decode cX8_puts 1 = .ok (.getfield 10, 3) := by decide +kernel
theorem dX8_puts_4 : decode cX8_puts 4 = .ok (.iload_n 1, 1) := by decide +kernel
theorem dX8_puts_5 : decode cX8_puts 5 = .ok (.iload_n 2, 1) := by decide +kernel
theorem dX8_puts_6 : decode cX8_puts 6 = .ok (.invokevirtual 146, 3) := by decide +kernel
theorem dX8_puts_9 : decode cX8_puts 9 = .ok (.ifCond .ne 5, 3) := by decide +kernel
theorem dX8_puts_12 : decode cX8_puts 12 = .ok (.iconst (-1), 1) := by decide +kernel
theorem dX8_puts_13 : decode cX8_puts 13 = .ok (.ireturn, 1) := by decide +kernel
theorem dX8_puts_14 : decode cX8_puts 14 = .ok (.aload_n 0, 1) := by decide +kernel
theorem dX8_puts_15 : decode cX8_puts 15 = .ok (.getfield 10, 3) := by decide +kernel
theorem dX8_puts_18 : decode cX8_puts 18 = .ok (.iload_n 1, 1) := by decide +kernel
theorem dX8_puts_19 : decode cX8_puts 19 = .ok (.iload_n 2, 1) := by decide +kernel
theorem dX8_puts_20 : decode cX8_puts 20 = .ok (.invokevirtual 150, 3) := by decide +kernel
theorem dX8_puts_23 : decode cX8_puts 23 = .ok (.ifCond .eq 6, 3) := by decide +kernel
theorem dX8_puts_26 : decode cX8_puts 26 = .ok (.bipush (-2), 2) := by decide +kernel
theorem dX8_puts_28 : decode cX8_puts 28 = .ok (.ireturn, 1) := by decide +kernel
theorem dX8_puts_29 : decode cX8_puts 29 = .ok (.aload_n 0, 1) := by decide +kernel
theorem dX8_puts_30 : decode cX8_puts 30 = .ok (.getfield 10, 3) := by decide +kernel
theorem dX8_puts_33 : decode cX8_puts 33 = .ok (.iload_n 1, 1) := by decide +kernel
theorem dX8_puts_34 : decode cX8_puts 34 = .ok (.iload_n 2, 1) := by decide +kernel
theorem dX8_puts_35 : decode cX8_puts 35 = .ok (.invokevirtual 153, 3) := by decide +kernel
theorem dX8_puts_38 : decode cX8_puts 38 = .ok (.ifCond .eq 19, 3) := by decide +kernel
theorem dX8_puts_41 : decode cX8_puts 41 = .ok (.aload_n 0, 1) := by decide +kernel
theorem dX8_puts_42 : decode cX8_puts 42 = .ok (.getfield 43, 3) := by decide +kernel
theorem dX8_puts_45 : decode cX8_puts 45 = .ok (.aload_n 0, 1) := by decide +kernel
theorem dX8_puts_46 : decode cX8_puts 46 = .ok (.getfield 10, 3) := by decide +kernel
theorem dX8_puts_49 : decode cX8_puts 49 = .ok (.iload_n 1, 1) := by decide +kernel
theorem dX8_puts_50 : decode cX8_puts 50 = .ok (.iload_n 2, 1) := by decide +kernel
theorem dX8_puts_51 : decode cX8_puts 51 = .ok (.invokevirtual 156, 3) := by decide +kernel
theorem dX8_puts_54 : decode cX8_puts 54 = .ok (.bipush (-4), 2) := by decide +kernel
theorem dX8_puts_56 : decode cX8_puts 56 = .ok (.ireturn, 1) := by decide +kernel
theorem dX8_puts_57 : decode cX8_puts 57 = .ok (.aload_n 0, 1) := by decide +kernel
theorem dX8_puts_58 : decode cX8_puts 58 = .ok (.getfield 36, 3) := by decide +kernel
theorem dX8_puts_61 : decode cX8_puts 61 = .ok (.aload_n 0, 1) := by decide +kernel
theorem dX8_puts_62 : decode cX8_puts 62 = .ok (.getfield 10, 3) := by decide +kernel
theorem dX8_puts_65 : decode cX8_puts 65 = .ok (.invokevirtual 160, 3) := by decide +kernel
theorem dX8_puts_68 : decode cX8_puts 68 = .ok (.aload_n 0, 1) := by decide +kernel
theorem dX8_puts_69 : decode cX8_puts 69 = .ok (.getfield 10, 3) := by decide +kernel
theorem dX8_puts_72 : decode cX8_puts 72 = .ok (.iload_n 1, 1) := by decide +kernel
theorem dX8_puts_73 : decode cX8_puts 73 = .ok (.iload_n 2, 1) := by decide +kernel
theorem dX8_puts_74 : decode cX8_puts 74 = .ok (.invokevirtual 163, 3) := by decide +kernel
theorem dX8_puts_77 : decode cX8_puts 77 = .ok (.ireturn, 1) := by decide +kernel
set_option maxRecDepth 20000 in
theorem ggX8_lists_X3_isPair : GoodIn wsX8_lists wsX3_isPair := goodIn_r _ [8, 9, 10, 11, 7, 12, 13, 48, 49, 50, 51, 52, 53, 54] (by decide +kernel) (by decide +kernel)
set_option maxRecDepth 20000 in
theorem gX8_lists_X3_isPair : GoodIn wsX8_lists (wsV RX8 146 RX3 yX3_isPair wsX3_isPair) := goodIn_app (goodIn_of _ (by decide +kernel)) ggX8_lists_X3_isPair
set_option maxRecDepth 20000 in
theorem ggX8_lists_X3_has : GoodIn wsX8_lists wsX3_has := goodIn_r _ [17, 18, 19, 20, 21, 48, 49, 50, 51, 52, 53, 54] (by decide +kernel) (by decide +kernel)
set_option maxRecDepth 20000 in
theorem gX8_lists_X3_has : GoodIn wsX8_lists (wsV RX8 150 RX3 yX3_has wsX3_has) := goodIn_app (goodIn_of _ (by decide +kernel)) ggX8_lists_X3_has
set_option maxRecDepth 20000 in
theorem ggX8_lists_X0_holds : GoodIn wsX8_lists wsX0_holds := goodIn_r _ [26, 27, 28, 29, 45, 46, 47] (by decide +kernel) (by decide +kernel)
set_option maxRecDepth 20000 in
theorem gX8_lists_X0_holds : GoodIn wsX8_lists (wsV RX8 167 RX0 yX0_holds wsX0_holds) := goodIn_app (goodIn_of _ (by decide +kernel)) ggX8_lists_X0_holds
set_option maxRecDepth 20000 in
theorem ggX8_lists_X0_append : GoodIn wsX8_lists wsX0_append := goodIn_r _ [33, 27, 28, 29, 45, 46, 47] (by decide +kernel) (by decide +kernel)
set_option maxRecDepth 20000 in
theorem gX8_lists_X0_append : GoodIn wsX8_lists (wsV RX8 170 RX0 yX0_append wsX0_append) := goodIn_app (goodIn_of _ (by decide +kernel)) ggX8_lists_X0_append
theorem dX8_lists_0 : decode cX8_lists 0 = .ok (.aload_n 0, 1) := by decide +kernel
theorem dX8_lists_1 : decode cX8_lists 1 = .ok (.getfield 10, 3) := by decide +kernel
theorem dX8_lists_4 : decode cX8_lists 4 = .ok (.iload_n 1, 1) := by decide +kernel
theorem dX8_lists_5 : decode cX8_lists 5 = .ok (.iload_n 2, 1) := by decide +kernel
theorem dX8_lists_6 : decode cX8_lists 6 = .ok (.invokevirtual 146, 3) := by decide +kernel
theorem dX8_lists_9 : decode cX8_lists 9 = .ok (.ifCond .ne 5, 3) := by decide +kernel
theorem dX8_lists_12 : decode cX8_lists 12 = .ok (.iconst (-1), 1) := by decide +kernel
theorem dX8_lists_13 : decode cX8_lists 13 = .ok (.ireturn, 1) := by decide +kernel
theorem dX8_lists_14 : decode cX8_lists 14 = .ok (.aload_n 0, 1) := by decide +kernel
theorem dX8_lists_15 : decode cX8_lists 15 = .ok (.getfield 10, 3) := by decide +kernel
theorem dX8_lists_18 : decode cX8_lists 18 = .ok (.iload_n 1, 1) := by decide +kernel
theorem dX8_lists_19 : decode cX8_lists 19 = .ok (.iload_n 2, 1) := by decide +kernel
theorem dX8_lists_20 : decode cX8_lists 20 = .ok (.invokevirtual 150, 3) := by decide +kernel
theorem dX8_lists_23 : decode cX8_lists 23 = .ok (.ifCond .ne 15, 3) := by decide +kernel
theorem dX8_lists_26 : decode cX8_lists 26 = .ok (.aload_n 0, 1) := by decide +kernel
theorem dX8_lists_27 : decode cX8_lists 27 = .ok (.getfield 29, 3) := by decide +kernel
theorem dX8_lists_30 : decode cX8_lists 30 = .ok (.iload_n 1, 1) := by decide +kernel
theorem dX8_lists_31 : decode cX8_lists 31 = .ok (.iload_n 2, 1) := by decide +kernel
theorem dX8_lists_32 : decode cX8_lists 32 = .ok (.invokevirtual 167, 3) := by decide +kernel
theorem dX8_lists_35 : decode cX8_lists 35 = .ok (.ifCond .eq 6, 3) := by decide +kernel
theorem dX8_lists_38 : decode cX8_lists 38 = .ok (.bipush (-2), 2) := by decide +kernel
theorem dX8_lists_40 : decode cX8_lists 40 = .ok (.ireturn, 1) := by decide +kernel
theorem dX8_lists_41 : decode cX8_lists 41 = .ok (.aload_n 0, 1) := by decide +kernel
theorem dX8_lists_42 : decode cX8_lists 42 = .ok (.getfield 29, 3) := by decide +kernel
theorem dX8_lists_45 : decode cX8_lists 45 = .ok (.iload_n 1, 1) := by decide +kernel
theorem dX8_lists_46 : decode cX8_lists 46 = .ok (.iload_n 2, 1) := by decide +kernel
theorem dX8_lists_47 : decode cX8_lists 47 = .ok (.invokevirtual 170, 3) := by decide +kernel
theorem dX8_lists_50 : decode cX8_lists 50 = .ok (.ifCond .eq 13, 3) := by decide +kernel
theorem dX8_lists_53 : decode cX8_lists 53 = .ok (.aload_n 0, 1) := by decide +kernel
theorem dX8_lists_54 : decode cX8_lists 54 = .ok (.getfield 29, 3) := by decide +kernel
theorem dX8_lists_57 : decode cX8_lists 57 = .ok (.getfield 92, 3) := by decide +kernel
theorem dX8_lists_60 : decode cX8_lists 60 = .ok (.goto 5, 3) := by decide +kernel
theorem dX8_lists_63 : decode cX8_lists 63 = .ok (.bipush (-3), 2) := by decide +kernel
theorem dX8_lists_65 : decode cX8_lists 65 = .ok (.ireturn, 1) := by decide +kernel
set_option maxRecDepth 20000 in
theorem ggX8_adds_X0_isAnyIn : GoodIn wsX8_adds wsX0_isAnyIn := goodIn_r _ [10, 11, 12, 13, 14, 15, 16, 17, 18, 19, 20, 21, 22, 143, 144, 145, 146, 147, 148, 149, 150, 151, 152] (by decide +kernel) (by decide +kernel)
set_option maxRecDepth 20000 in
theorem gX8_adds_X0_isAnyIn : GoodIn wsX8_adds (wsV RX8 172 RX0 yX0_isAnyIn wsX0_isAnyIn) := goodIn_app (goodIn_of _ (by decide +kernel)) ggX8_adds_X0_isAnyIn
set_option maxRecDepth 20000 in
theorem ggX8_adds_X3_copyOf : GoodIn wsX8_adds wsX3_copyOf := goodIn_r _ [26, 27, 28, 19, 29, 30, 31, 32, 33, 34, 35, 146, 147, 148, 149, 150, 151, 152] (by decide +kernel) (by decide +kernel)
set_option maxRecDepth 20000 in
theorem gX8_adds_X3_copyOf : GoodIn wsX8_adds (wsV RX8 88 RX3 yX3_copyOf wsX3_copyOf) := goodIn_app (goodIn_of _ (by decide +kernel)) ggX8_adds_X3_copyOf
set_option maxRecDepth 20000 in
theorem ggX8_adds_X8_putListed : GoodIn wsX8_adds wsX8_putListed := goodIn_r _ [39, 1, 2, 40, 41, 3, 42, 43, 44, 45, 17, 46, 35, 47, 48, 49, 50, 34, 33, 20, 21, 22, 51, 52, 53, 54, 55, 56, 57, 58, 59, 60, 61, 62, 63, 64, 65, 66, 67, 68, 69, 70, 71, 72, 73, 74, 15, 16, 18, 19, 75, 76, 77, 78, 79, 80, 81, 82, 28, 83, 84, 85, 86, 87, 88, 89, 90, 91, 92, 93, 94, 95, 96, 97, 98, 99, 27, 100, 101, 102, 103, 104, 105, 106, 107, 108, 109, 110, 111, 112, 113, 114, 115, 132, 133, 134, 135, 136, 137, 138, 139, 140, 141, 142, 143, 144, 145, 146, 147, 148, 149, 150, 151, 152, 153, 154, 155] (by decide +kernel) (by decide +kernel)
set_option maxRecDepth 20000 in
theorem gX8_adds_X8_putListed : GoodIn wsX8_adds (wsV RX8 176 RX8 yX8_putListed wsX8_putListed) := goodIn_app (goodIn_of _ (by decide +kernel)) ggX8_adds_X8_putListed
set_option maxRecDepth 20000 in
theorem ggX8_adds_X4_push : GoodIn wsX8_adds wsX4_push := goodIn_r _ [120, 121, 122, 123, 124, 125, 119, 126, 127, 24, 25, 17, 26, 27, 28, 19, 29, 30, 31, 32, 33, 34, 35, 156, 157, 146, 147, 148, 149, 150, 151, 152] (by decide +kernel) (by decide +kernel)
set_option maxRecDepth 20000 in
theorem gX8_adds_X4_push : GoodIn wsX8_adds (wsV RX8 160 RX4 yX4_push wsX4_push) := goodIn_app (goodIn_of _ (by decide +kernel)) ggX8_adds_X4_push
set_option maxRecDepth 20000 in
theorem ggX8_adds_X3_placesUnlike : GoodIn wsX8_adds wsX3_placesUnlike := goodIn_r _ [131, 27, 35, 146, 147, 148, 149, 150, 151, 152] (by decide +kernel) (by decide +kernel)
set_option maxRecDepth 20000 in
theorem gX8_adds_X3_placesUnlike : GoodIn wsX8_adds (wsV RX8 180 RX3 yX3_placesUnlike wsX3_placesUnlike) := goodIn_app (goodIn_of _ (by decide +kernel)) ggX8_adds_X3_placesUnlike
theorem dX8_adds_0 : decode cX8_adds 0 = .ok (.aload_n 0, 1) := by decide +kernel
theorem dX8_adds_1 : decode cX8_adds 1 = .ok (.getfield 29, 3) := by decide +kernel
theorem dX8_adds_4 : decode cX8_adds 4 = .ok (.getfield 92, 3) := by decide +kernel
theorem dX8_adds_7 : decode cX8_adds 7 = .ok (.ifCond .eq 17, 3) := by decide +kernel
theorem dX8_adds_10 : decode cX8_adds 10 = .ok (.aload_n 0, 1) := by decide +kernel
theorem dX8_adds_11 : decode cX8_adds 11 = .ok (.getfield 29, 3) := by decide +kernel
theorem dX8_adds_14 : decode cX8_adds 14 = .ok (.aload_n 0, 1) := by decide +kernel
theorem dX8_adds_15 : decode cX8_adds 15 = .ok (.getfield 10, 3) := by decide +kernel
theorem dX8_adds_18 : decode cX8_adds 18 = .ok (.invokevirtual 172, 3) := by decide +kernel
theorem dX8_adds_21 : decode cX8_adds 21 = .ok (.ifCond .eq 6, 3) := by decide +kernel
theorem dX8_adds_24 : decode cX8_adds 24 = .ok (.bipush (-2), 2) := by decide +kernel
theorem dX8_adds_26 : decode cX8_adds 26 = .ok (.ireturn, 1) := by decide +kernel
theorem dX8_adds_27 : decode cX8_adds 27 = .ok (.aload_n 0, 1) := by decide +kernel
theorem dX8_adds_28 : decode cX8_adds 28 = .ok (.getfield 16, 3) := by decide +kernel
theorem dX8_adds_31 : decode cX8_adds 31 = .ok (.aload_n 0, 1) := by decide +kernel
theorem dX8_adds_32 : decode cX8_adds 32 = .ok (.getfield 10, 3) := by decide +kernel
theorem dX8_adds_35 : decode cX8_adds 35 = .ok (.invokevirtual 88, 3) := by decide +kernel
theorem dX8_adds_38 : decode cX8_adds 38 = .ok (.aload_n 0, 1) := by decide +kernel
theorem dX8_adds_39 : decode cX8_adds 39 = .ok (.invokevirtual 176, 3) := by decide +kernel
theorem dX8_adds_42 : decode cX8_adds 42 = .ok (.istore_n 1, 1) := by decide +kernel
theorem dX8_adds_43 : decode cX8_adds 43 = .ok (.aload_n 0, 1) := by decide +kernel
theorem dX8_adds_44 : decode cX8_adds 44 = .ok (.getfield 29, 3) := by decide +kernel
theorem dX8_adds_47 : decode cX8_adds 47 = .ok (.iconst 0, 1) := by decide +kernel
theorem dX8_adds_48 : decode cX8_adds 48 = .ok (.putfield 92, 3) := by decide +kernel
theorem dX8_adds_51 : decode cX8_adds 51 = .ok (.iload_n 1, 1) := by decide +kernel
theorem dX8_adds_52 : decode cX8_adds 52 = .ok (.ifCond .ne 17, 3) := by decide +kernel
theorem dX8_adds_55 : decode cX8_adds 55 = .ok (.aload_n 0, 1) := by decide +kernel
theorem dX8_adds_56 : decode cX8_adds 56 = .ok (.getfield 10, 3) := by decide +kernel
theorem dX8_adds_59 : decode cX8_adds 59 = .ok (.aload_n 0, 1) := by decide +kernel
theorem dX8_adds_60 : decode cX8_adds 60 = .ok (.getfield 16, 3) := by decide +kernel
theorem dX8_adds_63 : decode cX8_adds 63 = .ok (.invokevirtual 88, 3) := by decide +kernel
theorem dX8_adds_66 : decode cX8_adds 66 = .ok (.bipush (-4), 2) := by decide +kernel
theorem dX8_adds_68 : decode cX8_adds 68 = .ok (.ireturn, 1) := by decide +kernel
theorem dX8_adds_69 : decode cX8_adds 69 = .ok (.aload_n 0, 1) := by decide +kernel
theorem dX8_adds_70 : decode cX8_adds 70 = .ok (.getfield 36, 3) := by decide +kernel
theorem dX8_adds_73 : decode cX8_adds 73 = .ok (.aload_n 0, 1) := by decide +kernel
theorem dX8_adds_74 : decode cX8_adds 74 = .ok (.getfield 16, 3) := by decide +kernel
theorem dX8_adds_77 : decode cX8_adds 77 = .ok (.invokevirtual 160, 3) := by decide +kernel
theorem dX8_adds_80 : decode cX8_adds 80 = .ok (.aload_n 0, 1) := by decide +kernel
theorem dX8_adds_81 : decode cX8_adds 81 = .ok (.getfield 10, 3) := by decide +kernel
theorem dX8_adds_84 : decode cX8_adds 84 = .ok (.aload_n 0, 1) := by decide +kernel
theorem dX8_adds_85 : decode cX8_adds 85 = .ok (.getfield 16, 3) := by decide +kernel
theorem dX8_adds_88 : decode cX8_adds 88 = .ok (.invokevirtual 180, 3) := by decide +kernel
theorem dX8_adds_91 : decode cX8_adds 91 = .ok (.ireturn, 1) := by decide +kernel
set_option maxRecDepth 20000 in
theorem ggX8_cuts_X3_isPair : GoodIn wsX8_cuts wsX3_isPair := goodIn_r _ [8, 9, 10, 11, 7, 12, 13, 60, 61, 62, 63, 64, 65, 66] (by decide +kernel) (by decide +kernel)
set_option maxRecDepth 20000 in
theorem gX8_cuts_X3_isPair : GoodIn wsX8_cuts (wsV RX8 146 RX3 yX3_isPair wsX3_isPair) := goodIn_app (goodIn_of _ (by decide +kernel)) ggX8_cuts_X3_isPair
set_option maxRecDepth 20000 in
theorem ggX8_cuts_X3_has : GoodIn wsX8_cuts wsX3_has := goodIn_r _ [17, 18, 19, 20, 21, 60, 61, 62, 63, 64, 65, 66] (by decide +kernel) (by decide +kernel)
set_option maxRecDepth 20000 in
theorem gX8_cuts_X3_has : GoodIn wsX8_cuts (wsV RX8 150 RX3 yX3_has wsX3_has) := goodIn_app (goodIn_of _ (by decide +kernel)) ggX8_cuts_X3_has
set_option maxRecDepth 20000 in
theorem ggX8_cuts_X4_push : GoodIn wsX8_cuts wsX4_push := goodIn_r _ [26, 27, 28, 29, 30, 31, 25, 32, 33, 34, 35, 7, 36, 13, 37, 18, 38, 39, 40, 41, 42, 43, 44, 67, 68, 60, 61, 62, 63, 64, 65, 66] (by decide +kernel) (by decide +kernel)
set_option maxRecDepth 20000 in
theorem gX8_cuts_X4_push : GoodIn wsX8_cuts (wsV RX8 160 RX4 yX4_push wsX4_push) := goodIn_app (goodIn_of _ (by decide +kernel)) ggX8_cuts_X4_push
set_option maxRecDepth 20000 in
theorem ggX8_cuts_X3_part : GoodIn wsX8_cuts wsX3_part := goodIn_r _ [48, 18, 42, 37, 60, 61, 62, 63, 64, 65, 66] (by decide +kernel) (by decide +kernel)
set_option maxRecDepth 20000 in
theorem gX8_cuts_X3_part : GoodIn wsX8_cuts (wsV RX8 183 RX3 yX3_part wsX3_part) := goodIn_app (goodIn_of _ (by decide +kernel)) ggX8_cuts_X3_part
theorem dX8_cuts_0 : decode cX8_cuts 0 = .ok (.aload_n 0, 1) := by decide +kernel
theorem dX8_cuts_1 : decode cX8_cuts 1 = .ok (.getfield 10, 3) := by decide +kernel
theorem dX8_cuts_4 : decode cX8_cuts 4 = .ok (.iload_n 1, 1) := by decide +kernel
theorem dX8_cuts_5 : decode cX8_cuts 5 = .ok (.iload_n 2, 1) := by decide +kernel
theorem dX8_cuts_6 : decode cX8_cuts 6 = .ok (.invokevirtual 146, 3) := by decide +kernel
theorem dX8_cuts_9 : decode cX8_cuts 9 = .ok (.ifCond .ne 5, 3) := by decide +kernel
theorem dX8_cuts_12 : decode cX8_cuts 12 = .ok (.iconst (-1), 1) := by decide +kernel
theorem dX8_cuts_13 : decode cX8_cuts 13 = .ok (.ireturn, 1) := by decide +kernel
theorem dX8_cuts_14 : decode cX8_cuts 14 = .ok (.aload_n 0, 1) := by decide +kernel
theorem dX8_cuts_15 : decode cX8_cuts 15 = .ok (.getfield 10, 3) := by decide +kernel
theorem dX8_cuts_18 : decode cX8_cuts 18 = .ok (.iload_n 1, 1) := by decide +kernel
theorem dX8_cuts_19 : decode cX8_cuts 19 = .ok (.iload_n 2, 1) := by decide +kernel
theorem dX8_cuts_20 : decode cX8_cuts 20 = .ok (.invokevirtual 150, 3) := by decide +kernel
theorem dX8_cuts_23 : decode cX8_cuts 23 = .ok (.ifCond .ne 6, 3) := by decide +kernel
theorem dX8_cuts_26 : decode cX8_cuts 26 = .ok (.bipush (-2), 2) := by decide +kernel
theorem dX8_cuts_28 : decode cX8_cuts 28 = .ok (.ireturn, 1) := by decide +kernel
theorem dX8_cuts_29 : decode cX8_cuts 29 = .ok (.aload_n 0, 1) := by decide +kernel
theorem dX8_cuts_30 : decode cX8_cuts 30 = .ok (.getfield 36, 3) := by decide +kernel
theorem dX8_cuts_33 : decode cX8_cuts 33 = .ok (.aload_n 0, 1) := by decide +kernel
theorem dX8_cuts_34 : decode cX8_cuts 34 = .ok (.getfield 10, 3) := by decide +kernel
theorem dX8_cuts_37 : decode cX8_cuts 37 = .ok (.invokevirtual 160, 3) := by decide +kernel
theorem dX8_cuts_40 : decode cX8_cuts 40 = .ok (.aload_n 0, 1) := by decide +kernel
theorem dX8_cuts_41 : decode cX8_cuts 41 = .ok (.getfield 10, 3) := by decide +kernel
theorem dX8_cuts_44 : decode cX8_cuts 44 = .ok (.iload_n 1, 1) := by decide +kernel
theorem dX8_cuts_45 : decode cX8_cuts 45 = .ok (.iload_n 2, 1) := by decide +kernel
theorem dX8_cuts_46 : decode cX8_cuts 46 = .ok (.invokevirtual 183, 3) := by decide +kernel
theorem dX8_cuts_49 : decode cX8_cuts 49 = .ok (.aload_n 0, 1) := by decide +kernel
theorem dX8_cuts_50 : decode cX8_cuts 50 = .ok (.getfield 10, 3) := by decide +kernel
theorem dX8_cuts_53 : decode cX8_cuts 53 = .ok (.getfield 130, 3) := by decide +kernel
theorem dX8_cuts_56 : decode cX8_cuts 56 = .ok (.ireturn, 1) := by decide +kernel
set_option maxRecDepth 20000 in
theorem ggX8_sorts_X4_push : GoodIn wsX8_sorts wsX4_push := goodIn_r _ [8, 9, 10, 11, 12, 13, 7, 14, 15, 16, 17, 18, 19, 20, 21, 22, 23, 24, 25, 26, 27, 28, 29, 61, 62, 63, 64, 65, 66, 67, 68, 69] (by decide +kernel) (by decide +kernel)
set_option maxRecDepth 20000 in
theorem gX8_sorts_X4_push : GoodIn wsX8_sorts (wsV RX8 160 RX4 yX4_push wsX4_push) := goodIn_app (goodIn_of _ (by decide +kernel)) ggX8_sorts_X4_push
set_option maxRecDepth 20000 in
theorem ggX8_sorts_X3_copyOf : GoodIn wsX8_sorts wsX3_copyOf := goodIn_r _ [19, 20, 21, 22, 23, 24, 25, 26, 27, 28, 29, 63, 64, 65, 66, 67, 68, 69] (by decide +kernel) (by decide +kernel)
set_option maxRecDepth 20000 in
theorem gX8_sorts_X3_copyOf : GoodIn wsX8_sorts (wsV RX8 88 RX3 yX3_copyOf wsX3_copyOf) := goodIn_app (goodIn_of _ (by decide +kernel)) ggX8_sorts_X3_copyOf
set_option maxRecDepth 20000 in
theorem ggX8_sorts_X3_sort : GoodIn wsX8_sorts wsX3_sort := goodIn_r _ [34, 20, 35, 36, 37, 18, 38, 27, 39, 40, 41, 42, 43, 44, 45, 28, 29, 63, 64, 65, 66, 67, 68, 69] (by decide +kernel) (by decide +kernel)
set_option maxRecDepth 20000 in
theorem gX8_sorts_X3_sort : GoodIn wsX8_sorts (wsV RX8 187 RX3 yX3_sort wsX3_sort) := goodIn_app (goodIn_of _ (by decide +kernel)) ggX8_sorts_X3_sort
set_option maxRecDepth 20000 in
theorem ggX8_sorts_X3_placesUnlike : GoodIn wsX8_sorts wsX3_placesUnlike := goodIn_r _ [49, 20, 29, 63, 64, 65, 66, 67, 68, 69] (by decide +kernel) (by decide +kernel)
set_option maxRecDepth 20000 in
theorem gX8_sorts_X3_placesUnlike : GoodIn wsX8_sorts (wsV RX8 180 RX3 yX3_placesUnlike wsX3_placesUnlike) := goodIn_app (goodIn_of _ (by decide +kernel)) ggX8_sorts_X3_placesUnlike
theorem dX8_sorts_0 : decode cX8_sorts 0 = .ok (.aload_n 0, 1) := by decide +kernel
theorem dX8_sorts_1 : decode cX8_sorts 1 = .ok (.getfield 36, 3) := by decide +kernel
theorem dX8_sorts_4 : decode cX8_sorts 4 = .ok (.aload_n 0, 1) := by decide +kernel
theorem dX8_sorts_5 : decode cX8_sorts 5 = .ok (.getfield 10, 3) := by decide +kernel
theorem dX8_sorts_8 : decode cX8_sorts 8 = .ok (.invokevirtual 160, 3) := by decide +kernel
theorem dX8_sorts_11 : decode cX8_sorts 11 = .ok (.aload_n 0, 1) := by decide +kernel
theorem dX8_sorts_12 : decode cX8_sorts 12 = .ok (.getfield 16, 3) := by decide +kernel
theorem dX8_sorts_15 : decode cX8_sorts 15 = .ok (.aload_n 0, 1) := by decide +kernel
theorem dX8_sorts_16 : decode cX8_sorts 16 = .ok (.getfield 10, 3) := by decide +kernel
theorem dX8_sorts_19 : decode cX8_sorts 19 = .ok (.invokevirtual 88, 3) := by decide +kernel
theorem dX8_sorts_22 : decode cX8_sorts 22 = .ok (.aload_n 0, 1) := by decide +kernel
theorem dX8_sorts_23 : decode cX8_sorts 23 = .ok (.getfield 10, 3) := by decide +kernel
theorem dX8_sorts_26 : decode cX8_sorts 26 = .ok (.invokevirtual 187, 3) := by decide +kernel
theorem dX8_sorts_29 : decode cX8_sorts 29 = .ok (.aload_n 0, 1) := by decide +kernel
theorem dX8_sorts_30 : decode cX8_sorts 30 = .ok (.getfield 10, 3) := by decide +kernel
theorem dX8_sorts_33 : decode cX8_sorts 33 = .ok (.aload_n 0, 1) := by decide +kernel
theorem dX8_sorts_34 : decode cX8_sorts 34 = .ok (.getfield 16, 3) := by decide +kernel
theorem dX8_sorts_37 : decode cX8_sorts 37 = .ok (.invokevirtual 180, 3) := by decide +kernel
theorem dX8_sorts_40 : decode cX8_sorts 40 = .ok (.ireturn, 1) := by decide +kernel
set_option maxRecDepth 20000 in
theorem ggX8_undo_X4_pop : GoodIn wsX8_undo wsX4_pop := goodIn_r _ [8, 9, 10, 11, 12, 13, 14, 15, 16, 17, 18, 19, 20, 21, 22, 23, 24, 25, 37, 38, 39, 40, 41, 42, 43, 44, 45] (by decide +kernel) (by decide +kernel)
set_option maxRecDepth 20000 in
theorem gX8_undo_X4_pop : GoodIn wsX8_undo (wsV RX8 190 RX4 yX4_pop wsX4_pop) := goodIn_app (goodIn_of _ (by decide +kernel)) ggX8_undo_X4_pop
theorem dX8_undo_0 : decode cX8_undo 0 = .ok (.aload_n 0, 1) := by decide +kernel
theorem dX8_undo_1 : decode cX8_undo 1 = .ok (.getfield 36, 3) := by decide +kernel
theorem dX8_undo_4 : decode cX8_undo 4 = .ok (.aload_n 0, 1) := by decide +kernel
theorem dX8_undo_5 : decode cX8_undo 5 = .ok (.getfield 10, 3) := by decide +kernel
theorem dX8_undo_8 : decode cX8_undo 8 = .ok (.invokevirtual 190, 3) := by decide +kernel
theorem dX8_undo_11 : decode cX8_undo 11 = .ok (.ifCond .eq 13, 3) := by decide +kernel
theorem dX8_undo_14 : decode cX8_undo 14 = .ok (.aload_n 0, 1) := by decide +kernel
theorem dX8_undo_15 : decode cX8_undo 15 = .ok (.getfield 36, 3) := by decide +kernel
theorem dX8_undo_18 : decode cX8_undo 18 = .ok (.getfield 95, 3) := by decide +kernel
theorem dX8_undo_21 : decode cX8_undo 21 = .ok (.goto 5, 3) := by decide +kernel
theorem dX8_undo_24 : decode cX8_undo 24 = .ok (.bipush (-2), 2) := by decide +kernel
theorem dX8_undo_26 : decode cX8_undo 26 = .ok (.ireturn, 1) := by decide +kernel
theorem dX8_lap_0 : decode cX8_lap 0 = .ok (.iload_n 1, 1) := by decide +kernel
theorem dX8_lap_1 : decode cX8_lap 1 = .ok (.iconst (-1), 1) := by decide +kernel
theorem dX8_lap_2 : decode cX8_lap 2 = .ok (.if_icmp .ge 5, 3) := by decide +kernel
theorem dX8_lap_5 : decode cX8_lap 5 = .ok (.iconst (-1), 1) := by decide +kernel
theorem dX8_lap_6 : decode cX8_lap 6 = .ok (.ireturn, 1) := by decide +kernel
theorem dX8_lap_7 : decode cX8_lap 7 = .ok (.iload_n 1, 1) := by decide +kernel
theorem dX8_lap_8 : decode cX8_lap 8 = .ok (.iconst (-1), 1) := by decide +kernel
theorem dX8_lap_9 : decode cX8_lap 9 = .ok (.if_icmp .ne 11, 3) := by decide +kernel
theorem dX8_lap_12 : decode cX8_lap 12 = .ok (.aload_n 0, 1) := by decide +kernel
theorem dX8_lap_13 : decode cX8_lap 13 = .ok (.getfield 43, 3) := by decide +kernel
theorem dX8_lap_16 : decode cX8_lap 16 = .ok (.getfield 193, 3) := by decide +kernel
theorem dX8_lap_19 : decode cX8_lap 19 = .ok (.ireturn, 1) := by decide +kernel
theorem dX8_lap_20 : decode cX8_lap 20 = .ok (.iload_n 1, 1) := by decide +kernel
theorem dX8_lap_21 : decode cX8_lap 21 = .ok (.aload_n 0, 1) := by decide +kernel
theorem dX8_lap_22 : decode cX8_lap 22 = .ok (.getfield 43, 3) := by decide +kernel
theorem dX8_lap_25 : decode cX8_lap 25 = .ok (.getfield 193, 3) := by decide +kernel
theorem dX8_lap_28 : decode cX8_lap 28 = .ok (.if_icmp .ge 15, 3) := by decide +kernel
theorem dX8_lap_31 : decode cX8_lap 31 = .ok (.aload_n 0, 1) := by decide +kernel
theorem dX8_lap_32 : decode cX8_lap 32 = .ok (.getfield 43, 3) := by decide +kernel
theorem dX8_lap_35 : decode cX8_lap 35 = .ok (.getfield 194, 3) := by decide +kernel
theorem dX8_lap_38 : decode cX8_lap 38 = .ok (.iload_n 1, 1) := by decide +kernel
theorem dX8_lap_39 : decode cX8_lap 39 = .ok (.iaload, 1) := by decide +kernel
theorem dX8_lap_40 : decode cX8_lap 40 = .ok (.goto 5, 3) := by decide +kernel
theorem dX8_lap_43 : decode cX8_lap 43 = .ok (.bipush (-9), 2) := by decide +kernel
theorem dX8_lap_45 : decode cX8_lap 45 = .ok (.ireturn, 1) := by decide +kernel
set_option maxRecDepth 20000 in
theorem ggX8_arc_X3_isPair : GoodIn wsX8_arc wsX3_isPair := goodIn_r _ [6, 7, 8, 9, 5, 10, 11, 61, 62, 63, 64, 65, 66, 67] (by decide +kernel) (by decide +kernel)
set_option maxRecDepth 20000 in
theorem gX8_arc_X3_isPair : GoodIn wsX8_arc (wsV RX8 146 RX3 yX3_isPair wsX3_isPair) := goodIn_app (goodIn_of _ (by decide +kernel)) ggX8_arc_X3_isPair
set_option maxRecDepth 20000 in
theorem ggX8_arc_X3_has : GoodIn wsX8_arc wsX3_has := goodIn_r _ [15, 16, 17, 18, 19, 61, 62, 63, 64, 65, 66, 67] (by decide +kernel) (by decide +kernel)
set_option maxRecDepth 20000 in
theorem gX8_arc_X3_has : GoodIn wsX8_arc (wsV RX8 150 RX3 yX3_has wsX3_has) := goodIn_app (goodIn_of _ (by decide +kernel)) ggX8_arc_X3_has
set_option maxRecDepth 20000 in
theorem ggX8_arc_X3_movedBy : GoodIn wsX8_arc wsX3_movedBy := goodIn_r _ [23, 24, 25, 26, 5, 27, 28, 29, 30, 31, 32, 33, 34, 17, 18, 19, 35, 36, 37, 38, 39, 40, 41, 42, 16, 43, 44, 45, 46, 61, 62, 63, 64, 65, 66, 67] (by decide +kernel) (by decide +kernel)
set_option maxRecDepth 20000 in
theorem gX8_arc_X3_movedBy : GoodIn wsX8_arc (wsV RX8 196 RX3 yX3_movedBy wsX3_movedBy) := goodIn_app (goodIn_of _ (by decide +kernel)) ggX8_arc_X3_movedBy
set_option maxRecDepth 20000 in
theorem ggX8_arc_X3_closesRing : GoodIn wsX8_arc wsX3_closesRing := goodIn_r _ [27, 28, 29, 30, 31, 5, 32, 33, 34, 17, 18, 19, 61, 62, 63, 64, 65, 66, 67] (by decide +kernel) (by decide +kernel)
set_option maxRecDepth 20000 in
theorem gX8_arc_X3_closesRing : GoodIn wsX8_arc (wsV RX8 153 RX3 yX3_closesRing wsX3_closesRing) := goodIn_app (goodIn_of _ (by decide +kernel)) ggX8_arc_X3_closesRing
set_option maxRecDepth 20000 in
theorem ggX8_arc_X3_before : GoodIn wsX8_arc wsX3_before := goodIn_r _ [38, 28, 39, 40, 41, 5, 42, 33, 16, 61, 62, 63, 64, 65, 66, 67] (by decide +kernel) (by decide +kernel)
set_option maxRecDepth 20000 in
theorem gX8_arc_X3_before : GoodIn wsX8_arc (wsV RX8 199 RX3 yX3_before wsX3_before) := goodIn_app (goodIn_of _ (by decide +kernel)) ggX8_arc_X3_before
set_option maxRecDepth 20000 in
theorem ggX8_arc_X3_after : GoodIn wsX8_arc wsX3_after := goodIn_r _ [46, 28, 29, 30, 31, 5, 32, 33, 34, 61, 62, 63, 64, 65, 66, 67] (by decide +kernel) (by decide +kernel)
set_option maxRecDepth 20000 in
theorem gX8_arc_X3_after : GoodIn wsX8_arc (wsV RX8 202 RX3 yX3_after wsX3_after) := goodIn_app (goodIn_of _ (by decide +kernel)) ggX8_arc_X3_after
theorem dX8_arc_0 : decode cX8_arc 0 = .ok (.aload_n 0, 1) := by decide +kernel
theorem dX8_arc_1 : decode cX8_arc 1 = .ok (.getfield 10, 3) := by decide +kernel
theorem dX8_arc_4 : decode cX8_arc 4 = .ok (.iload_n 1, 1) := by decide +kernel
theorem dX8_arc_5 : decode cX8_arc 5 = .ok (.iload_n 2, 1) := by decide +kernel
theorem dX8_arc_6 : decode cX8_arc 6 = .ok (.invokevirtual 146, 3) := by decide +kernel
theorem dX8_arc_9 : decode cX8_arc 9 = .ok (.ifCond .eq 12, 3) := by decide +kernel
theorem dX8_arc_12 : decode cX8_arc 12 = .ok (.iload_n 3, 1) := by decide +kernel
theorem dX8_arc_13 : decode cX8_arc 13 = .ok (.ifCond .lt 8, 3) := by decide +kernel
theorem dX8_arc_16 : decode cX8_arc 16 = .ok (.iload_n 3, 1) := by decide +kernel
theorem dX8_arc_17 : decode cX8_arc 17 = .ok (.iconst 3, 1) := by decide +kernel
theorem dX8_arc_18 : decode cX8_arc 18 = .ok (.if_icmp .le 5, 3) := by decide +kernel
theorem dX8_arc_21 : decode cX8_arc 21 = .ok (.iconst (-1), 1) := by decide +kernel
theorem dX8_arc_22 : decode cX8_arc 22 = .ok (.ireturn, 1) := by decide +kernel
theorem dX8_arc_23 : decode cX8_arc 23 = .ok (.aload_n 0, 1) := by decide +kernel
theorem dX8_arc_24 : decode cX8_arc 24 = .ok (.getfield 10, 3) := by decide +kernel
theorem dX8_arc_27 : decode cX8_arc 27 = .ok (.iload_n 1, 1) := by decide +kernel
theorem dX8_arc_28 : decode cX8_arc 28 = .ok (.iload_n 2, 1) := by decide +kernel
theorem dX8_arc_29 : decode cX8_arc 29 = .ok (.invokevirtual 150, 3) := by decide +kernel
theorem dX8_arc_32 : decode cX8_arc 32 = .ok (.ifCond .eq 6, 3) := by decide +kernel
theorem dX8_arc_35 : decode cX8_arc 35 = .ok (.bipush (-2), 2) := by decide +kernel
theorem dX8_arc_37 : decode cX8_arc 37 = .ok (.ireturn, 1) := by decide +kernel
theorem dX8_arc_38 : decode cX8_arc 38 = .ok (.iload_n 3, 1) := by decide +kernel
theorem dX8_arc_39 : decode cX8_arc 39 = .ok (.tableswitch 63 0 2 #[25, 35, 53], 25) := by decide +kernel
theorem dX8_arc_64 : decode cX8_arc 64 = .ok (.aload_n 0, 1) := by decide +kernel
theorem dX8_arc_65 : decode cX8_arc 65 = .ok (.getfield 10, 3) := by decide +kernel
theorem dX8_arc_68 : decode cX8_arc 68 = .ok (.iload_n 1, 1) := by decide +kernel
theorem dX8_arc_69 : decode cX8_arc 69 = .ok (.iload_n 2, 1) := by decide +kernel
theorem dX8_arc_70 : decode cX8_arc 70 = .ok (.invokevirtual 196, 3) := by decide +kernel
theorem dX8_arc_73 : decode cX8_arc 73 = .ok (.ireturn, 1) := by decide +kernel
theorem dX8_arc_74 : decode cX8_arc 74 = .ok (.aload_n 0, 1) := by decide +kernel
theorem dX8_arc_75 : decode cX8_arc 75 = .ok (.getfield 10, 3) := by decide +kernel
theorem dX8_arc_78 : decode cX8_arc 78 = .ok (.iload_n 1, 1) := by decide +kernel
theorem dX8_arc_79 : decode cX8_arc 79 = .ok (.iload_n 2, 1) := by decide +kernel
theorem dX8_arc_80 : decode cX8_arc 80 = .ok (.invokevirtual 153, 3) := by decide +kernel
theorem dX8_arc_83 : decode cX8_arc 83 = .ok (.ifCond .eq 7, 3) := by decide +kernel
theorem dX8_arc_86 : decode cX8_arc 86 = .ok (.iconst 1, 1) := by decide +kernel
theorem dX8_arc_87 : decode cX8_arc 87 = .ok (.goto 4, 3) := by decide +kernel
theorem dX8_arc_90 : decode cX8_arc 90 = .ok (.iconst 0, 1) := by decide +kernel
theorem dX8_arc_91 : decode cX8_arc 91 = .ok (.ireturn, 1) := by decide +kernel
theorem dX8_arc_92 : decode cX8_arc 92 = .ok (.aload_n 0, 1) := by decide +kernel
theorem dX8_arc_93 : decode cX8_arc 93 = .ok (.getfield 10, 3) := by decide +kernel
theorem dX8_arc_96 : decode cX8_arc 96 = .ok (.iload_n 1, 1) := by decide +kernel
theorem dX8_arc_97 : decode cX8_arc 97 = .ok (.iload_n 2, 1) := by decide +kernel
theorem dX8_arc_98 : decode cX8_arc 98 = .ok (.invokevirtual 199, 3) := by decide +kernel
theorem dX8_arc_101 : decode cX8_arc 101 = .ok (.ireturn, 1) := by decide +kernel
theorem dX8_arc_102 : decode cX8_arc 102 = .ok (.aload_n 0, 1) := by decide +kernel
theorem dX8_arc_103 : decode cX8_arc 103 = .ok (.getfield 10, 3) := by decide +kernel
theorem dX8_arc_106 : decode cX8_arc 106 = .ok (.iload_n 1, 1) := by decide +kernel
theorem dX8_arc_107 : decode cX8_arc 107 = .ok (.iload_n 2, 1) := by decide +kernel
theorem dX8_arc_108 : decode cX8_arc 108 = .ok (.invokevirtual 202, 3) := by decide +kernel
theorem dX8_arc_111 : decode cX8_arc 111 = .ok (.ireturn, 1) := by decide +kernel
set_option maxRecDepth 20000 in
theorem ggX8_orders_X6_all : GoodIn wsX8_orders wsX6_all := goodIn_r _ [7, 8, 9, 10, 11, 6, 12, 13, 14, 15, 16, 17, 18, 19, 20, 21, 22, 23, 24, 25, 26, 27, 28, 29, 30, 31, 32, 33, 34, 35, 36, 37, 38, 39, 40, 41, 42, 43, 44, 45, 46, 47, 48, 49, 61, 62, 63, 64, 65, 66, 67, 68, 69, 70] (by decide +kernel) (by decide +kernel)
set_option maxRecDepth 20000 in
theorem gX8_orders_X6_all : GoodIn wsX8_orders (wsV RX8 205 RX6 yX6_all wsX6_all) := goodIn_app (goodIn_of _ (by decide +kernel)) ggX8_orders_X6_all
theorem dX8_orders_0 : decode cX8_orders 0 = .ok (.aload_n 0, 1) := by decide +kernel
theorem dX8_orders_1 : decode cX8_orders 1 = .ok (.getfield 57, 3) := by decide +kernel
theorem dX8_orders_4 : decode cX8_orders 4 = .ok (.aload_n 0, 1) := by decide +kernel
theorem dX8_orders_5 : decode cX8_orders 5 = .ok (.getfield 10, 3) := by decide +kernel
theorem dX8_orders_8 : decode cX8_orders 8 = .ok (.invokevirtual 205, 3) := by decide +kernel
theorem dX8_orders_11 : decode cX8_orders 11 = .ok (.lreturn, 1) := by decide +kernel
set_option maxRecDepth 20000 in
theorem ggX8_number_X6_rank : GoodIn wsX8_number wsX6_rank := goodIn_r _ [7, 8, 9, 10, 11, 12, 13, 6, 14, 15, 16, 17, 18, 19, 20, 21, 22, 23, 24, 25, 26, 27, 28, 29, 30, 31, 32, 33, 34, 35, 36, 37, 38, 39, 40, 41, 42, 43, 44, 45, 46, 47, 48, 49, 50, 62, 63, 64, 65, 66, 67, 68, 69, 70, 71] (by decide +kernel) (by decide +kernel)
set_option maxRecDepth 20000 in
theorem gX8_number_X6_rank : GoodIn wsX8_number (wsV RX8 209 RX6 yX6_rank wsX6_rank) := goodIn_app (goodIn_of _ (by decide +kernel)) ggX8_number_X6_rank
theorem dX8_number_0 : decode cX8_number 0 = .ok (.aload_n 0, 1) := by decide +kernel
theorem dX8_number_1 : decode cX8_number 1 = .ok (.getfield 57, 3) := by decide +kernel
theorem dX8_number_4 : decode cX8_number 4 = .ok (.aload_n 0, 1) := by decide +kernel
theorem dX8_number_5 : decode cX8_number 5 = .ok (.getfield 10, 3) := by decide +kernel
theorem dX8_number_8 : decode cX8_number 8 = .ok (.invokevirtual 209, 3) := by decide +kernel
theorem dX8_number_11 : decode cX8_number 11 = .ok (.lreturn, 1) := by decide +kernel
set_option maxRecDepth 20000 in
theorem ggX8_kth_X3_isItem : GoodIn wsX8_kth wsX3_isItem := goodIn_r _ [7, 8, 69, 70, 71, 72, 73, 74, 75] (by decide +kernel) (by decide +kernel)
set_option maxRecDepth 20000 in
theorem gX8_kth_X3_isItem : GoodIn wsX8_kth (wsV RX8 99 RX3 yX3_isItem wsX3_isItem) := goodIn_app (goodIn_of _ (by decide +kernel)) ggX8_kth_X3_isItem
set_option maxRecDepth 20000 in
theorem ggX8_kth_X6_itemOf : GoodIn wsX8_kth wsX6_itemOf := goodIn_r _ [13, 14, 15, 16, 17, 18, 12, 19, 20, 21, 22, 23, 24, 25, 26, 27, 28, 6, 29, 8, 30, 31, 32, 33, 34, 35, 36, 37, 38, 39, 40, 41, 42, 43, 44, 45, 46, 47, 48, 49, 50, 51, 52, 53, 54, 55, 56, 57, 69, 70, 71, 72, 73, 74, 75, 76, 77, 78] (by decide +kernel) (by decide +kernel)
set_option maxRecDepth 20000 in
theorem gX8_kth_X6_itemOf : GoodIn wsX8_kth (wsV RX8 212 RX6 yX6_itemOf wsX6_itemOf) := goodIn_app (goodIn_of _ (by decide +kernel)) ggX8_kth_X6_itemOf
theorem dX8_kth_0 : decode cX8_kth 0 = .ok (.aload_n 0, 1) := by decide +kernel
theorem dX8_kth_1 : decode cX8_kth 1 = .ok (.getfield 10, 3) := by decide +kernel
theorem dX8_kth_4 : decode cX8_kth 4 = .ok (.iload_n 3, 1) := by decide +kernel
theorem dX8_kth_5 : decode cX8_kth 5 = .ok (.invokevirtual 99, 3) := by decide +kernel
theorem dX8_kth_8 : decode cX8_kth 8 = .ok (.ifCond .eq 9, 3) := by decide +kernel
theorem dX8_kth_11 : decode cX8_kth 11 = .ok (.lload_n 1, 1) := by decide +kernel
theorem dX8_kth_12 : decode cX8_kth 12 = .ok (.lconst 0, 1) := by decide +kernel
theorem dX8_kth_13 : decode cX8_kth 13 = .ok (.lcmp, 1) := by decide +kernel
theorem dX8_kth_14 : decode cX8_kth 14 = .ok (.ifCond .ge 5, 3) := by decide +kernel
theorem dX8_kth_17 : decode cX8_kth 17 = .ok (.iconst (-1), 1) := by decide +kernel
theorem dX8_kth_18 : decode cX8_kth 18 = .ok (.ireturn, 1) := by decide +kernel
theorem dX8_kth_19 : decode cX8_kth 19 = .ok (.aload_n 0, 1) := by decide +kernel
theorem dX8_kth_20 : decode cX8_kth 20 = .ok (.getfield 57, 3) := by decide +kernel
theorem dX8_kth_23 : decode cX8_kth 23 = .ok (.aload_n 0, 1) := by decide +kernel
theorem dX8_kth_24 : decode cX8_kth 24 = .ok (.getfield 10, 3) := by decide +kernel
theorem dX8_kth_27 : decode cX8_kth 27 = .ok (.lload_n 1, 1) := by decide +kernel
theorem dX8_kth_28 : decode cX8_kth 28 = .ok (.iload_n 3, 1) := by decide +kernel
theorem dX8_kth_29 : decode cX8_kth 29 = .ok (.invokevirtual 212, 3) := by decide +kernel
theorem dX8_kth_32 : decode cX8_kth 32 = .ok (.ireturn, 1) := by decide +kernel
set_option maxRecDepth 20000 in
theorem ggX8_days_X1_fewestDays : GoodIn wsX8_days wsX1_fewestDays := goodIn_r _ [7, 8, 9, 10, 11, 12, 13, 14, 15, 16, 17, 18, 19, 20, 21, 22, 23, 24, 25, 26, 27, 28, 29, 30, 31, 32, 33, 34, 35, 36, 37, 38, 39, 40, 41, 42, 43, 6, 44, 56, 57, 58, 59, 60, 61, 62, 63] (by decide +kernel) (by decide +kernel)
set_option maxRecDepth 20000 in
theorem gX8_days_X1_fewestDays : GoodIn wsX8_days (wsV RX8 216 RX1 yX1_fewestDays wsX1_fewestDays) := goodIn_app (goodIn_of _ (by decide +kernel)) ggX8_days_X1_fewestDays
theorem dX8_days_0 : decode cX8_days 0 = .ok (.iload_n 1, 1) := by decide +kernel
theorem dX8_days_1 : decode cX8_days 1 = .ok (.iconst 1, 1) := by decide +kernel
theorem dX8_days_2 : decode cX8_days 2 = .ok (.if_icmp .lt 8, 3) := by decide +kernel
theorem dX8_days_5 : decode cX8_days 5 = .ok (.iload_n 1, 1) := by decide +kernel
theorem dX8_days_6 : decode cX8_days 6 = .ok (.iconst 3, 1) := by decide +kernel
theorem dX8_days_7 : decode cX8_days 7 = .ok (.if_icmp .le 5, 3) := by decide +kernel
theorem dX8_days_10 : decode cX8_days 10 = .ok (.iconst (-1), 1) := by decide +kernel
theorem dX8_days_11 : decode cX8_days 11 = .ok (.ireturn, 1) := by decide +kernel
theorem dX8_days_12 : decode cX8_days 12 = .ok (.aload_n 0, 1) := by decide +kernel
theorem dX8_days_13 : decode cX8_days 13 = .ok (.getfield 64, 3) := by decide +kernel
theorem dX8_days_16 : decode cX8_days 16 = .ok (.aload_n 0, 1) := by decide +kernel
theorem dX8_days_17 : decode cX8_days 17 = .ok (.getfield 10, 3) := by decide +kernel
theorem dX8_days_20 : decode cX8_days 20 = .ok (.iload_n 1, 1) := by decide +kernel
theorem dX8_days_21 : decode cX8_days 21 = .ok (.invokevirtual 216, 3) := by decide +kernel
theorem dX8_days_24 : decode cX8_days 24 = .ok (.ireturn, 1) := by decide +kernel
set_option maxRecDepth 20000 in
theorem ggX8_sees_X3_isItem : GoodIn wsX8_sees wsX3_isItem := goodIn_r _ [8, 9, 35, 36, 37, 38, 39, 40, 41] (by decide +kernel) (by decide +kernel)
set_option maxRecDepth 20000 in
theorem gX8_sees_X3_isItem : GoodIn wsX8_sees (wsV RX8 99 RX3 yX3_isItem wsX3_isItem) := goodIn_app (goodIn_of _ (by decide +kernel)) ggX8_sees_X3_isItem
set_option maxRecDepth 20000 in
theorem ggX8_sees_X5_append : GoodIn wsX8_sees wsX5_append := goodIn_r _ [14, 15, 16, 17, 29, 30, 31, 32, 33, 34] (by decide +kernel) (by decide +kernel)
set_option maxRecDepth 20000 in
theorem gX8_sees_X5_append : GoodIn wsX8_sees (wsV RX8 220 RX5 yX5_append wsX5_append) := goodIn_app (goodIn_of _ (by decide +kernel)) ggX8_sees_X5_append
theorem dX8_sees_0 : decode cX8_sees 0 = .ok (.aload_n 0, 1) := by decide +kernel
theorem dX8_sees_1 : decode cX8_sees 1 = .ok (.getfield 10, 3) := by decide +kernel
theorem dX8_sees_4 : decode cX8_sees 4 = .ok (.iload_n 1, 1) := by decide +kernel
theorem dX8_sees_5 : decode cX8_sees 5 = .ok (.invokevirtual 99, 3) := by decide +kernel
theorem dX8_sees_8 : decode cX8_sees 8 = .ok (.ifCond .eq 12, 3) := by decide +kernel
theorem dX8_sees_11 : decode cX8_sees 11 = .ok (.iload_n 2, 1) := by decide +kernel
theorem dX8_sees_12 : decode cX8_sees 12 = .ok (.ifCond .lt 8, 3) := by decide +kernel
theorem dX8_sees_15 : decode cX8_sees 15 = .ok (.iload_n 2, 1) := by decide +kernel
theorem dX8_sees_16 : decode cX8_sees 16 = .ok (.iconst 1, 1) := by decide +kernel
theorem dX8_sees_17 : decode cX8_sees 17 = .ok (.if_icmp .le 5, 3) := by decide +kernel
theorem dX8_sees_20 : decode cX8_sees 20 = .ok (.iconst (-1), 1) := by decide +kernel
theorem dX8_sees_21 : decode cX8_sees 21 = .ok (.ireturn, 1) := by decide +kernel
theorem dX8_sees_22 : decode cX8_sees 22 = .ok (.aload_n 0, 1) := by decide +kernel
theorem dX8_sees_23 : decode cX8_sees 23 = .ok (.getfield 50, 3) := by decide +kernel
theorem dX8_sees_26 : decode cX8_sees 26 = .ok (.iload_n 1, 1) := by decide +kernel
theorem dX8_sees_27 : decode cX8_sees 27 = .ok (.iload_n 2, 1) := by decide +kernel
theorem dX8_sees_28 : decode cX8_sees 28 = .ok (.invokevirtual 220, 3) := by decide +kernel
theorem dX8_sees_31 : decode cX8_sees 31 = .ok (.ifCond .eq 13, 3) := by decide +kernel
theorem dX8_sees_34 : decode cX8_sees 34 = .ok (.aload_n 0, 1) := by decide +kernel
theorem dX8_sees_35 : decode cX8_sees 35 = .ok (.getfield 50, 3) := by decide +kernel
theorem dX8_sees_38 : decode cX8_sees 38 = .ok (.getfield 221, 3) := by decide +kernel
theorem dX8_sees_41 : decode cX8_sees 41 = .ok (.goto 5, 3) := by decide +kernel
theorem dX8_sees_44 : decode cX8_sees 44 = .ok (.bipush (-3), 2) := by decide +kernel
theorem dX8_sees_46 : decode cX8_sees 46 = .ok (.ireturn, 1) := by decide +kernel
set_option maxRecDepth 20000 in
theorem ggX8_forget_X5_empty : GoodIn wsX8_forget wsX5_empty := goodIn_r _ [7, 8, 9, 10, 22, 23, 24, 25, 26, 27] (by decide +kernel) (by decide +kernel)
set_option maxRecDepth 20000 in
theorem gX8_forget_X5_empty : GoodIn wsX8_forget (wsV RX8 96 RX5 yX5_empty wsX5_empty) := goodIn_app (goodIn_of _ (by decide +kernel)) ggX8_forget_X5_empty
theorem dX8_forget_0 : decode cX8_forget 0 = .ok (.aload_n 0, 1) := by decide +kernel
theorem dX8_forget_1 : decode cX8_forget 1 = .ok (.getfield 50, 3) := by decide +kernel
theorem dX8_forget_4 : decode cX8_forget 4 = .ok (.getfield 221, 3) := by decide +kernel
theorem dX8_forget_7 : decode cX8_forget 7 = .ok (.istore_n 1, 1) := by decide +kernel
theorem dX8_forget_8 : decode cX8_forget 8 = .ok (.aload_n 0, 1) := by decide +kernel
theorem dX8_forget_9 : decode cX8_forget 9 = .ok (.getfield 50, 3) := by decide +kernel
theorem dX8_forget_12 : decode cX8_forget 12 = .ok (.invokevirtual 96, 3) := by decide +kernel
theorem dX8_forget_15 : decode cX8_forget 15 = .ok (.iload_n 1, 1) := by decide +kernel
theorem dX8_forget_16 : decode cX8_forget 16 = .ok (.ireturn, 1) := by decide +kernel
set_option maxRecDepth 20000 in
theorem ggX8_unseen_X5_weigh : GoodIn wsX8_unseen wsX5_weigh := goodIn_r _ [9, 10, 11, 12, 13, 14, 15, 16, 17, 18, 19, 20, 21, 22, 23, 24, 25, 26, 27, 28, 29, 30, 31, 32, 33, 34, 35, 36, 37, 38, 39, 40, 41, 42, 43, 44, 45, 46, 47, 48, 49, 50, 51, 52, 53, 54, 55, 56, 57, 58, 59, 60, 61, 62, 63, 64, 65, 66, 67, 68, 69, 70, 71, 8, 72, 73, 74, 86, 87, 88, 89, 90, 91, 92, 93, 94, 95, 96, 97, 98] (by decide +kernel) (by decide +kernel)
set_option maxRecDepth 20000 in
theorem gX8_unseen_X5_weigh : GoodIn wsX8_unseen (wsV RX8 222 RX5 yX5_weigh wsX5_weigh) := goodIn_app (goodIn_of _ (by decide +kernel)) ggX8_unseen_X5_weigh
theorem dX8_unseen_0 : decode cX8_unseen 0 = .ok (.iload_n 1, 1) := by decide +kernel
theorem dX8_unseen_1 : decode cX8_unseen 1 = .ok (.ifCond .lt 8, 3) := by decide +kernel
theorem dX8_unseen_4 : decode cX8_unseen 4 = .ok (.iload_n 1, 1) := by decide +kernel
theorem dX8_unseen_5 : decode cX8_unseen 5 = .ok (.iconst 1, 1) := by decide +kernel
theorem dX8_unseen_6 : decode cX8_unseen 6 = .ok (.if_icmp .le 5, 3) := by decide +kernel
theorem dX8_unseen_9 : decode cX8_unseen 9 = .ok (.iconst (-1), 1) := by decide +kernel
theorem dX8_unseen_10 : decode cX8_unseen 10 = .ok (.ireturn, 1) := by decide +kernel
theorem dX8_unseen_11 : decode cX8_unseen 11 = .ok (.aload_n 0, 1) := by decide +kernel
theorem dX8_unseen_12 : decode cX8_unseen 12 = .ok (.getfield 50, 3) := by decide +kernel
theorem dX8_unseen_15 : decode cX8_unseen 15 = .ok (.aload_n 0, 1) := by decide +kernel
theorem dX8_unseen_16 : decode cX8_unseen 16 = .ok (.getfield 10, 3) := by decide +kernel
theorem dX8_unseen_19 : decode cX8_unseen 19 = .ok (.invokevirtual 222, 3) := by decide +kernel
theorem dX8_unseen_22 : decode cX8_unseen 22 = .ok (.iload_n 1, 1) := by decide +kernel
theorem dX8_unseen_23 : decode cX8_unseen 23 = .ok (.ifCond .ne 13, 3) := by decide +kernel
theorem dX8_unseen_26 : decode cX8_unseen 26 = .ok (.aload_n 0, 1) := by decide +kernel
theorem dX8_unseen_27 : decode cX8_unseen 27 = .ok (.getfield 50, 3) := by decide +kernel
theorem dX8_unseen_30 : decode cX8_unseen 30 = .ok (.getfield 225, 3) := by decide +kernel
theorem dX8_unseen_33 : decode cX8_unseen 33 = .ok (.goto 10, 3) := by decide +kernel
theorem dX8_unseen_36 : decode cX8_unseen 36 = .ok (.aload_n 0, 1) := by decide +kernel
theorem dX8_unseen_37 : decode cX8_unseen 37 = .ok (.getfield 50, 3) := by decide +kernel
theorem dX8_unseen_40 : decode cX8_unseen 40 = .ok (.getfield 228, 3) := by decide +kernel
theorem dX8_unseen_43 : decode cX8_unseen 43 = .ok (.ireturn, 1) := by decide +kernel
set_option maxRecDepth 20000 in
theorem ggX8_look_X5_weigh : GoodIn wsX8_look wsX5_weigh := goodIn_r _ [7, 8, 9, 10, 11, 12, 13, 14, 15, 16, 17, 18, 19, 20, 21, 22, 23, 24, 25, 26, 27, 28, 29, 30, 31, 32, 33, 34, 35, 36, 37, 38, 39, 40, 41, 42, 43, 44, 45, 46, 47, 48, 49, 50, 51, 52, 53, 54, 55, 56, 57, 58, 59, 60, 61, 62, 63, 64, 65, 66, 67, 68, 69, 6, 70, 71, 72, 92, 93, 94, 95, 96, 97, 98, 99, 100, 101, 102, 103, 104] (by decide +kernel) (by decide +kernel)
set_option maxRecDepth 20000 in
theorem gX8_look_X5_weigh : GoodIn wsX8_look (wsV RX8 222 RX5 yX5_weigh wsX5_weigh) := goodIn_app (goodIn_of _ (by decide +kernel)) ggX8_look_X5_weigh
set_option maxRecDepth 20000 in
theorem ggX8_look_X5_bestItem : GoodIn wsX8_look wsX5_bestItem := goodIn_r _ [76, 8, 11, 10, 77, 78, 79, 80, 92, 93, 94, 95, 96, 97, 98, 99, 100, 101, 102, 103, 104] (by decide +kernel) (by decide +kernel)
set_option maxRecDepth 20000 in
theorem gX8_look_X5_bestItem : GoodIn wsX8_look (wsV RX8 231 RX5 yX5_bestItem wsX5_bestItem) := goodIn_app (goodIn_of _ (by decide +kernel)) ggX8_look_X5_bestItem
theorem dX8_look_0 : decode cX8_look 0 = .ok (.aload_n 0, 1) := by decide +kernel
theorem dX8_look_1 : decode cX8_look 1 = .ok (.getfield 50, 3) := by decide +kernel
theorem dX8_look_4 : decode cX8_look 4 = .ok (.aload_n 0, 1) := by decide +kernel
theorem dX8_look_5 : decode cX8_look 5 = .ok (.getfield 10, 3) := by decide +kernel
theorem dX8_look_8 : decode cX8_look 8 = .ok (.invokevirtual 222, 3) := by decide +kernel
theorem dX8_look_11 : decode cX8_look 11 = .ok (.aload_n 0, 1) := by decide +kernel
theorem dX8_look_12 : decode cX8_look 12 = .ok (.getfield 50, 3) := by decide +kernel
theorem dX8_look_15 : decode cX8_look 15 = .ok (.aload_n 0, 1) := by decide +kernel
theorem dX8_look_16 : decode cX8_look 16 = .ok (.getfield 10, 3) := by decide +kernel
theorem dX8_look_19 : decode cX8_look 19 = .ok (.invokevirtual 231, 3) := by decide +kernel
theorem dX8_look_22 : decode cX8_look 22 = .ok (.ireturn, 1) := by decide +kernel
set_option maxRecDepth 20000 in
theorem ggX8_keep_X3_copyOf : GoodIn wsX8_keep wsX3_copyOf := goodIn_r _ [9, 10, 11, 12, 13, 14, 15, 16, 17, 18, 19, 31, 32, 33, 34, 35, 36, 37] (by decide +kernel) (by decide +kernel)
set_option maxRecDepth 20000 in
theorem gX8_keep_X3_copyOf : GoodIn wsX8_keep (wsV RX8 88 RX3 yX3_copyOf wsX3_copyOf) := goodIn_app (goodIn_of _ (by decide +kernel)) ggX8_keep_X3_copyOf
theorem dX8_keep_0 : decode cX8_keep 0 = .ok (.iload_n 1, 1) := by decide +kernel
theorem dX8_keep_1 : decode cX8_keep 1 = .ok (.ifCond .lt 8, 3) := by decide +kernel
theorem dX8_keep_4 : decode cX8_keep 4 = .ok (.iload_n 1, 1) := by decide +kernel
theorem dX8_keep_5 : decode cX8_keep 5 = .ok (.iconst 2, 1) := by decide +kernel
theorem dX8_keep_6 : decode cX8_keep 6 = .ok (.if_icmp .lt 5, 3) := by decide +kernel
theorem dX8_keep_9 : decode cX8_keep 9 = .ok (.iconst (-1), 1) := by decide +kernel
theorem dX8_keep_10 : decode cX8_keep 10 = .ok (.ireturn, 1) := by decide +kernel
theorem dX8_keep_11 : decode cX8_keep 11 = .ok (.aload_n 0, 1) := by decide +kernel
theorem dX8_keep_12 : decode cX8_keep 12 = .ok (.getfield 68, 3) := by decide +kernel
theorem dX8_keep_15 : decode cX8_keep 15 = .ok (.iload_n 1, 1) := by decide +kernel
theorem dX8_keep_16 : decode cX8_keep 16 = .ok (.aaload, 1) := by decide +kernel
theorem dX8_keep_17 : decode cX8_keep 17 = .ok (.aload_n 0, 1) := by decide +kernel
theorem dX8_keep_18 : decode cX8_keep 18 = .ok (.getfield 10, 3) := by decide +kernel
theorem dX8_keep_21 : decode cX8_keep 21 = .ok (.invokevirtual 88, 3) := by decide +kernel
theorem dX8_keep_24 : decode cX8_keep 24 = .ok (.aload_n 0, 1) := by decide +kernel
theorem dX8_keep_25 : decode cX8_keep 25 = .ok (.getfield 72, 3) := by decide +kernel
theorem dX8_keep_28 : decode cX8_keep 28 = .ok (.iload_n 1, 1) := by decide +kernel
theorem dX8_keep_29 : decode cX8_keep 29 = .ok (.iconst 1, 1) := by decide +kernel
theorem dX8_keep_30 : decode cX8_keep 30 = .ok (.bastore, 1) := by decide +kernel
theorem dX8_keep_31 : decode cX8_keep 31 = .ok (.aload_n 0, 1) := by decide +kernel
theorem dX8_keep_32 : decode cX8_keep 32 = .ok (.getfield 10, 3) := by decide +kernel
theorem dX8_keep_35 : decode cX8_keep 35 = .ok (.getfield 130, 3) := by decide +kernel
theorem dX8_keep_38 : decode cX8_keep 38 = .ok (.ireturn, 1) := by decide +kernel
set_option maxRecDepth 20000 in
theorem ggX8_back_X3_copyOf : GoodIn wsX8_back wsX3_copyOf := goodIn_r _ [11, 12, 13, 14, 15, 16, 17, 18, 19, 20, 21, 35, 36, 37, 38, 39, 40, 41] (by decide +kernel) (by decide +kernel)
set_option maxRecDepth 20000 in
theorem gX8_back_X3_copyOf : GoodIn wsX8_back (wsV RX8 88 RX3 yX3_copyOf wsX3_copyOf) := goodIn_app (goodIn_of _ (by decide +kernel)) ggX8_back_X3_copyOf
theorem dX8_back_0 : decode cX8_back 0 = .ok (.iload_n 1, 1) := by decide +kernel
theorem dX8_back_1 : decode cX8_back 1 = .ok (.ifCond .lt 8, 3) := by decide +kernel
theorem dX8_back_4 : decode cX8_back 4 = .ok (.iload_n 1, 1) := by decide +kernel
theorem dX8_back_5 : decode cX8_back 5 = .ok (.iconst 2, 1) := by decide +kernel
theorem dX8_back_6 : decode cX8_back 6 = .ok (.if_icmp .lt 5, 3) := by decide +kernel
theorem dX8_back_9 : decode cX8_back 9 = .ok (.iconst (-1), 1) := by decide +kernel
theorem dX8_back_10 : decode cX8_back 10 = .ok (.ireturn, 1) := by decide +kernel
theorem dX8_back_11 : decode cX8_back 11 = .ok (.aload_n 0, 1) := by decide +kernel
theorem dX8_back_12 : decode cX8_back 12 = .ok (.getfield 72, 3) := by decide +kernel
theorem dX8_back_15 : decode cX8_back 15 = .ok (.iload_n 1, 1) := by decide +kernel
theorem dX8_back_16 : decode cX8_back 16 = .ok (.baload, 1) := by decide +kernel
theorem dX8_back_17 : decode cX8_back 17 = .ok (.ifCond .ne 6, 3) := by decide +kernel
theorem dX8_back_20 : decode cX8_back 20 = .ok (.bipush (-2), 2) := by decide +kernel
theorem dX8_back_22 : decode cX8_back 22 = .ok (.ireturn, 1) := by decide +kernel
theorem dX8_back_23 : decode cX8_back 23 = .ok (.aload_n 0, 1) := by decide +kernel
theorem dX8_back_24 : decode cX8_back 24 = .ok (.getfield 10, 3) := by decide +kernel
theorem dX8_back_27 : decode cX8_back 27 = .ok (.aload_n 0, 1) := by decide +kernel
theorem dX8_back_28 : decode cX8_back 28 = .ok (.getfield 68, 3) := by decide +kernel
theorem dX8_back_31 : decode cX8_back 31 = .ok (.iload_n 1, 1) := by decide +kernel
theorem dX8_back_32 : decode cX8_back 32 = .ok (.aaload, 1) := by decide +kernel
theorem dX8_back_33 : decode cX8_back 33 = .ok (.invokevirtual 88, 3) := by decide +kernel
theorem dX8_back_36 : decode cX8_back 36 = .ok (.aload_n 0, 1) := by decide +kernel
theorem dX8_back_37 : decode cX8_back 37 = .ok (.getfield 36, 3) := by decide +kernel
theorem dX8_back_40 : decode cX8_back 40 = .ok (.iconst 0, 1) := by decide +kernel
theorem dX8_back_41 : decode cX8_back 41 = .ok (.putfield 95, 3) := by decide +kernel
theorem dX8_back_44 : decode cX8_back 44 = .ok (.aload_n 0, 1) := by decide +kernel
theorem dX8_back_45 : decode cX8_back 45 = .ok (.getfield 10, 3) := by decide +kernel
theorem dX8_back_48 : decode cX8_back 48 = .ok (.getfield 130, 3) := by decide +kernel
theorem dX8_back_51 : decode cX8_back 51 = .ok (.ireturn, 1) := by decide +kernel
theorem dX8_count_0 : decode cX8_count 0 = .ok (.iload_n 1, 1) := by decide +kernel
theorem dX8_count_1 : decode cX8_count 1 = .ok (.tableswitch 63 0 3 #[31, 39, 47, 55], 31) := by decide +kernel
theorem dX8_count_32 : decode cX8_count 32 = .ok (.aload_n 0, 1) := by decide +kernel
theorem dX8_count_33 : decode cX8_count 33 = .ok (.getfield 10, 3) := by decide +kernel
theorem dX8_count_36 : decode cX8_count 36 = .ok (.getfield 121, 3) := by decide +kernel
theorem dX8_count_39 : decode cX8_count 39 = .ok (.ireturn, 1) := by decide +kernel
theorem dX8_count_40 : decode cX8_count 40 = .ok (.aload_n 0, 1) := by decide +kernel
theorem dX8_count_41 : decode cX8_count 41 = .ok (.getfield 29, 3) := by decide +kernel
theorem dX8_count_44 : decode cX8_count 44 = .ok (.getfield 92, 3) := by decide +kernel
theorem dX8_count_47 : decode cX8_count 47 = .ok (.ireturn, 1) := by decide +kernel
theorem dX8_count_48 : decode cX8_count 48 = .ok (.aload_n 0, 1) := by decide +kernel
theorem dX8_count_49 : decode cX8_count 49 = .ok (.getfield 50, 3) := by decide +kernel
theorem dX8_count_52 : decode cX8_count 52 = .ok (.getfield 221, 3) := by decide +kernel
theorem dX8_count_55 : decode cX8_count 55 = .ok (.ireturn, 1) := by decide +kernel
theorem dX8_count_56 : decode cX8_count 56 = .ok (.aload_n 0, 1) := by decide +kernel
theorem dX8_count_57 : decode cX8_count 57 = .ok (.getfield 22, 3) := by decide +kernel
theorem dX8_count_60 : decode cX8_count 60 = .ok (.getfield 80, 3) := by decide +kernel
theorem dX8_count_63 : decode cX8_count 63 = .ok (.ireturn, 1) := by decide +kernel
theorem dX8_count_64 : decode cX8_count 64 = .ok (.iconst (-1), 1) := by decide +kernel
theorem dX8_count_65 : decode cX8_count 65 = .ok (.ireturn, 1) := by decide +kernel
set_option maxRecDepth 20000 in
theorem ggX8_putListed_X3_closesRing : GoodIn wsX8_putListed wsX3_closesRing := goodIn_r _ [11, 12, 13, 14, 15, 10, 16, 17, 18, 19, 20, 21, 107, 108, 109, 110, 111, 112, 113] (by decide +kernel) (by decide +kernel)
set_option maxRecDepth 20000 in
theorem gX8_putListed_X3_closesRing : GoodIn wsX8_putListed (wsV RX8 153 RX3 yX3_closesRing wsX3_closesRing) := goodIn_app (goodIn_of _ (by decide +kernel)) ggX8_putListed_X3_closesRing
set_option maxRecDepth 20000 in
theorem ggX8_putListed_X2_trace : GoodIn wsX8_putListed wsX2_trace := goodIn_r _ [26, 27, 28, 29, 30, 31, 32, 25, 33, 34, 35, 36, 37, 38, 39, 40, 41, 42, 43, 44, 45, 46, 47, 10, 48, 49, 19, 20, 21, 50, 51, 52, 53, 114, 115, 116, 107, 108, 109, 110, 111, 112, 113] (by decide +kernel) (by decide +kernel)
set_option maxRecDepth 20000 in
theorem gX8_putListed_X2_trace : GoodIn wsX8_putListed (wsV RX8 156 RX2 yX2_trace wsX2_trace) := goodIn_app (goodIn_of _ (by decide +kernel)) ggX8_putListed_X2_trace
set_option maxRecDepth 20000 in
theorem ggX8_putListed_X3_put : GoodIn wsX8_putListed wsX3_put := goodIn_r _ [57, 49, 18, 58, 59, 8, 9, 10, 11, 12, 13, 14, 15, 16, 17, 19, 20, 21, 60, 61, 62, 63, 64, 65, 66, 67, 68, 69, 70, 71, 72, 73, 74, 75, 76, 77, 78, 79, 80, 81, 82, 83, 84, 85, 86, 87, 88, 89, 90, 91, 92, 107, 108, 109, 110, 111, 112, 113] (by decide +kernel) (by decide +kernel)
set_option maxRecDepth 20000 in
theorem gX8_putListed_X3_put : GoodIn wsX8_putListed (wsV RX8 163 RX3 yX3_put wsX3_put) := goodIn_app (goodIn_of _ (by decide +kernel)) ggX8_putListed_X3_put
theorem dX8_putListed_0 : decode cX8_putListed 0 = .ok (.iconst 0, 1) := by decide +kernel
theorem dX8_putListed_1 : decode cX8_putListed 1 = .ok (.istore_n 1, 1) := by decide +kernel
theorem dX8_putListed_2 : decode cX8_putListed 2 = .ok (.iload_n 1, 1) := by decide +kernel
theorem dX8_putListed_3 : decode cX8_putListed 3 = .ok (.aload_n 0, 1) := by decide +kernel
theorem dX8_putListed_4 : decode cX8_putListed 4 = .ok (.getfield 29, 3) := by decide +kernel
theorem dX8_putListed_7 : decode cX8_putListed 7 = .ok (.getfield 92, 3) := by decide +kernel
theorem dX8_putListed_10 : decode cX8_putListed 10 = .ok (.if_icmp .ge 66, 3) := by decide +kernel
theorem dX8_putListed_13 : decode cX8_putListed 13 = .ok (.aload_n 0, 1) := by decide +kernel
theorem dX8_putListed_14 : decode cX8_putListed 14 = .ok (.getfield 29, 3) := by decide +kernel
theorem dX8_putListed_17 : decode cX8_putListed 17 = .ok (.getfield 234, 3) := by decide +kernel
theorem dX8_putListed_20 : decode cX8_putListed 20 = .ok (.iload_n 1, 1) := by decide +kernel
theorem dX8_putListed_21 : decode cX8_putListed 21 = .ok (.iaload, 1) := by decide +kernel
theorem dX8_putListed_22 : decode cX8_putListed 22 = .ok (.istore_n 2, 1) := by decide +kernel
theorem dX8_putListed_23 : decode cX8_putListed 23 = .ok (.aload_n 0, 1) := by decide +kernel
theorem dX8_putListed_24 : decode cX8_putListed 24 = .ok (.getfield 29, 3) := by decide +kernel
theorem dX8_putListed_27 : decode cX8_putListed 27 = .ok (.getfield 237, 3) := by decide +kernel
theorem dX8_putListed_30 : decode cX8_putListed 30 = .ok (.iload_n 1, 1) := by decide +kernel
theorem dX8_putListed_31 : decode cX8_putListed 31 = .ok (.iaload, 1) := by decide +kernel
theorem dX8_putListed_32 : decode cX8_putListed 32 = .ok (.istore_n 3, 1) := by decide +kernel
theorem dX8_putListed_33 : decode cX8_putListed 33 = .ok (.aload_n 0, 1) := by decide +kernel
theorem dX8_putListed_34 : decode cX8_putListed 34 = .ok (.getfield 10, 3) := by decide +kernel
theorem dX8_putListed_37 : decode cX8_putListed 37 = .ok (.iload_n 2, 1) := by decide +kernel
theorem dX8_putListed_38 : decode cX8_putListed 38 = .ok (.iload_n 3, 1) := by decide +kernel
theorem dX8_putListed_39 : decode cX8_putListed 39 = .ok (.invokevirtual 153, 3) := by decide +kernel
theorem dX8_putListed_42 : decode cX8_putListed 42 = .ok (.ifCond .eq 18, 3) := by decide +kernel
theorem dX8_putListed_45 : decode cX8_putListed 45 = .ok (.aload_n 0, 1) := by decide +kernel
theorem dX8_putListed_46 : decode cX8_putListed 46 = .ok (.getfield 43, 3) := by decide +kernel
theorem dX8_putListed_49 : decode cX8_putListed 49 = .ok (.aload_n 0, 1) := by decide +kernel
theorem dX8_putListed_50 : decode cX8_putListed 50 = .ok (.getfield 10, 3) := by decide +kernel
theorem dX8_putListed_53 : decode cX8_putListed 53 = .ok (.iload_n 2, 1) := by decide +kernel
theorem dX8_putListed_54 : decode cX8_putListed 54 = .ok (.iload_n 3, 1) := by decide +kernel
theorem dX8_putListed_55 : decode cX8_putListed 55 = .ok (.invokevirtual 156, 3) := by decide +kernel
theorem dX8_putListed_58 : decode cX8_putListed 58 = .ok (.iconst 0, 1) := by decide +kernel
theorem dX8_putListed_59 : decode cX8_putListed 59 = .ok (.ireturn, 1) := by decide +kernel
theorem dX8_putListed_60 : decode cX8_putListed 60 = .ok (.aload_n 0, 1) := by decide +kernel
theorem dX8_putListed_61 : decode cX8_putListed 61 = .ok (.getfield 10, 3) := by decide +kernel
theorem dX8_putListed_64 : decode cX8_putListed 64 = .ok (.iload_n 2, 1) := by decide +kernel
theorem dX8_putListed_65 : decode cX8_putListed 65 = .ok (.iload_n 3, 1) := by decide +kernel
theorem dX8_putListed_66 : decode cX8_putListed 66 = .ok (.invokevirtual 163, 3) := by decide +kernel
theorem dX8_putListed_69 : decode cX8_putListed 69 = .ok (.pop, 1) := by decide +kernel
theorem dX8_putListed_70 : decode cX8_putListed 70 = .ok (.iinc 1 1, 3) := by decide +kernel
theorem dX8_putListed_73 : decode cX8_putListed 73 = .ok (.goto (-71), 3) := by decide +kernel
theorem dX8_putListed_76 : decode cX8_putListed 76 = .ok (.iconst 1, 1) := by decide +kernel
theorem dX8_putListed_77 : decode cX8_putListed 77 = .ok (.ireturn, 1) := by decide +kernel
set_option maxRecDepth 20000 in
theorem ggX8_freeArcs_X3_canTake : GoodIn wsX8_freeArcs wsX3_canTake := goodIn_r _ [7, 8, 9, 10, 6, 11, 12, 13, 14, 15, 16, 17, 18, 19, 20, 21, 22, 23, 24, 25, 26, 27, 28, 29, 30, 31, 32, 33, 34, 35, 63, 64, 65, 66, 67, 68, 69] (by decide +kernel) (by decide +kernel)
set_option maxRecDepth 20000 in
theorem gX8_freeArcs_X3_canTake : GoodIn wsX8_freeArcs (wsV RX8 240 RX3 yX3_canTake wsX3_canTake) := goodIn_app (goodIn_of _ (by decide +kernel)) ggX8_freeArcs_X3_canTake
set_option maxRecDepth 20000 in
theorem ggX8_freeArcs_X3_movedBy : GoodIn wsX8_freeArcs wsX3_movedBy := goodIn_r _ [39, 25, 26, 27, 6, 28, 29, 30, 31, 32, 33, 34, 35, 22, 23, 24, 40, 41, 42, 43, 44, 45, 46, 47, 21, 48, 49, 50, 51, 63, 64, 65, 66, 67, 68, 69] (by decide +kernel) (by decide +kernel)
set_option maxRecDepth 20000 in
theorem gX8_freeArcs_X3_movedBy : GoodIn wsX8_freeArcs (wsV RX8 196 RX3 yX3_movedBy wsX3_movedBy) := goodIn_app (goodIn_of _ (by decide +kernel)) ggX8_freeArcs_X3_movedBy
theorem dX8_freeArcs_0 : decode cX8_freeArcs 0 = .ok (.iconst 0, 1) := by decide +kernel
theorem dX8_freeArcs_1 : decode cX8_freeArcs 1 = .ok (.istore_n 1, 1) := by decide +kernel
theorem dX8_freeArcs_2 : decode cX8_freeArcs 2 = .ok (.iconst 0, 1) := by decide +kernel
theorem dX8_freeArcs_3 : decode cX8_freeArcs 3 = .ok (.istore_n 2, 1) := by decide +kernel
theorem dX8_freeArcs_4 : decode cX8_freeArcs 4 = .ok (.iload_n 2, 1) := by decide +kernel
theorem dX8_freeArcs_5 : decode cX8_freeArcs 5 = .ok (.aload_n 0, 1) := by decide +kernel
theorem dX8_freeArcs_6 : decode cX8_freeArcs 6 = .ok (.getfield 10, 3) := by decide +kernel
theorem dX8_freeArcs_9 : decode cX8_freeArcs 9 = .ok (.getfield 121, 3) := by decide +kernel
theorem dX8_freeArcs_12 : decode cX8_freeArcs 12 = .ok (.if_icmp .ge 55, 3) := by decide +kernel
theorem dX8_freeArcs_15 : decode cX8_freeArcs 15 = .ok (.iconst 0, 1) := by decide +kernel
theorem dX8_freeArcs_16 : decode cX8_freeArcs 16 = .ok (.istore_n 3, 1) := by decide +kernel
theorem dX8_freeArcs_17 : decode cX8_freeArcs 17 = .ok (.iload_n 3, 1) := by decide +kernel
theorem dX8_freeArcs_18 : decode cX8_freeArcs 18 = .ok (.aload_n 0, 1) := by decide +kernel
theorem dX8_freeArcs_19 : decode cX8_freeArcs 19 = .ok (.getfield 10, 3) := by decide +kernel
theorem dX8_freeArcs_22 : decode cX8_freeArcs 22 = .ok (.getfield 121, 3) := by decide +kernel
theorem dX8_freeArcs_25 : decode cX8_freeArcs 25 = .ok (.if_icmp .ge 36, 3) := by decide +kernel
theorem dX8_freeArcs_28 : decode cX8_freeArcs 28 = .ok (.aload_n 0, 1) := by decide +kernel
theorem dX8_freeArcs_29 : decode cX8_freeArcs 29 = .ok (.getfield 10, 3) := by decide +kernel
theorem dX8_freeArcs_32 : decode cX8_freeArcs 32 = .ok (.iload_n 2, 1) := by decide +kernel
theorem dX8_freeArcs_33 : decode cX8_freeArcs 33 = .ok (.iload_n 3, 1) := by decide +kernel
theorem dX8_freeArcs_34 : decode cX8_freeArcs 34 = .ok (.invokevirtual 240, 3) := by decide +kernel
theorem dX8_freeArcs_37 : decode cX8_freeArcs 37 = .ok (.ifCond .eq 18, 3) := by decide +kernel
theorem dX8_freeArcs_40 : decode cX8_freeArcs 40 = .ok (.aload_n 0, 1) := by decide +kernel
theorem dX8_freeArcs_41 : decode cX8_freeArcs 41 = .ok (.getfield 10, 3) := by decide +kernel
theorem dX8_freeArcs_44 : decode cX8_freeArcs 44 = .ok (.iload_n 2, 1) := by decide +kernel
theorem dX8_freeArcs_45 : decode cX8_freeArcs 45 = .ok (.iload_n 3, 1) := by decide +kernel
theorem dX8_freeArcs_46 : decode cX8_freeArcs 46 = .ok (.invokevirtual 196, 3) := by decide +kernel
theorem dX8_freeArcs_49 : decode cX8_freeArcs 49 = .ok (.ifCond .ne 6, 3) := by decide +kernel
theorem dX8_freeArcs_52 : decode cX8_freeArcs 52 = .ok (.iinc 1 1, 3) := by decide +kernel
theorem dX8_freeArcs_55 : decode cX8_freeArcs 55 = .ok (.iinc 3 1, 3) := by decide +kernel
theorem dX8_freeArcs_58 : decode cX8_freeArcs 58 = .ok (.goto (-41), 3) := by decide +kernel
theorem dX8_freeArcs_61 : decode cX8_freeArcs 61 = .ok (.iinc 2 1, 3) := by decide +kernel
theorem dX8_freeArcs_64 : decode cX8_freeArcs 64 = .ok (.goto (-60), 3) := by decide +kernel
theorem dX8_freeArcs_67 : decode cX8_freeArcs 67 = .ok (.iload_n 1, 1) := by decide +kernel
theorem dX8_freeArcs_68 : decode cX8_freeArcs 68 = .ok (.ireturn, 1) := by decide +kernel
set_option maxRecDepth 20000 in
theorem ggX8_arcMovingMost_X3_canTake : GoodIn wsX8_arcMovingMost wsX3_canTake := goodIn_r _ [7, 8, 9, 10, 6, 11, 12, 13, 14, 15, 16, 17, 18, 19, 20, 21, 22, 23, 24, 25, 26, 27, 28, 29, 30, 31, 32, 33, 34, 35, 73, 74, 75, 76, 77, 78, 79] (by decide +kernel) (by decide +kernel)
set_option maxRecDepth 20000 in
theorem gX8_arcMovingMost_X3_canTake : GoodIn wsX8_arcMovingMost (wsV RX8 240 RX3 yX3_canTake wsX3_canTake) := goodIn_app (goodIn_of _ (by decide +kernel)) ggX8_arcMovingMost_X3_canTake
set_option maxRecDepth 20000 in
theorem ggX8_arcMovingMost_X3_movedBy : GoodIn wsX8_arcMovingMost wsX3_movedBy := goodIn_r _ [39, 25, 26, 27, 6, 28, 29, 30, 31, 32, 33, 34, 35, 22, 23, 24, 40, 41, 42, 43, 44, 45, 46, 47, 21, 48, 49, 50, 51, 73, 74, 75, 76, 77, 78, 79] (by decide +kernel) (by decide +kernel)
set_option maxRecDepth 20000 in
theorem gX8_arcMovingMost_X3_movedBy : GoodIn wsX8_arcMovingMost (wsV RX8 196 RX3 yX3_movedBy wsX3_movedBy) := goodIn_app (goodIn_of _ (by decide +kernel)) ggX8_arcMovingMost_X3_movedBy
set_option maxRecDepth 20000 in
theorem ggX8_arcMovingMost_J6_bitCount_0f7a4 : GoodIn wsX8_arcMovingMost wsJ6_bitCount_0f7a4 := goodIn_r _ [55, 56, 57, 58] (by decide +kernel) (by decide +kernel)
set_option maxRecDepth 20000 in
theorem gX8_arcMovingMost_J6_bitCount_0f7a4 : GoodIn wsX8_arcMovingMost (va_wsS RX8 116 yJ6_bitCount_0f7a4 wsJ6_bitCount_0f7a4) := goodIn_app (goodIn_of _ (by decide +kernel)) ggX8_arcMovingMost_J6_bitCount_0f7a4
set_option maxRecDepth 20000 in
theorem ggX8_arcMovingMost_X8_codeOf : GoodIn wsX8_arcMovingMost wsX8_codeOf := goodIn_r _ [61] (by decide +kernel) (by decide +kernel)
set_option maxRecDepth 20000 in
theorem gX8_arcMovingMost_X8_codeOf : GoodIn wsX8_arcMovingMost (va_wsS RX8 243 yX8_codeOf wsX8_codeOf) := goodIn_app (goodIn_of _ (by decide +kernel)) ggX8_arcMovingMost_X8_codeOf
theorem dX8_arcMovingMost_0 : decode cX8_arcMovingMost 0 = .ok (.bipush (-9), 2) := by decide +kernel
theorem dX8_arcMovingMost_2 : decode cX8_arcMovingMost 2 = .ok (.istore_n 1, 1) := by decide +kernel
theorem dX8_arcMovingMost_3 : decode cX8_arcMovingMost 3 = .ok (.iconst (-1), 1) := by decide +kernel
theorem dX8_arcMovingMost_4 : decode cX8_arcMovingMost 4 = .ok (.istore_n 2, 1) := by decide +kernel
theorem dX8_arcMovingMost_5 : decode cX8_arcMovingMost 5 = .ok (.iconst 0, 1) := by decide +kernel
theorem dX8_arcMovingMost_6 : decode cX8_arcMovingMost 6 = .ok (.istore_n 3, 1) := by decide +kernel
theorem dX8_arcMovingMost_7 : decode cX8_arcMovingMost 7 = .ok (.iload_n 3, 1) := by decide +kernel
theorem dX8_arcMovingMost_8 : decode cX8_arcMovingMost 8 = .ok (.aload_n 0, 1) := by decide +kernel
theorem dX8_arcMovingMost_9 : decode cX8_arcMovingMost 9 = .ok (.getfield 10, 3) := by decide +kernel
theorem dX8_arcMovingMost_12 : decode cX8_arcMovingMost 12 = .ok (.getfield 121, 3) := by decide +kernel
theorem dX8_arcMovingMost_15 : decode cX8_arcMovingMost 15 = .ok (.if_icmp .ge 77, 3) := by decide +kernel
theorem dX8_arcMovingMost_18 : decode cX8_arcMovingMost 18 = .ok (.iconst 0, 1) := by decide +kernel
theorem dX8_arcMovingMost_19 : decode cX8_arcMovingMost 19 = .ok (.istore 4, 2) := by decide +kernel
theorem dX8_arcMovingMost_21 : decode cX8_arcMovingMost 21 = .ok (.iload 4, 2) := by decide +kernel
theorem dX8_arcMovingMost_23 : decode cX8_arcMovingMost 23 = .ok (.aload_n 0, 1) := by decide +kernel
theorem dX8_arcMovingMost_24 : decode cX8_arcMovingMost 24 = .ok (.getfield 10, 3) := by decide +kernel
theorem dX8_arcMovingMost_27 : decode cX8_arcMovingMost 27 = .ok (.getfield 121, 3) := by decide +kernel
theorem dX8_arcMovingMost_30 : decode cX8_arcMovingMost 30 = .ok (.if_icmp .ge 56, 3) := by decide +kernel
theorem dX8_arcMovingMost_33 : decode cX8_arcMovingMost 33 = .ok (.aload_n 0, 1) := by decide +kernel
theorem dX8_arcMovingMost_34 : decode cX8_arcMovingMost 34 = .ok (.getfield 10, 3) := by decide +kernel
theorem dX8_arcMovingMost_37 : decode cX8_arcMovingMost 37 = .ok (.iload_n 3, 1) := by decide +kernel
theorem dX8_arcMovingMost_38 : decode cX8_arcMovingMost 38 = .ok (.iload 4, 2) := by decide +kernel
theorem dX8_arcMovingMost_40 : decode cX8_arcMovingMost 40 = .ok (.invokevirtual 240, 3) := by decide +kernel
theorem dX8_arcMovingMost_43 : decode cX8_arcMovingMost 43 = .ok (.ifCond .ne 6, 3) := by decide +kernel
theorem dX8_arcMovingMost_46 : decode cX8_arcMovingMost 46 = .ok (.goto 34, 3) := by decide +kernel
theorem dX8_arcMovingMost_49 : decode cX8_arcMovingMost 49 = .ok (.aload_n 0, 1) := by decide +kernel
theorem dX8_arcMovingMost_50 : decode cX8_arcMovingMost 50 = .ok (.getfield 10, 3) := by decide +kernel
theorem dX8_arcMovingMost_53 : decode cX8_arcMovingMost 53 = .ok (.iload_n 3, 1) := by decide +kernel
theorem dX8_arcMovingMost_54 : decode cX8_arcMovingMost 54 = .ok (.iload 4, 2) := by decide +kernel
theorem dX8_arcMovingMost_56 : decode cX8_arcMovingMost 56 = .ok (.invokevirtual 196, 3) := by decide +kernel
theorem dX8_arcMovingMost_59 : decode cX8_arcMovingMost 59 = .ok (.invokestatic 116, 3) := by decide +kernel
theorem dX8_arcMovingMost_62 : decode cX8_arcMovingMost 62 = .ok (.istore 5, 2) := by decide +kernel
theorem dX8_arcMovingMost_64 : decode cX8_arcMovingMost 64 = .ok (.iload 5, 2) := by decide +kernel
theorem dX8_arcMovingMost_66 : decode cX8_arcMovingMost 66 = .ok (.iload_n 2, 1) := by decide +kernel
theorem dX8_arcMovingMost_67 : decode cX8_arcMovingMost 67 = .ok (.if_icmp .le 13, 3) := by decide +kernel
theorem dX8_arcMovingMost_70 : decode cX8_arcMovingMost 70 = .ok (.iload 5, 2) := by decide +kernel
theorem dX8_arcMovingMost_72 : decode cX8_arcMovingMost 72 = .ok (.istore_n 2, 1) := by decide +kernel
theorem dX8_arcMovingMost_73 : decode cX8_arcMovingMost 73 = .ok (.iload_n 3, 1) := by decide +kernel
theorem dX8_arcMovingMost_74 : decode cX8_arcMovingMost 74 = .ok (.iload 4, 2) := by decide +kernel
theorem dX8_arcMovingMost_76 : decode cX8_arcMovingMost 76 = .ok (.invokestatic 243, 3) := by decide +kernel
theorem dX8_arcMovingMost_79 : decode cX8_arcMovingMost 79 = .ok (.istore_n 1, 1) := by decide +kernel
theorem dX8_arcMovingMost_80 : decode cX8_arcMovingMost 80 = .ok (.iinc 4 1, 3) := by decide +kernel
theorem dX8_arcMovingMost_83 : decode cX8_arcMovingMost 83 = .ok (.goto (-62), 3) := by decide +kernel
theorem dX8_arcMovingMost_86 : decode cX8_arcMovingMost 86 = .ok (.iinc 3 1, 3) := by decide +kernel
theorem dX8_arcMovingMost_89 : decode cX8_arcMovingMost 89 = .ok (.goto (-82), 3) := by decide +kernel
theorem dX8_arcMovingMost_92 : decode cX8_arcMovingMost 92 = .ok (.iload_n 1, 1) := by decide +kernel
theorem dX8_arcMovingMost_93 : decode cX8_arcMovingMost 93 = .ok (.ireturn, 1) := by decide +kernel
set_option maxRecDepth 20000 in
theorem ggX8_spareArcs_X3_allBehind : GoodIn wsX8_spareArcs wsX3_allBehind := goodIn_r _ [8, 9, 10, 11, 12, 7, 13, 14, 15, 16, 36, 37, 38, 39, 40, 41, 42] (by decide +kernel) (by decide +kernel)
set_option maxRecDepth 20000 in
theorem gX8_spareArcs_X3_allBehind : GoodIn wsX8_spareArcs (wsV RX8 124 RX3 yX3_allBehind wsX3_allBehind) := goodIn_app (goodIn_of _ (by decide +kernel)) ggX8_spareArcs_X3_allBehind
set_option maxRecDepth 20000 in
theorem ggX8_spareArcs_X3_has : GoodIn wsX8_spareArcs wsX3_has := goodIn_r _ [20, 21, 22, 23, 24, 36, 37, 38, 39, 40, 41, 42] (by decide +kernel) (by decide +kernel)
set_option maxRecDepth 20000 in
theorem gX8_spareArcs_X3_has : GoodIn wsX8_spareArcs (wsV RX8 150 RX3 yX3_has wsX3_has) := goodIn_app (goodIn_of _ (by decide +kernel)) ggX8_spareArcs_X3_has
theorem dX8_spareArcs_0 : decode cX8_spareArcs 0 = .ok (.iconst 0, 1) := by decide +kernel
theorem dX8_spareArcs_1 : decode cX8_spareArcs 1 = .ok (.istore_n 1, 1) := by decide +kernel
theorem dX8_spareArcs_2 : decode cX8_spareArcs 2 = .ok (.iconst 0, 1) := by decide +kernel
theorem dX8_spareArcs_3 : decode cX8_spareArcs 3 = .ok (.istore_n 2, 1) := by decide +kernel
theorem dX8_spareArcs_4 : decode cX8_spareArcs 4 = .ok (.iload_n 2, 1) := by decide +kernel
theorem dX8_spareArcs_5 : decode cX8_spareArcs 5 = .ok (.aload_n 0, 1) := by decide +kernel
theorem dX8_spareArcs_6 : decode cX8_spareArcs 6 = .ok (.getfield 10, 3) := by decide +kernel
theorem dX8_spareArcs_9 : decode cX8_spareArcs 9 = .ok (.getfield 121, 3) := by decide +kernel
theorem dX8_spareArcs_12 : decode cX8_spareArcs 12 = .ok (.if_icmp .ge 70, 3) := by decide +kernel
theorem dX8_spareArcs_15 : decode cX8_spareArcs 15 = .ok (.aload_n 0, 1) := by decide +kernel
theorem dX8_spareArcs_16 : decode cX8_spareArcs 16 = .ok (.getfield 10, 3) := by decide +kernel
theorem dX8_spareArcs_19 : decode cX8_spareArcs 19 = .ok (.iload_n 2, 1) := by decide +kernel
theorem dX8_spareArcs_20 : decode cX8_spareArcs 20 = .ok (.invokevirtual 124, 3) := by decide +kernel
theorem dX8_spareArcs_23 : decode cX8_spareArcs 23 = .ok (.istore_n 3, 1) := by decide +kernel
theorem dX8_spareArcs_24 : decode cX8_spareArcs 24 = .ok (.iconst 0, 1) := by decide +kernel
theorem dX8_spareArcs_25 : decode cX8_spareArcs 25 = .ok (.istore 4, 2) := by decide +kernel
theorem dX8_spareArcs_27 : decode cX8_spareArcs 27 = .ok (.iload 4, 2) := by decide +kernel
theorem dX8_spareArcs_29 : decode cX8_spareArcs 29 = .ok (.aload_n 0, 1) := by decide +kernel
theorem dX8_spareArcs_30 : decode cX8_spareArcs 30 = .ok (.getfield 10, 3) := by decide +kernel
theorem dX8_spareArcs_33 : decode cX8_spareArcs 33 = .ok (.getfield 121, 3) := by decide +kernel
theorem dX8_spareArcs_36 : decode cX8_spareArcs 36 = .ok (.if_icmp .ge 40, 3) := by decide +kernel
theorem dX8_spareArcs_39 : decode cX8_spareArcs 39 = .ok (.aload_n 0, 1) := by decide +kernel
theorem dX8_spareArcs_40 : decode cX8_spareArcs 40 = .ok (.getfield 10, 3) := by decide +kernel
theorem dX8_spareArcs_43 : decode cX8_spareArcs 43 = .ok (.iload_n 2, 1) := by decide +kernel
theorem dX8_spareArcs_44 : decode cX8_spareArcs 44 = .ok (.iload 4, 2) := by decide +kernel
theorem dX8_spareArcs_46 : decode cX8_spareArcs 46 = .ok (.invokevirtual 150, 3) := by decide +kernel
theorem dX8_spareArcs_49 : decode cX8_spareArcs 49 = .ok (.ifCond .eq 21, 3) := by decide +kernel
theorem dX8_spareArcs_52 : decode cX8_spareArcs 52 = .ok (.aload_n 0, 1) := by decide +kernel
theorem dX8_spareArcs_53 : decode cX8_spareArcs 53 = .ok (.getfield 10, 3) := by decide +kernel
theorem dX8_spareArcs_56 : decode cX8_spareArcs 56 = .ok (.getfield 109, 3) := by decide +kernel
theorem dX8_spareArcs_59 : decode cX8_spareArcs 59 = .ok (.iload 4, 2) := by decide +kernel
theorem dX8_spareArcs_61 : decode cX8_spareArcs 61 = .ok (.iaload, 1) := by decide +kernel
theorem dX8_spareArcs_62 : decode cX8_spareArcs 62 = .ok (.iload_n 3, 1) := by decide +kernel
theorem dX8_spareArcs_63 : decode cX8_spareArcs 63 = .ok (.iand, 1) := by decide +kernel
theorem dX8_spareArcs_64 : decode cX8_spareArcs 64 = .ok (.ifCond .eq 6, 3) := by decide +kernel
theorem dX8_spareArcs_67 : decode cX8_spareArcs 67 = .ok (.iinc 1 1, 3) := by decide +kernel
theorem dX8_spareArcs_70 : decode cX8_spareArcs 70 = .ok (.iinc 4 1, 3) := by decide +kernel
theorem dX8_spareArcs_73 : decode cX8_spareArcs 73 = .ok (.goto (-46), 3) := by decide +kernel
theorem dX8_spareArcs_76 : decode cX8_spareArcs 76 = .ok (.iinc 2 1, 3) := by decide +kernel
theorem dX8_spareArcs_79 : decode cX8_spareArcs 79 = .ok (.goto (-75), 3) := by decide +kernel
theorem dX8_spareArcs_82 : decode cX8_spareArcs 82 = .ok (.iload_n 1, 1) := by decide +kernel
theorem dX8_spareArcs_83 : decode cX8_spareArcs 83 = .ok (.ireturn, 1) := by decide +kernel
theorem dX8_codeOf_0 : decode cX8_codeOf 0 = .ok (.bipush 16, 2) := by decide +kernel
theorem dX8_codeOf_2 : decode cX8_codeOf 2 = .ok (.iload_n 0, 1) := by decide +kernel
theorem dX8_codeOf_3 : decode cX8_codeOf 3 = .ok (.imul, 1) := by decide +kernel
theorem dX8_codeOf_4 : decode cX8_codeOf 4 = .ok (.iload_n 1, 1) := by decide +kernel
theorem dX8_codeOf_5 : decode cX8_codeOf 5 = .ok (.iadd, 1) := by decide +kernel
theorem dX8_codeOf_6 : decode cX8_codeOf 6 = .ok (.ireturn, 1) := by decide +kernel
theorem dX8_holdsBit_0 : decode cX8_holdsBit 0 = .ok (.iload_n 0, 1) := by decide +kernel
theorem dX8_holdsBit_1 : decode cX8_holdsBit 1 = .ok (.iload_n 1, 1) := by decide +kernel
theorem dX8_holdsBit_2 : decode cX8_holdsBit 2 = .ok (.ishr, 1) := by decide +kernel
theorem dX8_holdsBit_3 : decode cX8_holdsBit 3 = .ok (.iconst 1, 1) := by decide +kernel
theorem dX8_holdsBit_4 : decode cX8_holdsBit 4 = .ok (.iand, 1) := by decide +kernel
theorem dX8_holdsBit_5 : decode cX8_holdsBit 5 = .ok (.ifCond .eq 7, 3) := by decide +kernel
theorem dX8_holdsBit_8 : decode cX8_holdsBit 8 = .ok (.iconst 1, 1) := by decide +kernel
theorem dX8_holdsBit_9 : decode cX8_holdsBit 9 = .ok (.goto 4, 3) := by decide +kernel
theorem dX8_holdsBit_12 : decode cX8_holdsBit 12 = .ok (.iconst 0, 1) := by decide +kernel
theorem dX8_holdsBit_13 : decode cX8_holdsBit 13 = .ok (.ireturn, 1) := by decide +kernel
set_option maxRecDepth 20000 in
theorem ggX9_init_X9_begins : GoodIn wsX9_init wsX9_begins := goodIn_r _ [30, 31, 6, 44, 45, 46, 47, 48, 49, 50, 51, 52, 53, 54, 55, 56, 57, 58, 59, 60, 61, 62, 63, 64, 65, 66, 67, 68, 69, 70, 71, 72, 73, 74, 75, 76, 77, 78, 79] (by decide +kernel) (by decide +kernel)
set_option maxRecDepth 20000 in
theorem gX9_init_X9_begins : GoodIn wsX9_init (wsV RX9 69 RX9 yX9_begins wsX9_begins) := goodIn_app (goodIn_of _ (by decide +kernel)) ggX9_init_X9_begins
set_option maxRecDepth 20000 in
theorem ggX9_init_X9_settles : GoodIn wsX9_init wsX9_settles := goodIn_r _ [35, 31, 36, 6, 7, 37, 38, 39, 40, 12, 41, 42, 29, 43, 44, 45, 46, 47, 48, 49, 50, 51, 52, 53, 54, 55, 56, 57, 58, 59, 60, 61, 62, 63, 64, 65, 66, 67, 68, 69, 70, 71, 72, 73, 74, 75, 76, 77, 78, 79] (by decide +kernel) (by decide +kernel)
set_option maxRecDepth 20000 in
theorem gX9_init_X9_settles : GoodIn wsX9_init (wsV RX9 72 RX9 yX9_settles wsX9_settles) := goodIn_app (goodIn_of _ (by decide +kernel)) ggX9_init_X9_settles
