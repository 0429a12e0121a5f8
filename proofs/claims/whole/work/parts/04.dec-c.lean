theorem dX9_init_0 : decode cX9_init 0 = .ok (.aload_n 0, 1) := by decide +kernel
theorem dX9_init_1 : decode cX9_init 1 = .ok (.invokespecial 1, 3) := by decide +kernel
theorem dX9_init_4 : decode cX9_init 4 = .ok (.aload_n 0, 1) := by decide +kernel
theorem dX9_init_5 : decode cX9_init 5 = .ok (.bipush 120, 2) := by decide +kernel
theorem dX9_init_7 : decode cX9_init 7 = .ok (.newarray .int, 2) := by decide +kernel
theorem dX9_init_9 : decode cX9_init 9 = .ok (.putfield 7, 3) := by decide +kernel
theorem dX9_init_12 : decode cX9_init 12 = .ok (.aload_n 0, 1) := by decide +kernel
theorem dX9_init_13 : decode cX9_init 13 = .ok (.bipush 24, 2) := by decide +kernel
theorem dX9_init_15 : decode cX9_init 15 = .ok (.newarray .int, 2) := by decide +kernel
theorem dX9_init_17 : decode cX9_init 17 = .ok (.putfield 13, 3) := by decide +kernel
theorem dX9_init_20 : decode cX9_init 20 = .ok (.aload_n 0, 1) := by decide +kernel
theorem dX9_init_21 : decode cX9_init 21 = .ok (.bipush 24, 2) := by decide +kernel
theorem dX9_init_23 : decode cX9_init 23 = .ok (.newarray .int, 2) := by decide +kernel
theorem dX9_init_25 : decode cX9_init 25 = .ok (.putfield 16, 3) := by decide +kernel
theorem dX9_init_28 : decode cX9_init 28 = .ok (.aload_n 0, 1) := by decide +kernel
theorem dX9_init_29 : decode cX9_init 29 = .ok (.bipush 24, 2) := by decide +kernel
theorem dX9_init_31 : decode cX9_init 31 = .ok (.newarray .int, 2) := by decide +kernel
theorem dX9_init_33 : decode cX9_init 33 = .ok (.putfield 19, 3) := by decide +kernel
theorem dX9_init_36 : decode cX9_init 36 = .ok (.aload_n 0, 1) := by decide +kernel
theorem dX9_init_37 : decode cX9_init 37 = .ok (.bipush 24, 2) := by decide +kernel
theorem dX9_init_39 : decode cX9_init 39 = .ok (.newarray .int, 2) := by decide +kernel
theorem dX9_init_41 : decode cX9_init 41 = .ok (.putfield 22, 3) := by decide +kernel
theorem dX9_init_44 : decode cX9_init 44 = .ok (.aload_n 0, 1) := by decide +kernel
theorem dX9_init_45 : decode cX9_init 45 = .ok (.bipush 48, 2) := by decide +kernel
theorem dX9_init_47 : decode cX9_init 47 = .ok (.newarray .int, 2) := by decide +kernel
theorem dX9_init_49 : decode cX9_init 49 = .ok (.putfield 25, 3) := by decide +kernel
theorem dX9_init_52 : decode cX9_init 52 = .ok (.aload_n 0, 1) := by decide +kernel
theorem dX9_init_53 : decode cX9_init 53 = .ok (.iconst 2, 1) := by decide +kernel
theorem dX9_init_54 : decode cX9_init 54 = .ok (.newarray .boolean, 2) := by decide +kernel
theorem dX9_init_56 : decode cX9_init 56 = .ok (.putfield 28, 3) := by decide +kernel
theorem dX9_init_59 : decode cX9_init 59 = .ok (.aload_n 0, 1) := by decide +kernel
theorem dX9_init_60 : decode cX9_init 60 = .ok (.sipush 240, 3) := by decide +kernel
theorem dX9_init_63 : decode cX9_init 63 = .ok (.newarray .int, 2) := by decide +kernel
theorem dX9_init_65 : decode cX9_init 65 = .ok (.putfield 32, 3) := by decide +kernel
theorem dX9_init_68 : decode cX9_init 68 = .ok (.aload_n 0, 1) := by decide +kernel
theorem dX9_init_69 : decode cX9_init 69 = .ok (.bipush 8, 2) := by decide +kernel
theorem dX9_init_71 : decode cX9_init 71 = .ok (.newarray .int, 2) := by decide +kernel
theorem dX9_init_73 : decode cX9_init 73 = .ok (.putfield 35, 3) := by decide +kernel
theorem dX9_init_76 : decode cX9_init 76 = .ok (.aload_n 0, 1) := by decide +kernel
theorem dX9_init_77 : decode cX9_init 77 = .ok (.bipush 8, 2) := by decide +kernel
theorem dX9_init_79 : decode cX9_init 79 = .ok (.newarray .int, 2) := by decide +kernel
theorem dX9_init_81 : decode cX9_init 81 = .ok (.putfield 38, 3) := by decide +kernel
theorem dX9_init_84 : decode cX9_init 84 = .ok (.aload_n 0, 1) := by decide +kernel
theorem dX9_init_85 : decode cX9_init 85 = .ok (.bipush 12, 2) := by decide +kernel
theorem dX9_init_87 : decode cX9_init 87 = .ok (.newarray .int, 2) := by decide +kernel
theorem dX9_init_89 : decode cX9_init 89 = .ok (.putfield 41, 3) := by decide +kernel
theorem dX9_init_92 : decode cX9_init 92 = .ok (.aload_n 0, 1) := by decide +kernel
theorem dX9_init_93 : decode cX9_init 93 = .ok (.bipush 6, 2) := by decide +kernel
theorem dX9_init_95 : decode cX9_init 95 = .ok (.newarray .int, 2) := by decide +kernel
theorem dX9_init_97 : decode cX9_init 97 = .ok (.putfield 44, 3) := by decide +kernel
theorem dX9_init_100 : decode cX9_init 100 = .ok (.aload_n 0, 1) := by decide +kernel
theorem dX9_init_101 : decode cX9_init 101 = .ok (.bipush 6, 2) := by decide +kernel
theorem dX9_init_103 : decode cX9_init 103 = .ok (.newarray .int, 2) := by decide +kernel
theorem dX9_init_105 : decode cX9_init 105 = .ok (.putfield 47, 3) := by decide +kernel
theorem dX9_init_108 : decode cX9_init 108 = .ok (.aload_n 0, 1) := by decide +kernel
theorem dX9_init_109 : decode cX9_init 109 = .ok (.bipush 12, 2) := by decide +kernel
theorem dX9_init_111 : decode cX9_init 111 = .ok (.newarray .int, 2) := by decide +kernel
theorem dX9_init_113 : decode cX9_init 113 = .ok (.putfield 50, 3) := by decide +kernel
theorem dX9_init_116 : decode cX9_init 116 = .ok (.aload_n 0, 1) := by decide +kernel
theorem dX9_init_117 : decode cX9_init 117 = .ok (.sipush 4096, 3) := by decide +kernel
theorem dX9_init_120 : decode cX9_init 120 = .ok (.newarray .long, 2) := by decide +kernel
theorem dX9_init_122 : decode cX9_init 122 = .ok (.putfield 53, 3) := by decide +kernel
theorem dX9_init_125 : decode cX9_init 125 = .ok (.aload_n 0, 1) := by decide +kernel
theorem dX9_init_126 : decode cX9_init 126 = .ok (.sipush 4096, 3) := by decide +kernel
theorem dX9_init_129 : decode cX9_init 129 = .ok (.newarray .int, 2) := by decide +kernel
theorem dX9_init_131 : decode cX9_init 131 = .ok (.putfield 57, 3) := by decide +kernel
theorem dX9_init_134 : decode cX9_init 134 = .ok (.aload_n 0, 1) := by decide +kernel
theorem dX9_init_135 : decode cX9_init 135 = .ok (.bipush 12, 2) := by decide +kernel
theorem dX9_init_137 : decode cX9_init 137 = .ok (.newarray .int, 2) := by decide +kernel
theorem dX9_init_139 : decode cX9_init 139 = .ok (.putfield 60, 3) := by decide +kernel
theorem dX9_init_142 : decode cX9_init 142 = .ok (.aload_n 0, 1) := by decide +kernel
theorem dX9_init_143 : decode cX9_init 143 = .ok (.bipush 24, 2) := by decide +kernel
theorem dX9_init_145 : decode cX9_init 145 = .ok (.newarray .int, 2) := by decide +kernel
theorem dX9_init_147 : decode cX9_init 147 = .ok (.putfield 63, 3) := by decide +kernel
theorem dX9_init_150 : decode cX9_init 150 = .ok (.aload_n 0, 1) := by decide +kernel
theorem dX9_init_151 : decode cX9_init 151 = .ok (.bipush 12, 2) := by decide +kernel
theorem dX9_init_153 : decode cX9_init 153 = .ok (.newarray .int, 2) := by decide +kernel
theorem dX9_init_155 : decode cX9_init 155 = .ok (.putfield 66, 3) := by decide +kernel
theorem dX9_init_158 : decode cX9_init 158 = .ok (.aload_n 0, 1) := by decide +kernel
theorem dX9_init_159 : decode cX9_init 159 = .ok (.invokevirtual 69, 3) := by decide +kernel
theorem dX9_init_162 : decode cX9_init 162 = .ok (.aload_n 0, 1) := by decide +kernel
theorem dX9_init_163 : decode cX9_init 163 = .ok (.invokevirtual 72, 3) := by decide +kernel
theorem dX9_init_166 : decode cX9_init 166 = .ok (.return_, 1) := by decide +kernel
theorem dX9_in_0 : decode cX9_in 0 = .ok (.iload_n 0, 1) := by decide +kernel
theorem dX9_in_1 : decode cX9_in 1 = .ok (.iload_n 1, 1) := by decide +kernel
theorem dX9_in_2 : decode cX9_in 2 = .ok (.if_icmp .lt 12, 3) := by decide +kernel
theorem dX9_in_5 : decode cX9_in 5 = .ok (.iload_n 0, 1) := by decide +kernel
theorem dX9_in_6 : decode cX9_in 6 = .ok (.iload_n 2, 1) := by decide +kernel
theorem dX9_in_7 : decode cX9_in 7 = .ok (.if_icmp .gt 7, 3) := by decide +kernel
theorem dX9_in_10 : decode cX9_in 10 = .ok (.iconst 1, 1) := by decide +kernel
theorem dX9_in_11 : decode cX9_in 11 = .ok (.goto 4, 3) := by decide +kernel
theorem dX9_in_14 : decode cX9_in 14 = .ok (.iconst 0, 1) := by decide +kernel
theorem dX9_in_15 : decode cX9_in 15 = .ok (.ireturn, 1) := by decide +kernel
theorem dX9_has_0 : decode cX9_has 0 = .ok (.iload_n 0, 1) := by decide +kernel
theorem dX9_has_1 : decode cX9_has 1 = .ok (.iload_n 1, 1) := by decide +kernel
theorem dX9_has_2 : decode cX9_has 2 = .ok (.ishr, 1) := by decide +kernel
theorem dX9_has_3 : decode cX9_has 3 = .ok (.iconst 1, 1) := by decide +kernel
theorem dX9_has_4 : decode cX9_has 4 = .ok (.iand, 1) := by decide +kernel
theorem dX9_has_5 : decode cX9_has 5 = .ok (.iconst 1, 1) := by decide +kernel
theorem dX9_has_6 : decode cX9_has 6 = .ok (.if_icmp .ne 7, 3) := by decide +kernel
theorem dX9_has_9 : decode cX9_has 9 = .ok (.iconst 1, 1) := by decide +kernel
theorem dX9_has_10 : decode cX9_has 10 = .ok (.goto 4, 3) := by decide +kernel
theorem dX9_has_13 : decode cX9_has 13 = .ok (.iconst 0, 1) := by decide +kernel
theorem dX9_has_14 : decode cX9_has 14 = .ok (.ireturn, 1) := by decide +kernel
theorem dX9_ones_0 : decode cX9_ones 0 = .ok (.iconst 0, 1) := by decide +kernel
theorem dX9_ones_1 : decode cX9_ones 1 = .ok (.istore_n 1, 1) := by decide +kernel
theorem dX9_ones_2 : decode cX9_ones 2 = .ok (.iload_n 0, 1) := by decide +kernel
theorem dX9_ones_3 : decode cX9_ones 3 = .ok (.istore_n 2, 1) := by decide +kernel
theorem dX9_ones_4 : decode cX9_ones 4 = .ok (.iload_n 2, 1) := by decide +kernel
theorem dX9_ones_5 : decode cX9_ones 5 = .ok (.ifCond .eq 15, 3) := by decide +kernel
theorem dX9_ones_8 : decode cX9_ones 8 = .ok (.iinc 1 1, 3) := by decide +kernel
theorem dX9_ones_11 : decode cX9_ones 11 = .ok (.iload_n 2, 1) := by decide +kernel
theorem dX9_ones_12 : decode cX9_ones 12 = .ok (.iload_n 2, 1) := by decide +kernel
theorem dX9_ones_13 : decode cX9_ones 13 = .ok (.iconst 1, 1) := by decide +kernel
theorem dX9_ones_14 : decode cX9_ones 14 = .ok (.isub, 1) := by decide +kernel
theorem dX9_ones_15 : decode cX9_ones 15 = .ok (.iand, 1) := by decide +kernel
theorem dX9_ones_16 : decode cX9_ones 16 = .ok (.istore_n 2, 1) := by decide +kernel
theorem dX9_ones_17 : decode cX9_ones 17 = .ok (.goto (-13), 3) := by decide +kernel
theorem dX9_ones_20 : decode cX9_ones 20 = .ok (.iload_n 1, 1) := by decide +kernel
theorem dX9_ones_21 : decode cX9_ones 21 = .ok (.ireturn, 1) := by decide +kernel
set_option maxRecDepth 20000 in
theorem ggX9_type_X9_in : GoodIn wsX9_type wsX9_in := goodIn_r _ [7] (by decide +kernel) (by decide +kernel)
set_option maxRecDepth 20000 in
theorem gX9_type_X9_in : GoodIn wsX9_type (va_wsS RX9 79 yX9_in wsX9_in) := goodIn_app (goodIn_of _ (by decide +kernel)) ggX9_type_X9_in
theorem dX9_type_0 : decode cX9_type 0 = .ok (.aload_n 0, 1) := by decide +kernel
theorem dX9_type_1 : decode cX9_type 1 = .ok (.iconst 0, 1) := by decide +kernel
theorem dX9_type_2 : decode cX9_type 2 = .ok (.putfield 75, 3) := by decide +kernel
theorem dX9_type_5 : decode cX9_type 5 = .ok (.iload_n 1, 1) := by decide +kernel
theorem dX9_type_6 : decode cX9_type 6 = .ok (.iconst 0, 1) := by decide +kernel
theorem dX9_type_7 : decode cX9_type 7 = .ok (.sipush 255, 3) := by decide +kernel
theorem dX9_type_10 : decode cX9_type 10 = .ok (.invokestatic 79, 3) := by decide +kernel
theorem dX9_type_13 : decode cX9_type 13 = .ok (.ifCond .ne 5, 3) := by decide +kernel
theorem dX9_type_16 : decode cX9_type 16 = .ok (.iconst (-1), 1) := by decide +kernel
theorem dX9_type_17 : decode cX9_type 17 = .ok (.ireturn, 1) := by decide +kernel
theorem dX9_type_18 : decode cX9_type 18 = .ok (.aload_n 0, 1) := by decide +kernel
theorem dX9_type_19 : decode cX9_type 19 = .ok (.getfield 83, 3) := by decide +kernel
theorem dX9_type_22 : decode cX9_type 22 = .ok (.bipush 120, 2) := by decide +kernel
theorem dX9_type_24 : decode cX9_type 24 = .ok (.if_icmp .ne 6, 3) := by decide +kernel
theorem dX9_type_27 : decode cX9_type 27 = .ok (.bipush (-3), 2) := by decide +kernel
theorem dX9_type_29 : decode cX9_type 29 = .ok (.ireturn, 1) := by decide +kernel
theorem dX9_type_30 : decode cX9_type 30 = .ok (.aload_n 0, 1) := by decide +kernel
theorem dX9_type_31 : decode cX9_type 31 = .ok (.getfield 7, 3) := by decide +kernel
theorem dX9_type_34 : decode cX9_type 34 = .ok (.aload_n 0, 1) := by decide +kernel
theorem dX9_type_35 : decode cX9_type 35 = .ok (.getfield 83, 3) := by decide +kernel
theorem dX9_type_38 : decode cX9_type 38 = .ok (.iload_n 1, 1) := by decide +kernel
theorem dX9_type_39 : decode cX9_type 39 = .ok (.iastore, 1) := by decide +kernel
theorem dX9_type_40 : decode cX9_type 40 = .ok (.aload_n 0, 1) := by decide +kernel
theorem dX9_type_41 : decode cX9_type 41 = .ok (.dup, 1) := by decide +kernel
theorem dX9_type_42 : decode cX9_type 42 = .ok (.getfield 83, 3) := by decide +kernel
theorem dX9_type_45 : decode cX9_type 45 = .ok (.iconst 1, 1) := by decide +kernel
theorem dX9_type_46 : decode cX9_type 46 = .ok (.iadd, 1) := by decide +kernel
theorem dX9_type_47 : decode cX9_type 47 = .ok (.putfield 83, 3) := by decide +kernel
theorem dX9_type_50 : decode cX9_type 50 = .ok (.aload_n 0, 1) := by decide +kernel
theorem dX9_type_51 : decode cX9_type 51 = .ok (.getfield 83, 3) := by decide +kernel
theorem dX9_type_54 : decode cX9_type 54 = .ok (.ireturn, 1) := by decide +kernel
theorem dX9_clear_0 : decode cX9_clear 0 = .ok (.aload_n 0, 1) := by decide +kernel
theorem dX9_clear_1 : decode cX9_clear 1 = .ok (.iconst 0, 1) := by decide +kernel
theorem dX9_clear_2 : decode cX9_clear 2 = .ok (.putfield 75, 3) := by decide +kernel
theorem dX9_clear_5 : decode cX9_clear 5 = .ok (.aload_n 0, 1) := by decide +kernel
theorem dX9_clear_6 : decode cX9_clear 6 = .ok (.getfield 83, 3) := by decide +kernel
theorem dX9_clear_9 : decode cX9_clear 9 = .ok (.istore_n 1, 1) := by decide +kernel
theorem dX9_clear_10 : decode cX9_clear 10 = .ok (.aload_n 0, 1) := by decide +kernel
theorem dX9_clear_11 : decode cX9_clear 11 = .ok (.iconst 0, 1) := by decide +kernel
theorem dX9_clear_12 : decode cX9_clear 12 = .ok (.putfield 83, 3) := by decide +kernel
theorem dX9_clear_15 : decode cX9_clear 15 = .ok (.iload_n 1, 1) := by decide +kernel
theorem dX9_clear_16 : decode cX9_clear 16 = .ok (.ireturn, 1) := by decide +kernel
theorem dX9_letterAt_0 : decode cX9_letterAt 0 = .ok (.iload_n 1, 1) := by decide +kernel
theorem dX9_letterAt_1 : decode cX9_letterAt 1 = .ok (.aload_n 0, 1) := by decide +kernel
theorem dX9_letterAt_2 : decode cX9_letterAt 2 = .ok (.getfield 83, 3) := by decide +kernel
theorem dX9_letterAt_5 : decode cX9_letterAt 5 = .ok (.if_icmp .ge 12, 3) := by decide +kernel
theorem dX9_letterAt_8 : decode cX9_letterAt 8 = .ok (.aload_n 0, 1) := by decide +kernel
theorem dX9_letterAt_9 : decode cX9_letterAt 9 = .ok (.getfield 7, 3) := by decide +kernel
theorem dX9_letterAt_12 : decode cX9_letterAt 12 = .ok (.iload_n 1, 1) := by decide +kernel
theorem dX9_letterAt_13 : decode cX9_letterAt 13 = .ok (.iaload, 1) := by decide +kernel
theorem dX9_letterAt_14 : decode cX9_letterAt 14 = .ok (.goto 4, 3) := by decide +kernel
theorem dX9_letterAt_17 : decode cX9_letterAt 17 = .ok (.iconst (-1), 1) := by decide +kernel
theorem dX9_letterAt_18 : decode cX9_letterAt 18 = .ok (.ireturn, 1) := by decide +kernel
set_option maxRecDepth 20000 in
theorem ggX9_advances_X9_letterAt : GoodIn wsX9_advances wsX9_letterAt := goodIn_r _ [9, 10, 11, 15, 16, 17, 18, 19, 20, 21, 22, 23, 24, 25, 26, 27, 28, 29, 30, 31, 32, 33, 34, 35, 36, 37, 38, 39, 40, 41, 42, 43, 44, 45, 46, 47, 48, 49, 50] (by decide +kernel) (by decide +kernel)
set_option maxRecDepth 20000 in
theorem gX9_advances_X9_letterAt : GoodIn wsX9_advances (wsV RX9 89 RX9 yX9_letterAt wsX9_letterAt) := goodIn_app (goodIn_of _ (by decide +kernel)) ggX9_advances_X9_letterAt
set_option maxRecDepth 20000 in
theorem ggX9_advances_X9_in : GoodIn wsX9_advances wsX9_in := goodIn_r _ [14] (by decide +kernel) (by decide +kernel)
set_option maxRecDepth 20000 in
theorem gX9_advances_X9_in : GoodIn wsX9_advances (va_wsS RX9 79 yX9_in wsX9_in) := goodIn_app (goodIn_of _ (by decide +kernel)) ggX9_advances_X9_in
theorem dX9_advances_0 : decode cX9_advances 0 = .ok (.aload_n 0, 1) := by decide +kernel
theorem dX9_advances_1 : decode cX9_advances 1 = .ok (.aload_n 0, 1) := by decide +kernel
theorem dX9_advances_2 : decode cX9_advances 2 = .ok (.getfield 86, 3) := by decide +kernel
theorem dX9_advances_5 : decode cX9_advances 5 = .ok (.invokevirtual 89, 3) := by decide +kernel
theorem dX9_advances_8 : decode cX9_advances 8 = .ok (.bipush 32, 2) := by decide +kernel
theorem dX9_advances_10 : decode cX9_advances 10 = .ok (.if_icmp .ne 16, 3) := by decide +kernel
theorem dX9_advances_13 : decode cX9_advances 13 = .ok (.aload_n 0, 1) := by decide +kernel
theorem dX9_advances_14 : decode cX9_advances 14 = .ok (.dup, 1) := by decide +kernel
theorem dX9_advances_15 : decode cX9_advances 15 = .ok (.getfield 86, 3) := by decide +kernel
theorem dX9_advances_18 : decode cX9_advances 18 = .ok (.iconst 1, 1) := by decide +kernel
theorem dX9_advances_19 : decode cX9_advances 19 = .ok (.iadd, 1) := by decide +kernel
theorem dX9_advances_20 : decode cX9_advances 20 = .ok (.putfield 86, 3) := by decide +kernel
theorem dX9_advances_23 : decode cX9_advances 23 = .ok (.goto (-23), 3) := by decide +kernel
theorem dX9_advances_26 : decode cX9_advances 26 = .ok (.aload_n 0, 1) := by decide +kernel
theorem dX9_advances_27 : decode cX9_advances 27 = .ok (.aload_n 0, 1) := by decide +kernel
theorem dX9_advances_28 : decode cX9_advances 28 = .ok (.getfield 86, 3) := by decide +kernel
theorem dX9_advances_31 : decode cX9_advances 31 = .ok (.putfield 93, 3) := by decide +kernel
theorem dX9_advances_34 : decode cX9_advances 34 = .ok (.aload_n 0, 1) := by decide +kernel
theorem dX9_advances_35 : decode cX9_advances 35 = .ok (.aload_n 0, 1) := by decide +kernel
theorem dX9_advances_36 : decode cX9_advances 36 = .ok (.getfield 86, 3) := by decide +kernel
theorem dX9_advances_39 : decode cX9_advances 39 = .ok (.invokevirtual 89, 3) := by decide +kernel
theorem dX9_advances_42 : decode cX9_advances 42 = .ok (.istore_n 1, 1) := by decide +kernel
theorem dX9_advances_43 : decode cX9_advances 43 = .ok (.iload_n 1, 1) := by decide +kernel
theorem dX9_advances_44 : decode cX9_advances 44 = .ok (.ifCond .ge 11, 3) := by decide +kernel
theorem dX9_advances_47 : decode cX9_advances 47 = .ok (.aload_n 0, 1) := by decide +kernel
theorem dX9_advances_48 : decode cX9_advances 48 = .ok (.iconst 0, 1) := by decide +kernel
theorem dX9_advances_49 : decode cX9_advances 49 = .ok (.putfield 96, 3) := by decide +kernel
theorem dX9_advances_52 : decode cX9_advances 52 = .ok (.goto 175, 3) := by decide +kernel
theorem dX9_advances_55 : decode cX9_advances 55 = .ok (.iload_n 1, 1) := by decide +kernel
theorem dX9_advances_56 : decode cX9_advances 56 = .ok (.bipush 48, 2) := by decide +kernel
theorem dX9_advances_58 : decode cX9_advances 58 = .ok (.bipush 57, 2) := by decide +kernel
theorem dX9_advances_60 : decode cX9_advances 60 = .ok (.invokestatic 79, 3) := by decide +kernel
theorem dX9_advances_63 : decode cX9_advances 63 = .ok (.ifCond .eq 118, 3) := by decide +kernel
theorem dX9_advances_66 : decode cX9_advances 66 = .ok (.aload_n 0, 1) := by decide +kernel
theorem dX9_advances_67 : decode cX9_advances 67 = .ok (.iconst 0, 1) := by decide +kernel
theorem dX9_advances_68 : decode cX9_advances 68 = .ok (.putfield 99, 3) := by decide +kernel
theorem dX9_advances_71 : decode cX9_advances 71 = .ok (.aload_n 0, 1) := by decide +kernel
theorem dX9_advances_72 : decode cX9_advances 72 = .ok (.aload_n 0, 1) := by decide +kernel
theorem dX9_advances_73 : decode cX9_advances 73 = .ok (.getfield 86, 3) := by decide +kernel
theorem dX9_advances_76 : decode cX9_advances 76 = .ok (.invokevirtual 89, 3) := by decide +kernel
theorem dX9_advances_79 : decode cX9_advances 79 = .ok (.bipush 48, 2) := by decide +kernel
theorem dX9_advances_81 : decode cX9_advances 81 = .ok (.bipush 57, 2) := by decide +kernel
theorem dX9_advances_83 : decode cX9_advances 83 = .ok (.invokestatic 79, 3) := by decide +kernel
theorem dX9_advances_86 : decode cX9_advances 86 = .ok (.ifCond .eq 55, 3) := by decide +kernel
theorem dX9_advances_89 : decode cX9_advances 89 = .ok (.aload_n 0, 1) := by decide +kernel
theorem dX9_advances_90 : decode cX9_advances 90 = .ok (.aload_n 0, 1) := by decide +kernel
theorem dX9_advances_91 : decode cX9_advances 91 = .ok (.getfield 99, 3) := by decide +kernel
theorem dX9_advances_94 : decode cX9_advances 94 = .ok (.bipush 99, 2) := by decide +kernel
theorem dX9_advances_96 : decode cX9_advances 96 = .ok (.if_icmp .le 10, 3) := by decide +kernel
theorem dX9_advances_99 : decode cX9_advances 99 = .ok (.aload_n 0, 1) := by decide +kernel
theorem dX9_advances_100 : decode cX9_advances 100 = .ok (.getfield 99, 3) := by decide +kernel
theorem dX9_advances_103 : decode cX9_advances 103 = .ok (.goto 22, 3) := by decide +kernel
theorem dX9_advances_106 : decode cX9_advances 106 = .ok (.bipush 10, 2) := by decide +kernel
theorem dX9_advances_108 : decode cX9_advances 108 = .ok (.aload_n 0, 1) := by decide +kernel
theorem dX9_advances_109 : decode cX9_advances 109 = .ok (.getfield 99, 3) := by decide +kernel
theorem dX9_advances_112 : decode cX9_advances 112 = .ok (.imul, 1) := by decide +kernel
theorem dX9_advances_113 : decode cX9_advances 113 = .ok (.aload_n 0, 1) := by decide +kernel
theorem dX9_advances_114 : decode cX9_advances 114 = .ok (.aload_n 0, 1) := by decide +kernel
theorem dX9_advances_115 : decode cX9_advances 115 = .ok (.getfield 86, 3) := by decide +kernel
theorem dX9_advances_118 : decode cX9_advances 118 = .ok (.invokevirtual 89, 3) := by decide +kernel
theorem dX9_advances_121 : decode cX9_advances 121 = .ok (.iadd, 1) := by decide +kernel
theorem dX9_advances_122 : decode cX9_advances 122 = .ok (.bipush 48, 2) := by decide +kernel
theorem dX9_advances_124 : decode cX9_advances 124 = .ok (.isub, 1) := by decide +kernel
theorem dX9_advances_125 : decode cX9_advances 125 = .ok (.putfield 99, 3) := by decide +kernel
theorem dX9_advances_128 : decode cX9_advances 128 = .ok (.aload_n 0, 1) := by decide +kernel
theorem dX9_advances_129 : decode cX9_advances 129 = .ok (.dup, 1) := by decide +kernel
theorem dX9_advances_130 : decode cX9_advances 130 = .ok (.getfield 86, 3) := by decide +kernel
theorem dX9_advances_133 : decode cX9_advances 133 = .ok (.iconst 1, 1) := by decide +kernel
theorem dX9_advances_134 : decode cX9_advances 134 = .ok (.iadd, 1) := by decide +kernel
theorem dX9_advances_135 : decode cX9_advances 135 = .ok (.putfield 86, 3) := by decide +kernel
theorem dX9_advances_138 : decode cX9_advances 138 = .ok (.goto (-67), 3) := by decide +kernel
theorem dX9_advances_141 : decode cX9_advances 141 = .ok (.aload_n 0, 1) := by decide +kernel
theorem dX9_advances_142 : decode cX9_advances 142 = .ok (.aload_n 0, 1) := by decide +kernel
theorem dX9_advances_143 : decode cX9_advances 143 = .ok (.getfield 99, 3) := by decide +kernel
theorem dX9_advances_146 : decode cX9_advances 146 = .ok (.bipush 99, 2) := by decide +kernel
theorem dX9_advances_148 : decode cX9_advances 148 = .ok (.if_icmp .gt 22, 3) := by decide +kernel
theorem dX9_advances_151 : decode cX9_advances 151 = .ok (.iload_n 1, 1) := by decide +kernel
theorem dX9_advances_152 : decode cX9_advances 152 = .ok (.bipush 48, 2) := by decide +kernel
theorem dX9_advances_154 : decode cX9_advances 154 = .ok (.if_icmp .ne 20, 3) := by decide +kernel
theorem dX9_advances_157 : decode cX9_advances 157 = .ok (.aload_n 0, 1) := by decide +kernel
theorem dX9_advances_158 : decode cX9_advances 158 = .ok (.getfield 86, 3) := by decide +kernel
theorem dX9_advances_161 : decode cX9_advances 161 = .ok (.aload_n 0, 1) := by decide +kernel
theorem dX9_advances_162 : decode cX9_advances 162 = .ok (.getfield 93, 3) := by decide +kernel
theorem dX9_advances_165 : decode cX9_advances 165 = .ok (.isub, 1) := by decide +kernel
theorem dX9_advances_166 : decode cX9_advances 166 = .ok (.iconst 1, 1) := by decide +kernel
theorem dX9_advances_167 : decode cX9_advances 167 = .ok (.if_icmp .le 7, 3) := by decide +kernel
theorem dX9_advances_170 : decode cX9_advances 170 = .ok (.iconst 4, 1) := by decide +kernel
theorem dX9_advances_171 : decode cX9_advances 171 = .ok (.goto 4, 3) := by decide +kernel
theorem dX9_advances_174 : decode cX9_advances 174 = .ok (.iconst 2, 1) := by decide +kernel
theorem dX9_advances_175 : decode cX9_advances 175 = .ok (.putfield 96, 3) := by decide +kernel
theorem dX9_advances_178 : decode cX9_advances 178 = .ok (.goto 49, 3) := by decide +kernel
theorem dX9_advances_181 : decode cX9_advances 181 = .ok (.aload_n 0, 1) := by decide +kernel
theorem dX9_advances_182 : decode cX9_advances 182 = .ok (.dup, 1) := by decide +kernel
theorem dX9_advances_183 : decode cX9_advances 183 = .ok (.getfield 86, 3) := by decide +kernel
theorem dX9_advances_186 : decode cX9_advances 186 = .ok (.iconst 1, 1) := by decide +kernel
theorem dX9_advances_187 : decode cX9_advances 187 = .ok (.iadd, 1) := by decide +kernel
theorem dX9_advances_188 : decode cX9_advances 188 = .ok (.putfield 86, 3) := by decide +kernel
theorem dX9_advances_191 : decode cX9_advances 191 = .ok (.aload_n 0, 1) := by decide +kernel
theorem dX9_advances_192 : decode cX9_advances 192 = .ok (.iload_n 1, 1) := by decide +kernel
theorem dX9_advances_193 : decode cX9_advances 193 = .ok (.putfield 99, 3) := by decide +kernel
theorem dX9_advances_196 : decode cX9_advances 196 = .ok (.aload_n 0, 1) := by decide +kernel
theorem dX9_advances_197 : decode cX9_advances 197 = .ok (.iload_n 1, 1) := by decide +kernel
theorem dX9_advances_198 : decode cX9_advances 198 = .ok (.bipush 59, 2) := by decide +kernel
theorem dX9_advances_200 : decode cX9_advances 200 = .ok (.if_icmp .ne 7, 3) := by decide +kernel
theorem dX9_advances_203 : decode cX9_advances 203 = .ok (.iconst 3, 1) := by decide +kernel
theorem dX9_advances_204 : decode cX9_advances 204 = .ok (.goto 20, 3) := by decide +kernel
theorem dX9_advances_207 : decode cX9_advances 207 = .ok (.iload_n 1, 1) := by decide +kernel
theorem dX9_advances_208 : decode cX9_advances 208 = .ok (.bipush 110, 2) := by decide +kernel
theorem dX9_advances_210 : decode cX9_advances 210 = .ok (.if_icmp .eq 9, 3) := by decide +kernel
theorem dX9_advances_213 : decode cX9_advances 213 = .ok (.iload_n 1, 1) := by decide +kernel
theorem dX9_advances_214 : decode cX9_advances 214 = .ok (.bipush 97, 2) := by decide +kernel
theorem dX9_advances_216 : decode cX9_advances 216 = .ok (.if_icmp .ne 7, 3) := by decide +kernel
theorem dX9_advances_219 : decode cX9_advances 219 = .ok (.iconst 1, 1) := by decide +kernel
theorem dX9_advances_220 : decode cX9_advances 220 = .ok (.goto 4, 3) := by decide +kernel
theorem dX9_advances_223 : decode cX9_advances 223 = .ok (.iconst 4, 1) := by decide +kernel
theorem dX9_advances_224 : decode cX9_advances 224 = .ok (.putfield 96, 3) := by decide +kernel
theorem dX9_advances_227 : decode cX9_advances 227 = .ok (.return_, 1) := by decide +kernel
theorem dX9_isWell_0 : decode cX9_isWell 0 = .ok (.aload_n 0, 1) := by decide +kernel
theorem dX9_isWell_1 : decode cX9_isWell 1 = .ok (.getfield 102, 3) := by decide +kernel
theorem dX9_isWell_4 : decode cX9_isWell 4 = .ok (.ifCond .ge 7, 3) := by decide +kernel
theorem dX9_isWell_7 : decode cX9_isWell 7 = .ok (.iconst 1, 1) := by decide +kernel
theorem dX9_isWell_8 : decode cX9_isWell 8 = .ok (.goto 4, 3) := by decide +kernel
theorem dX9_isWell_11 : decode cX9_isWell 11 = .ok (.iconst 0, 1) := by decide +kernel
theorem dX9_isWell_12 : decode cX9_isWell 12 = .ok (.ireturn, 1) := by decide +kernel
set_option maxRecDepth 20000 in
theorem ggX9_takes_X9_isWell : GoodIn wsX9_takes wsX9_isWell := goodIn_r _ [8, 2, 24, 25, 26, 27, 28, 29, 30, 31, 32, 33, 34, 35, 36, 37, 38, 39, 40, 41, 42, 43, 44, 45, 46, 47, 48, 49, 50, 51, 52, 53, 54, 55, 56, 57, 58, 59] (by decide +kernel) (by decide +kernel)
set_option maxRecDepth 20000 in
theorem gX9_takes_X9_isWell : GoodIn wsX9_takes (wsV RX9 105 RX9 yX9_isWell wsX9_isWell) := goodIn_app (goodIn_of _ (by decide +kernel)) ggX9_takes_X9_isWell
set_option maxRecDepth 20000 in
theorem ggX9_takes_X9_advances : GoodIn wsX9_takes wsX9_advances := goodIn_r _ [12, 13, 1, 14, 3, 15, 16, 17, 7, 18, 19, 20, 21, 22, 23, 24, 25, 26, 27, 28, 29, 30, 31, 32, 33, 34, 35, 36, 37, 38, 39, 40, 41, 42, 43, 44, 45, 46, 47, 48, 49, 50, 51, 52, 53, 54, 55, 56, 57, 58, 59] (by decide +kernel) (by decide +kernel)
set_option maxRecDepth 20000 in
theorem gX9_takes_X9_advances : GoodIn wsX9_takes (wsV RX9 109 RX9 yX9_advances wsX9_advances) := goodIn_app (goodIn_of _ (by decide +kernel)) ggX9_takes_X9_advances
theorem dX9_takes_0 : decode cX9_takes 0 = .ok (.aload_n 0, 1) := by decide +kernel
theorem dX9_takes_1 : decode cX9_takes 1 = .ok (.invokevirtual 105, 3) := by decide +kernel
theorem dX9_takes_4 : decode cX9_takes 4 = .ok (.ifCond .ne 5, 3) := by decide +kernel
theorem dX9_takes_7 : decode cX9_takes 7 = .ok (.iconst 0, 1) := by decide +kernel
theorem dX9_takes_8 : decode cX9_takes 8 = .ok (.ireturn, 1) := by decide +kernel
theorem dX9_takes_9 : decode cX9_takes 9 = .ok (.iload_n 1, 1) := by decide +kernel
theorem dX9_takes_10 : decode cX9_takes 10 = .ok (.ifCond .ne 13, 3) := by decide +kernel
theorem dX9_takes_13 : decode cX9_takes 13 = .ok (.aload_n 0, 1) := by decide +kernel
theorem dX9_takes_14 : decode cX9_takes 14 = .ok (.aload_n 0, 1) := by decide +kernel
theorem dX9_takes_15 : decode cX9_takes 15 = .ok (.getfield 93, 3) := by decide +kernel
theorem dX9_takes_18 : decode cX9_takes 18 = .ok (.putfield 102, 3) := by decide +kernel
theorem dX9_takes_21 : decode cX9_takes 21 = .ok (.iconst 0, 1) := by decide +kernel
theorem dX9_takes_22 : decode cX9_takes 22 = .ok (.ireturn, 1) := by decide +kernel
theorem dX9_takes_23 : decode cX9_takes 23 = .ok (.aload_n 0, 1) := by decide +kernel
theorem dX9_takes_24 : decode cX9_takes 24 = .ok (.getfield 99, 3) := by decide +kernel
theorem dX9_takes_27 : decode cX9_takes 27 = .ok (.istore_n 2, 1) := by decide +kernel
theorem dX9_takes_28 : decode cX9_takes 28 = .ok (.aload_n 0, 1) := by decide +kernel
theorem dX9_takes_29 : decode cX9_takes 29 = .ok (.invokevirtual 109, 3) := by decide +kernel
theorem dX9_takes_32 : decode cX9_takes 32 = .ok (.iload_n 2, 1) := by decide +kernel
theorem dX9_takes_33 : decode cX9_takes 33 = .ok (.ireturn, 1) := by decide +kernel
set_option maxRecDepth 20000 in
theorem ggX9_isNumber_X9_in : GoodIn wsX9_isNumber wsX9_in := goodIn_r _ [6] (by decide +kernel) (by decide +kernel)
set_option maxRecDepth 20000 in
theorem gX9_isNumber_X9_in : GoodIn wsX9_isNumber (va_wsS RX9 79 yX9_in wsX9_in) := goodIn_app (goodIn_of _ (by decide +kernel)) ggX9_isNumber_X9_in
theorem dX9_isNumber_0 : decode cX9_isNumber 0 = .ok (.aload_n 0, 1) := by decide +kernel
theorem dX9_isNumber_1 : decode cX9_isNumber 1 = .ok (.getfield 96, 3) := by decide +kernel
theorem dX9_isNumber_4 : decode cX9_isNumber 4 = .ok (.iconst 2, 1) := by decide +kernel
theorem dX9_isNumber_5 : decode cX9_isNumber 5 = .ok (.if_icmp .ne 19, 3) := by decide +kernel
theorem dX9_isNumber_8 : decode cX9_isNumber 8 = .ok (.aload_n 0, 1) := by decide +kernel
theorem dX9_isNumber_9 : decode cX9_isNumber 9 = .ok (.getfield 99, 3) := by decide +kernel
theorem dX9_isNumber_12 : decode cX9_isNumber 12 = .ok (.iload_n 1, 1) := by decide +kernel
theorem dX9_isNumber_13 : decode cX9_isNumber 13 = .ok (.iload_n 2, 1) := by decide +kernel
theorem dX9_isNumber_14 : decode cX9_isNumber 14 = .ok (.invokestatic 79, 3) := by decide +kernel
theorem dX9_isNumber_17 : decode cX9_isNumber 17 = .ok (.ifCond .eq 7, 3) := by decide +kernel
theorem dX9_isNumber_20 : decode cX9_isNumber 20 = .ok (.iconst 1, 1) := by decide +kernel
theorem dX9_isNumber_21 : decode cX9_isNumber 21 = .ok (.goto 4, 3) := by decide +kernel
theorem dX9_isNumber_24 : decode cX9_isNumber 24 = .ok (.iconst 0, 1) := by decide +kernel
theorem dX9_isNumber_25 : decode cX9_isNumber 25 = .ok (.ireturn, 1) := by decide +kernel
theorem dX9_begins_0 : decode cX9_begins 0 = .ok (.aload_n 0, 1) := by decide +kernel
theorem dX9_begins_1 : decode cX9_begins 1 = .ok (.iconst 4, 1) := by decide +kernel
theorem dX9_begins_2 : decode cX9_begins 2 = .ok (.putfield 112, 3) := by decide +kernel
theorem dX9_begins_5 : decode cX9_begins 5 = .ok (.iconst 0, 1) := by decide +kernel
theorem dX9_begins_6 : decode cX9_begins 6 = .ok (.istore_n 1, 1) := by decide +kernel
theorem dX9_begins_7 : decode cX9_begins 7 = .ok (.iload_n 1, 1) := by decide +kernel
theorem dX9_begins_8 : decode cX9_begins 8 = .ok (.bipush 12, 2) := by decide +kernel
theorem dX9_begins_10 : decode cX9_begins 10 = .ok (.if_icmp .ge 28, 3) := by decide +kernel
theorem dX9_begins_13 : decode cX9_begins 13 = .ok (.aload_n 0, 1) := by decide +kernel
theorem dX9_begins_14 : decode cX9_begins 14 = .ok (.getfield 13, 3) := by decide +kernel
theorem dX9_begins_17 : decode cX9_begins 17 = .ok (.iconst 0, 1) := by decide +kernel
theorem dX9_begins_18 : decode cX9_begins 18 = .ok (.iload_n 1, 1) := by decide +kernel
theorem dX9_begins_19 : decode cX9_begins 19 = .ok (.iadd, 1) := by decide +kernel
theorem dX9_begins_20 : decode cX9_begins 20 = .ok (.iconst 0, 1) := by decide +kernel
theorem dX9_begins_21 : decode cX9_begins 21 = .ok (.iastore, 1) := by decide +kernel
theorem dX9_begins_22 : decode cX9_begins 22 = .ok (.aload_n 0, 1) := by decide +kernel
theorem dX9_begins_23 : decode cX9_begins 23 = .ok (.getfield 13, 3) := by decide +kernel
theorem dX9_begins_26 : decode cX9_begins 26 = .ok (.bipush 12, 2) := by decide +kernel
theorem dX9_begins_28 : decode cX9_begins 28 = .ok (.iload_n 1, 1) := by decide +kernel
theorem dX9_begins_29 : decode cX9_begins 29 = .ok (.iadd, 1) := by decide +kernel
theorem dX9_begins_30 : decode cX9_begins 30 = .ok (.iload_n 1, 1) := by decide +kernel
theorem dX9_begins_31 : decode cX9_begins 31 = .ok (.iastore, 1) := by decide +kernel
theorem dX9_begins_32 : decode cX9_begins 32 = .ok (.iinc 1 1, 3) := by decide +kernel
theorem dX9_begins_35 : decode cX9_begins 35 = .ok (.goto (-28), 3) := by decide +kernel
theorem dX9_begins_38 : decode cX9_begins 38 = .ok (.return_, 1) := by decide +kernel
set_option maxRecDepth 20000 in
theorem ggX9_canBe_X9_isNumber : GoodIn wsX9_canBe wsX9_isNumber := goodIn_r _ [9, 10, 2, 11, 12, 8, 13, 23, 24, 25, 26, 27, 28, 29, 30, 31, 32, 33, 34, 35, 36, 37, 38, 39, 40, 41, 42, 43, 44, 45, 46, 47, 48, 49, 50, 51, 52, 53, 54, 55, 56, 57, 58] (by decide +kernel) (by decide +kernel)
set_option maxRecDepth 20000 in
theorem gX9_canBe_X9_isNumber : GoodIn wsX9_canBe (wsV RX9 115 RX9 yX9_isNumber wsX9_isNumber) := goodIn_app (goodIn_of _ (by decide +kernel)) ggX9_canBe_X9_isNumber
set_option maxRecDepth 20000 in
theorem ggX9_canBe_X9_has : GoodIn wsX9_canBe wsX9_has := goodIn_r _ [16] (by decide +kernel) (by decide +kernel)
set_option maxRecDepth 20000 in
theorem gX9_canBe_X9_has : GoodIn wsX9_canBe (va_wsS RX9 119 yX9_has wsX9_has) := goodIn_app (goodIn_of _ (by decide +kernel)) ggX9_canBe_X9_has
set_option maxRecDepth 20000 in
theorem ggX9_canBe_X9_looks : GoodIn wsX9_canBe wsX9_looks := goodIn_r _ [20, 21, 22, 4, 11, 12, 8, 13, 14, 15, 16, 23, 24, 25, 26, 27, 28, 29, 30, 31, 32, 33, 34, 35, 36, 37, 38, 39, 40, 41, 42, 43, 44, 45, 46, 47, 48, 49, 50, 51, 52, 53, 54, 55, 56, 57, 58] (by decide +kernel) (by decide +kernel)
set_option maxRecDepth 20000 in
theorem gX9_canBe_X9_looks : GoodIn wsX9_canBe (wsV RX9 122 RX9 yX9_looks wsX9_looks) := goodIn_app (goodIn_of _ (by decide +kernel)) ggX9_canBe_X9_looks
theorem dX9_canBe_0 : decode cX9_canBe 0 = .ok (.aload_n 0, 1) := by decide +kernel
theorem dX9_canBe_1 : decode cX9_canBe 1 = .ok (.iconst 0, 1) := by decide +kernel
theorem dX9_canBe_2 : decode cX9_canBe 2 = .ok (.aload_n 0, 1) := by decide +kernel
theorem dX9_canBe_3 : decode cX9_canBe 3 = .ok (.getfield 112, 3) := by decide +kernel
theorem dX9_canBe_6 : decode cX9_canBe 6 = .ok (.iconst 1, 1) := by decide +kernel
theorem dX9_canBe_7 : decode cX9_canBe 7 = .ok (.isub, 1) := by decide +kernel
theorem dX9_canBe_8 : decode cX9_canBe 8 = .ok (.invokevirtual 115, 3) := by decide +kernel
theorem dX9_canBe_11 : decode cX9_canBe 11 = .ok (.ifCond .eq 29, 3) := by decide +kernel
theorem dX9_canBe_14 : decode cX9_canBe 14 = .ok (.aload_n 0, 1) := by decide +kernel
theorem dX9_canBe_15 : decode cX9_canBe 15 = .ok (.getfield 99, 3) := by decide +kernel
theorem dX9_canBe_18 : decode cX9_canBe 18 = .ok (.iload_n 1, 1) := by decide +kernel
theorem dX9_canBe_19 : decode cX9_canBe 19 = .ok (.if_icmp .eq 21, 3) := by decide +kernel
theorem dX9_canBe_22 : decode cX9_canBe 22 = .ok (.aload_n 0, 1) := by decide +kernel
theorem dX9_canBe_23 : decode cX9_canBe 23 = .ok (.getfield 13, 3) := by decide +kernel
theorem dX9_canBe_26 : decode cX9_canBe 26 = .ok (.iconst 0, 1) := by decide +kernel
theorem dX9_canBe_27 : decode cX9_canBe 27 = .ok (.iload_n 1, 1) := by decide +kernel
theorem dX9_canBe_28 : decode cX9_canBe 28 = .ok (.iadd, 1) := by decide +kernel
theorem dX9_canBe_29 : decode cX9_canBe 29 = .ok (.iaload, 1) := by decide +kernel
theorem dX9_canBe_30 : decode cX9_canBe 30 = .ok (.aload_n 0, 1) := by decide +kernel
theorem dX9_canBe_31 : decode cX9_canBe 31 = .ok (.getfield 99, 3) := by decide +kernel
theorem dX9_canBe_34 : decode cX9_canBe 34 = .ok (.invokestatic 119, 3) := by decide +kernel
theorem dX9_canBe_37 : decode cX9_canBe 37 = .ok (.ifCond .eq 5, 3) := by decide +kernel
theorem dX9_canBe_40 : decode cX9_canBe 40 = .ok (.iconst 0, 1) := by decide +kernel
theorem dX9_canBe_41 : decode cX9_canBe 41 = .ok (.ireturn, 1) := by decide +kernel
theorem dX9_canBe_42 : decode cX9_canBe 42 = .ok (.aload_n 0, 1) := by decide +kernel
theorem dX9_canBe_43 : decode cX9_canBe 43 = .ok (.aload_n 0, 1) := by decide +kernel
theorem dX9_canBe_44 : decode cX9_canBe 44 = .ok (.getfield 13, 3) := by decide +kernel
theorem dX9_canBe_47 : decode cX9_canBe 47 = .ok (.aload_n 0, 1) := by decide +kernel
theorem dX9_canBe_48 : decode cX9_canBe 48 = .ok (.getfield 112, 3) := by decide +kernel
theorem dX9_canBe_51 : decode cX9_canBe 51 = .ok (.iload_n 1, 1) := by decide +kernel
theorem dX9_canBe_52 : decode cX9_canBe 52 = .ok (.aload_n 0, 1) := by decide +kernel
theorem dX9_canBe_53 : decode cX9_canBe 53 = .ok (.getfield 99, 3) := by decide +kernel
theorem dX9_canBe_56 : decode cX9_canBe 56 = .ok (.invokevirtual 122, 3) := by decide +kernel
theorem dX9_canBe_59 : decode cX9_canBe 59 = .ok (.aload_n 0, 1) := by decide +kernel
theorem dX9_canBe_60 : decode cX9_canBe 60 = .ok (.getfield 126, 3) := by decide +kernel
theorem dX9_canBe_63 : decode cX9_canBe 63 = .ok (.ifCond .ne 7, 3) := by decide +kernel
theorem dX9_canBe_66 : decode cX9_canBe 66 = .ok (.iconst 1, 1) := by decide +kernel
theorem dX9_canBe_67 : decode cX9_canBe 67 = .ok (.goto 4, 3) := by decide +kernel
theorem dX9_canBe_70 : decode cX9_canBe 70 = .ok (.iconst 0, 1) := by decide +kernel
theorem dX9_canBe_71 : decode cX9_canBe 71 = .ok (.ireturn, 1) := by decide +kernel
set_option maxRecDepth 20000 in
theorem ggX9_readsEntry_X9_isNumber : GoodIn wsX9_readsEntry wsX9_isNumber := goodIn_r _ [7, 8, 9, 10, 11, 6, 12, 61, 62, 63, 64, 65, 66, 67, 68, 69, 70, 71, 72, 73, 74, 75, 76, 77, 78, 79, 80, 81, 82, 83, 84, 85, 86, 87, 88, 89, 90, 91, 92, 93, 94, 95, 96] (by decide +kernel) (by decide +kernel)
set_option maxRecDepth 20000 in
theorem gX9_readsEntry_X9_isNumber : GoodIn wsX9_readsEntry (wsV RX9 115 RX9 yX9_isNumber wsX9_isNumber) := goodIn_app (goodIn_of _ (by decide +kernel)) ggX9_readsEntry_X9_isNumber
set_option maxRecDepth 20000 in
theorem ggX9_readsEntry_X9_takes : GoodIn wsX9_readsEntry wsX9_takes := goodIn_r _ [16, 17, 18, 9, 19, 20, 21, 6, 22, 23, 24, 25, 26, 27, 8, 28, 29, 30, 31, 32, 33, 10, 11, 12, 61, 62, 63, 64, 65, 66, 67, 68, 69, 70, 71, 72, 73, 74, 75, 76, 77, 78, 79, 80, 81, 82, 83, 84, 85, 86, 87, 88, 89, 90, 91, 92, 93, 94, 95, 96] (by decide +kernel) (by decide +kernel)
set_option maxRecDepth 20000 in
theorem gX9_readsEntry_X9_takes : GoodIn wsX9_readsEntry (wsV RX9 130 RX9 yX9_takes wsX9_takes) := goodIn_app (goodIn_of _ (by decide +kernel)) ggX9_readsEntry_X9_takes
set_option maxRecDepth 20000 in
theorem ggX9_readsEntry_X9_isWell : GoodIn wsX9_readsEntry wsX9_isWell := goodIn_r _ [22, 18, 61, 62, 63, 64, 65, 66, 67, 68, 69, 70, 71, 72, 73, 74, 75, 76, 77, 78, 79, 80, 81, 82, 83, 84, 85, 86, 87, 88, 89, 90, 91, 92, 93, 94, 95, 96] (by decide +kernel) (by decide +kernel)
set_option maxRecDepth 20000 in
theorem gX9_readsEntry_X9_isWell : GoodIn wsX9_readsEntry (wsV RX9 105 RX9 yX9_isWell wsX9_isWell) := goodIn_app (goodIn_of _ (by decide +kernel)) ggX9_readsEntry_X9_isWell
set_option maxRecDepth 20000 in
theorem ggX9_readsEntry_X9_canBe : GoodIn wsX9_readsEntry wsX9_canBe := goodIn_r _ [37, 1, 9, 2, 38, 3, 4, 5, 6, 7, 8, 10, 11, 12, 39, 40, 41, 42, 43, 44, 45, 46, 47, 61, 62, 63, 64, 65, 66, 67, 68, 69, 70, 71, 72, 73, 74, 75, 76, 77, 78, 79, 80, 81, 82, 83, 84, 85, 86, 87, 88, 89, 90, 91, 92, 93, 94, 95, 96] (by decide +kernel) (by decide +kernel)
set_option maxRecDepth 20000 in
theorem gX9_readsEntry_X9_canBe : GoodIn wsX9_readsEntry (wsV RX9 134 RX9 yX9_canBe wsX9_canBe) := goodIn_app (goodIn_of _ (by decide +kernel)) ggX9_readsEntry_X9_canBe
set_option maxRecDepth 20000 in
theorem ggX9_readsEntry_X9_lays : GoodIn wsX9_readsEntry wsX9_lays := goodIn_r _ [51, 46, 42, 43, 44, 6, 45, 47, 38, 10, 11, 12, 39, 40, 41, 52, 53, 54, 55, 56, 57, 58, 59, 60, 61, 62, 63, 64, 65, 66, 67, 68, 69, 70, 71, 72, 73, 74, 75, 76, 77, 78, 79, 80, 81, 82, 83, 84, 85, 86, 87, 88, 89, 90, 91, 92, 93, 94, 95, 96] (by decide +kernel) (by decide +kernel)
set_option maxRecDepth 20000 in
theorem gX9_readsEntry_X9_lays : GoodIn wsX9_readsEntry (wsV RX9 138 RX9 yX9_lays wsX9_lays) := goodIn_app (goodIn_of _ (by decide +kernel)) ggX9_readsEntry_X9_lays
theorem dX9_readsEntry_0 : decode cX9_readsEntry 0 = .ok (.iload_n 1, 1) := by decide +kernel
theorem dX9_readsEntry_1 : decode cX9_readsEntry 1 = .ok (.bipush 110, 2) := by decide +kernel
theorem dX9_readsEntry_3 : decode cX9_readsEntry 3 = .ok (.if_icmp .ne 19, 3) := by decide +kernel
theorem dX9_readsEntry_6 : decode cX9_readsEntry 6 = .ok (.aload_n 0, 1) := by decide +kernel
theorem dX9_readsEntry_7 : decode cX9_readsEntry 7 = .ok (.aload_n 0, 1) := by decide +kernel
theorem dX9_readsEntry_8 : decode cX9_readsEntry 8 = .ok (.aload_n 0, 1) := by decide +kernel
theorem dX9_readsEntry_9 : decode cX9_readsEntry 9 = .ok (.iconst 1, 1) := by decide +kernel
theorem dX9_readsEntry_10 : decode cX9_readsEntry 10 = .ok (.bipush 12, 2) := by decide +kernel
theorem dX9_readsEntry_12 : decode cX9_readsEntry 12 = .ok (.invokevirtual 115, 3) := by decide +kernel
theorem dX9_readsEntry_15 : decode cX9_readsEntry 15 = .ok (.invokevirtual 130, 3) := by decide +kernel
theorem dX9_readsEntry_18 : decode cX9_readsEntry 18 = .ok (.putfield 112, 3) := by decide +kernel
theorem dX9_readsEntry_21 : decode cX9_readsEntry 21 = .ok (.return_, 1) := by decide +kernel
theorem dX9_readsEntry_22 : decode cX9_readsEntry 22 = .ok (.aload_n 0, 1) := by decide +kernel
theorem dX9_readsEntry_23 : decode cX9_readsEntry 23 = .ok (.aload_n 0, 1) := by decide +kernel
theorem dX9_readsEntry_24 : decode cX9_readsEntry 24 = .ok (.iconst 0, 1) := by decide +kernel
theorem dX9_readsEntry_25 : decode cX9_readsEntry 25 = .ok (.aload_n 0, 1) := by decide +kernel
theorem dX9_readsEntry_26 : decode cX9_readsEntry 26 = .ok (.getfield 112, 3) := by decide +kernel
theorem dX9_readsEntry_29 : decode cX9_readsEntry 29 = .ok (.iconst 1, 1) := by decide +kernel
theorem dX9_readsEntry_30 : decode cX9_readsEntry 30 = .ok (.isub, 1) := by decide +kernel
theorem dX9_readsEntry_31 : decode cX9_readsEntry 31 = .ok (.invokevirtual 115, 3) := by decide +kernel
theorem dX9_readsEntry_34 : decode cX9_readsEntry 34 = .ok (.invokevirtual 130, 3) := by decide +kernel
theorem dX9_readsEntry_37 : decode cX9_readsEntry 37 = .ok (.istore_n 2, 1) := by decide +kernel
theorem dX9_readsEntry_38 : decode cX9_readsEntry 38 = .ok (.aload_n 0, 1) := by decide +kernel
theorem dX9_readsEntry_39 : decode cX9_readsEntry 39 = .ok (.aload_n 0, 1) := by decide +kernel
theorem dX9_readsEntry_40 : decode cX9_readsEntry 40 = .ok (.invokevirtual 105, 3) := by decide +kernel
theorem dX9_readsEntry_43 : decode cX9_readsEntry 43 = .ok (.ifCond .eq 15, 3) := by decide +kernel
theorem dX9_readsEntry_46 : decode cX9_readsEntry 46 = .ok (.aload_n 0, 1) := by decide +kernel
theorem dX9_readsEntry_47 : decode cX9_readsEntry 47 = .ok (.iload_n 2, 1) := by decide +kernel
theorem dX9_readsEntry_48 : decode cX9_readsEntry 48 = .ok (.invokevirtual 134, 3) := by decide +kernel
theorem dX9_readsEntry_51 : decode cX9_readsEntry 51 = .ok (.ifCond .eq 7, 3) := by decide +kernel
theorem dX9_readsEntry_54 : decode cX9_readsEntry 54 = .ok (.iconst 1, 1) := by decide +kernel
theorem dX9_readsEntry_55 : decode cX9_readsEntry 55 = .ok (.goto 4, 3) := by decide +kernel
theorem dX9_readsEntry_58 : decode cX9_readsEntry 58 = .ok (.iconst 0, 1) := by decide +kernel
theorem dX9_readsEntry_59 : decode cX9_readsEntry 59 = .ok (.invokevirtual 130, 3) := by decide +kernel
theorem dX9_readsEntry_62 : decode cX9_readsEntry 62 = .ok (.istore_n 3, 1) := by decide +kernel
theorem dX9_readsEntry_63 : decode cX9_readsEntry 63 = .ok (.aload_n 0, 1) := by decide +kernel
theorem dX9_readsEntry_64 : decode cX9_readsEntry 64 = .ok (.invokevirtual 105, 3) := by decide +kernel
theorem dX9_readsEntry_67 : decode cX9_readsEntry 67 = .ok (.ifCond .eq 17, 3) := by decide +kernel
theorem dX9_readsEntry_70 : decode cX9_readsEntry 70 = .ok (.aload_n 0, 1) := by decide +kernel
theorem dX9_readsEntry_71 : decode cX9_readsEntry 71 = .ok (.aload_n 0, 1) := by decide +kernel
theorem dX9_readsEntry_72 : decode cX9_readsEntry 72 = .ok (.getfield 13, 3) := by decide +kernel
theorem dX9_readsEntry_75 : decode cX9_readsEntry 75 = .ok (.aload_n 0, 1) := by decide +kernel
theorem dX9_readsEntry_76 : decode cX9_readsEntry 76 = .ok (.getfield 112, 3) := by decide +kernel
theorem dX9_readsEntry_79 : decode cX9_readsEntry 79 = .ok (.iload_n 2, 1) := by decide +kernel
theorem dX9_readsEntry_80 : decode cX9_readsEntry 80 = .ok (.iload_n 3, 1) := by decide +kernel
theorem dX9_readsEntry_81 : decode cX9_readsEntry 81 = .ok (.invokevirtual 138, 3) := by decide +kernel
theorem dX9_readsEntry_84 : decode cX9_readsEntry 84 = .ok (.return_, 1) := by decide +kernel
set_option maxRecDepth 20000 in
theorem ggX9_store_X9_begins : GoodIn wsX9_store wsX9_begins := goodIn_r _ [10, 11, 12, 83, 84, 85, 86, 87, 88, 89, 90, 91, 92, 93, 94, 95, 96, 97, 98, 99, 100, 101, 102, 103, 104, 105, 106, 107, 108, 109, 110, 111, 112, 113, 114, 115, 116, 117, 118] (by decide +kernel) (by decide +kernel)
set_option maxRecDepth 20000 in
theorem gX9_store_X9_begins : GoodIn wsX9_store (wsV RX9 69 RX9 yX9_begins wsX9_begins) := goodIn_app (goodIn_of _ (by decide +kernel)) ggX9_store_X9_begins
set_option maxRecDepth 20000 in
theorem ggX9_store_X9_advances : GoodIn wsX9_store wsX9_advances := goodIn_r _ [16, 3, 17, 4, 5, 18, 19, 20, 9, 21, 22, 23, 24, 25, 26, 83, 84, 85, 86, 87, 88, 89, 90, 91, 92, 93, 94, 95, 96, 97, 98, 99, 100, 101, 102, 103, 104, 105, 106, 107, 108, 109, 110, 111, 112, 113, 114, 115, 116, 117, 118] (by decide +kernel) (by decide +kernel)
set_option maxRecDepth 20000 in
theorem gX9_store_X9_advances : GoodIn wsX9_store (wsV RX9 109 RX9 yX9_advances wsX9_advances) := goodIn_app (goodIn_of _ (by decide +kernel)) ggX9_store_X9_advances
set_option maxRecDepth 20000 in
theorem ggX9_store_X9_isWell : GoodIn wsX9_store wsX9_isWell := goodIn_r _ [30, 2, 83, 84, 85, 86, 87, 88, 89, 90, 91, 92, 93, 94, 95, 96, 97, 98, 99, 100, 101, 102, 103, 104, 105, 106, 107, 108, 109, 110, 111, 112, 113, 114, 115, 116, 117, 118] (by decide +kernel) (by decide +kernel)
set_option maxRecDepth 20000 in
theorem gX9_store_X9_isWell : GoodIn wsX9_store (wsV RX9 105 RX9 yX9_isWell wsX9_isWell) := goodIn_app (goodIn_of _ (by decide +kernel)) ggX9_store_X9_isWell
set_option maxRecDepth 20000 in
theorem ggX9_store_X9_takes : GoodIn wsX9_store wsX9_takes := goodIn_r _ [34, 17, 2, 5, 27, 28, 29, 9, 30, 13, 14, 15, 16, 3, 4, 18, 19, 20, 21, 22, 23, 24, 25, 26, 83, 84, 85, 86, 87, 88, 89, 90, 91, 92, 93, 94, 95, 96, 97, 98, 99, 100, 101, 102, 103, 104, 105, 106, 107, 108, 109, 110, 111, 112, 113, 114, 115, 116, 117, 118] (by decide +kernel) (by decide +kernel)
set_option maxRecDepth 20000 in
theorem gX9_store_X9_takes : GoodIn wsX9_store (wsV RX9 130 RX9 yX9_takes wsX9_takes) := goodIn_app (goodIn_of _ (by decide +kernel)) ggX9_store_X9_takes
set_option maxRecDepth 20000 in
theorem ggX9_store_X9_readsEntry : GoodIn wsX9_store wsX9_readsEntry := goodIn_r _ [38, 11, 12, 39, 40, 41, 9, 42, 4, 5, 24, 25, 26, 31, 32, 33, 34, 17, 2, 27, 28, 29, 30, 13, 14, 15, 16, 3, 18, 19, 20, 21, 22, 23, 43, 44, 45, 46, 47, 48, 49, 50, 51, 52, 53, 54, 55, 56, 57, 58, 59, 60, 61, 62, 63, 64, 65, 66, 67, 68, 69, 83, 84, 85, 86, 87, 88, 89, 90, 91, 92, 93, 94, 95, 96, 97, 98, 99, 100, 101, 102, 103, 104, 105, 106, 107, 108, 109, 110, 111, 112, 113, 114, 115, 116, 117, 118] (by decide +kernel) (by decide +kernel)
set_option maxRecDepth 20000 in
theorem gX9_store_X9_readsEntry : GoodIn wsX9_store (wsV RX9 141 RX9 yX9_readsEntry wsX9_readsEntry) := goodIn_app (goodIn_of _ (by decide +kernel)) ggX9_store_X9_readsEntry
set_option maxRecDepth 20000 in
theorem ggX9_store_X9_settles : GoodIn wsX9_store wsX9_settles := goodIn_r _ [73, 11, 74, 12, 75, 22, 76, 77, 78, 79, 80, 81, 9, 82, 83, 84, 85, 86, 87, 88, 89, 90, 91, 92, 93, 94, 95, 96, 97, 98, 99, 100, 101, 102, 103, 104, 105, 106, 107, 108, 109, 110, 111, 112, 113, 114, 115, 116, 117, 118] (by decide +kernel) (by decide +kernel)
set_option maxRecDepth 20000 in
theorem gX9_store_X9_settles : GoodIn wsX9_store (wsV RX9 72 RX9 yX9_settles wsX9_settles) := goodIn_app (goodIn_of _ (by decide +kernel)) ggX9_store_X9_settles
theorem dX9_store_0 : decode cX9_store 0 = .ok (.aload_n 0, 1) := by decide +kernel
theorem dX9_store_1 : decode cX9_store 1 = .ok (.iconst 0, 1) := by decide +kernel
theorem dX9_store_2 : decode cX9_store 2 = .ok (.putfield 75, 3) := by decide +kernel
theorem dX9_store_5 : decode cX9_store 5 = .ok (.aload_n 0, 1) := by decide +kernel
theorem dX9_store_6 : decode cX9_store 6 = .ok (.iconst (-1), 1) := by decide +kernel
theorem dX9_store_7 : decode cX9_store 7 = .ok (.putfield 102, 3) := by decide +kernel
theorem dX9_store_10 : decode cX9_store 10 = .ok (.aload_n 0, 1) := by decide +kernel
theorem dX9_store_11 : decode cX9_store 11 = .ok (.iconst 0, 1) := by decide +kernel
theorem dX9_store_12 : decode cX9_store 12 = .ok (.putfield 86, 3) := by decide +kernel
theorem dX9_store_15 : decode cX9_store 15 = .ok (.aload_n 0, 1) := by decide +kernel
theorem dX9_store_16 : decode cX9_store 16 = .ok (.invokevirtual 69, 3) := by decide +kernel
theorem dX9_store_19 : decode cX9_store 19 = .ok (.iconst 0, 1) := by decide +kernel
theorem dX9_store_20 : decode cX9_store 20 = .ok (.istore_n 1, 1) := by decide +kernel
theorem dX9_store_21 : decode cX9_store 21 = .ok (.aload_n 0, 1) := by decide +kernel
theorem dX9_store_22 : decode cX9_store 22 = .ok (.invokevirtual 109, 3) := by decide +kernel
theorem dX9_store_25 : decode cX9_store 25 = .ok (.aload_n 0, 1) := by decide +kernel
theorem dX9_store_26 : decode cX9_store 26 = .ok (.invokevirtual 105, 3) := by decide +kernel
theorem dX9_store_29 : decode cX9_store 29 = .ok (.ifCond .eq 77, 3) := by decide +kernel
theorem dX9_store_32 : decode cX9_store 32 = .ok (.aload_n 0, 1) := by decide +kernel
theorem dX9_store_33 : decode cX9_store 33 = .ok (.getfield 96, 3) := by decide +kernel
theorem dX9_store_36 : decode cX9_store 36 = .ok (.ifCond .eq 70, 3) := by decide +kernel
theorem dX9_store_39 : decode cX9_store 39 = .ok (.aload_n 0, 1) := by decide +kernel
theorem dX9_store_40 : decode cX9_store 40 = .ok (.aload_n 0, 1) := by decide +kernel
theorem dX9_store_41 : decode cX9_store 41 = .ok (.getfield 96, 3) := by decide +kernel
theorem dX9_store_44 : decode cX9_store 44 = .ok (.iconst 1, 1) := by decide +kernel
theorem dX9_store_45 : decode cX9_store 45 = .ok (.if_icmp .ne 20, 3) := by decide +kernel
theorem dX9_store_48 : decode cX9_store 48 = .ok (.aload_n 0, 1) := by decide +kernel
theorem dX9_store_49 : decode cX9_store 49 = .ok (.getfield 99, 3) := by decide +kernel
theorem dX9_store_52 : decode cX9_store 52 = .ok (.bipush 110, 2) := by decide +kernel
theorem dX9_store_54 : decode cX9_store 54 = .ok (.if_icmp .ne 7, 3) := by decide +kernel
theorem dX9_store_57 : decode cX9_store 57 = .ok (.iload_n 1, 1) := by decide +kernel
theorem dX9_store_58 : decode cX9_store 58 = .ok (.ifCond .ne 7, 3) := by decide +kernel
theorem dX9_store_61 : decode cX9_store 61 = .ok (.iconst 1, 1) := by decide +kernel
theorem dX9_store_62 : decode cX9_store 62 = .ok (.goto 4, 3) := by decide +kernel
theorem dX9_store_65 : decode cX9_store 65 = .ok (.iconst 0, 1) := by decide +kernel
theorem dX9_store_66 : decode cX9_store 66 = .ok (.invokevirtual 130, 3) := by decide +kernel
theorem dX9_store_69 : decode cX9_store 69 = .ok (.istore_n 2, 1) := by decide +kernel
theorem dX9_store_70 : decode cX9_store 70 = .ok (.aload_n 0, 1) := by decide +kernel
theorem dX9_store_71 : decode cX9_store 71 = .ok (.invokevirtual 105, 3) := by decide +kernel
theorem dX9_store_74 : decode cX9_store 74 = .ok (.ifCond .eq 8, 3) := by decide +kernel
theorem dX9_store_77 : decode cX9_store 77 = .ok (.aload_n 0, 1) := by decide +kernel
theorem dX9_store_78 : decode cX9_store 78 = .ok (.iload_n 2, 1) := by decide +kernel
theorem dX9_store_79 : decode cX9_store 79 = .ok (.invokevirtual 141, 3) := by decide +kernel
theorem dX9_store_82 : decode cX9_store 82 = .ok (.aload_n 0, 1) := by decide +kernel
theorem dX9_store_83 : decode cX9_store 83 = .ok (.aload_n 0, 1) := by decide +kernel
theorem dX9_store_84 : decode cX9_store 84 = .ok (.getfield 96, 3) := by decide +kernel
theorem dX9_store_87 : decode cX9_store 87 = .ok (.iconst 3, 1) := by decide +kernel
theorem dX9_store_88 : decode cX9_store 88 = .ok (.if_icmp .ne 7, 3) := by decide +kernel
theorem dX9_store_91 : decode cX9_store 91 = .ok (.iconst 1, 1) := by decide +kernel
theorem dX9_store_92 : decode cX9_store 92 = .ok (.goto 4, 3) := by decide +kernel
theorem dX9_store_95 : decode cX9_store 95 = .ok (.iconst 0, 1) := by decide +kernel
theorem dX9_store_96 : decode cX9_store 96 = .ok (.invokevirtual 130, 3) := by decide +kernel
theorem dX9_store_99 : decode cX9_store 99 = .ok (.pop, 1) := by decide +kernel
theorem dX9_store_100 : decode cX9_store 100 = .ok (.iinc 1 1, 3) := by decide +kernel
theorem dX9_store_103 : decode cX9_store 103 = .ok (.goto (-78), 3) := by decide +kernel
theorem dX9_store_106 : decode cX9_store 106 = .ok (.aload_n 0, 1) := by decide +kernel
theorem dX9_store_107 : decode cX9_store 107 = .ok (.invokevirtual 105, 3) := by decide +kernel
theorem dX9_store_110 : decode cX9_store 110 = .ok (.ifCond .ne 11, 3) := by decide +kernel
theorem dX9_store_113 : decode cX9_store 113 = .ok (.bipush (-10), 2) := by decide +kernel
theorem dX9_store_115 : decode cX9_store 115 = .ok (.aload_n 0, 1) := by decide +kernel
theorem dX9_store_116 : decode cX9_store 116 = .ok (.getfield 102, 3) := by decide +kernel
theorem dX9_store_119 : decode cX9_store 119 = .ok (.isub, 1) := by decide +kernel
theorem dX9_store_120 : decode cX9_store 120 = .ok (.ireturn, 1) := by decide +kernel
theorem dX9_store_121 : decode cX9_store 121 = .ok (.aload_n 0, 1) := by decide +kernel
theorem dX9_store_122 : decode cX9_store 122 = .ok (.invokevirtual 72, 3) := by decide +kernel
theorem dX9_store_125 : decode cX9_store 125 = .ok (.iload_n 1, 1) := by decide +kernel
theorem dX9_store_126 : decode cX9_store 126 = .ok (.ireturn, 1) := by decide +kernel
set_option maxRecDepth 20000 in
theorem ggX9_settles_X9_copies : GoodIn wsX9_settles wsX9_copies := goodIn_r _ [13] (by decide +kernel) (by decide +kernel)
set_option maxRecDepth 20000 in
theorem gX9_settles_X9_copies : GoodIn wsX9_settles (va_wsS RX9 148 yX9_copies wsX9_copies) := goodIn_app (goodIn_of _ (by decide +kernel)) ggX9_settles_X9_copies
theorem dX9_settles_0 : decode cX9_settles 0 = .ok (.aload_n 0, 1) := by decide +kernel
theorem dX9_settles_1 : decode cX9_settles 1 = .ok (.aload_n 0, 1) := by decide +kernel
theorem dX9_settles_2 : decode cX9_settles 2 = .ok (.getfield 112, 3) := by decide +kernel
theorem dX9_settles_5 : decode cX9_settles 5 = .ok (.putfield 145, 3) := by decide +kernel
theorem dX9_settles_8 : decode cX9_settles 8 = .ok (.aload_n 0, 1) := by decide +kernel
theorem dX9_settles_9 : decode cX9_settles 9 = .ok (.getfield 13, 3) := by decide +kernel
theorem dX9_settles_12 : decode cX9_settles 12 = .ok (.aload_n 0, 1) := by decide +kernel
theorem dX9_settles_13 : decode cX9_settles 13 = .ok (.getfield 16, 3) := by decide +kernel
theorem dX9_settles_16 : decode cX9_settles 16 = .ok (.invokestatic 148, 3) := by decide +kernel
theorem dX9_settles_19 : decode cX9_settles 19 = .ok (.aload_n 0, 1) := by decide +kernel
theorem dX9_settles_20 : decode cX9_settles 20 = .ok (.iconst 0, 1) := by decide +kernel
theorem dX9_settles_21 : decode cX9_settles 21 = .ok (.putfield 83, 3) := by decide +kernel
theorem dX9_settles_24 : decode cX9_settles 24 = .ok (.aload_n 0, 1) := by decide +kernel
theorem dX9_settles_25 : decode cX9_settles 25 = .ok (.iconst 0, 1) := by decide +kernel
theorem dX9_settles_26 : decode cX9_settles 26 = .ok (.putfield 152, 3) := by decide +kernel
theorem dX9_settles_29 : decode cX9_settles 29 = .ok (.aload_n 0, 1) := by decide +kernel
theorem dX9_settles_30 : decode cX9_settles 30 = .ok (.iconst 0, 1) := by decide +kernel
theorem dX9_settles_31 : decode cX9_settles 31 = .ok (.putfield 155, 3) := by decide +kernel
theorem dX9_settles_34 : decode cX9_settles 34 = .ok (.aload_n 0, 1) := by decide +kernel
theorem dX9_settles_35 : decode cX9_settles 35 = .ok (.iconst 0, 1) := by decide +kernel
theorem dX9_settles_36 : decode cX9_settles 36 = .ok (.putfield 158, 3) := by decide +kernel
theorem dX9_settles_39 : decode cX9_settles 39 = .ok (.aload_n 0, 1) := by decide +kernel
theorem dX9_settles_40 : decode cX9_settles 40 = .ok (.getfield 28, 3) := by decide +kernel
theorem dX9_settles_43 : decode cX9_settles 43 = .ok (.iconst 0, 1) := by decide +kernel
theorem dX9_settles_44 : decode cX9_settles 44 = .ok (.iconst 0, 1) := by decide +kernel
theorem dX9_settles_45 : decode cX9_settles 45 = .ok (.bastore, 1) := by decide +kernel
theorem dX9_settles_46 : decode cX9_settles 46 = .ok (.aload_n 0, 1) := by decide +kernel
theorem dX9_settles_47 : decode cX9_settles 47 = .ok (.getfield 28, 3) := by decide +kernel
theorem dX9_settles_50 : decode cX9_settles 50 = .ok (.iconst 1, 1) := by decide +kernel
theorem dX9_settles_51 : decode cX9_settles 51 = .ok (.iconst 0, 1) := by decide +kernel
theorem dX9_settles_52 : decode cX9_settles 52 = .ok (.bastore, 1) := by decide +kernel
theorem dX9_settles_53 : decode cX9_settles 53 = .ok (.return_, 1) := by decide +kernel
theorem dX9_copies_0 : decode cX9_copies 0 = .ok (.iconst 0, 1) := by decide +kernel
theorem dX9_copies_1 : decode cX9_copies 1 = .ok (.istore_n 2, 1) := by decide +kernel
theorem dX9_copies_2 : decode cX9_copies 2 = .ok (.iload_n 2, 1) := by decide +kernel
theorem dX9_copies_3 : decode cX9_copies 3 = .ok (.bipush 24, 2) := by decide +kernel
theorem dX9_copies_5 : decode cX9_copies 5 = .ok (.if_icmp .ge 15, 3) := by decide +kernel
theorem dX9_copies_8 : decode cX9_copies 8 = .ok (.aload_n 1, 1) := by decide +kernel
theorem dX9_copies_9 : decode cX9_copies 9 = .ok (.iload_n 2, 1) := by decide +kernel
theorem dX9_copies_10 : decode cX9_copies 10 = .ok (.aload_n 0, 1) := by decide +kernel
theorem dX9_copies_11 : decode cX9_copies 11 = .ok (.iload_n 2, 1) := by decide +kernel
theorem dX9_copies_12 : decode cX9_copies 12 = .ok (.iaload, 1) := by decide +kernel
theorem dX9_copies_13 : decode cX9_copies 13 = .ok (.iastore, 1) := by decide +kernel
theorem dX9_copies_14 : decode cX9_copies 14 = .ok (.iinc 2 1, 3) := by decide +kernel
theorem dX9_copies_17 : decode cX9_copies 17 = .ok (.goto (-15), 3) := by decide +kernel
theorem dX9_copies_20 : decode cX9_copies 20 = .ok (.return_, 1) := by decide +kernel
set_option maxRecDepth 20000 in
theorem ggX9_isItem_X9_in : GoodIn wsX9_isItem wsX9_in := goodIn_r _ [5] (by decide +kernel) (by decide +kernel)
set_option maxRecDepth 20000 in
theorem gX9_isItem_X9_in : GoodIn wsX9_isItem (va_wsS RX9 79 yX9_in wsX9_in) := goodIn_app (goodIn_of _ (by decide +kernel)) ggX9_isItem_X9_in
theorem dX9_isItem_0 : decode cX9_isItem 0 = .ok (.iload_n 1, 1) := by decide +kernel
theorem dX9_isItem_1 : decode cX9_isItem 1 = .ok (.iconst 0, 1) := by decide +kernel
theorem dX9_isItem_2 : decode cX9_isItem 2 = .ok (.aload_n 0, 1) := by decide +kernel
theorem dX9_isItem_3 : decode cX9_isItem 3 = .ok (.getfield 145, 3) := by decide +kernel
theorem dX9_isItem_6 : decode cX9_isItem 6 = .ok (.iconst 1, 1) := by decide +kernel
theorem dX9_isItem_7 : decode cX9_isItem 7 = .ok (.isub, 1) := by decide +kernel
theorem dX9_isItem_8 : decode cX9_isItem 8 = .ok (.invokestatic 79, 3) := by decide +kernel
theorem dX9_isItem_11 : decode cX9_isItem 11 = .ok (.ireturn, 1) := by decide +kernel
set_option maxRecDepth 20000 in
theorem ggX9_isTwo_X9_isItem : GoodIn wsX9_isTwo wsX9_isItem := goodIn_r _ [5, 6, 7, 8, 4, 9, 10, 11, 12, 13, 14, 15, 16, 17, 18, 19, 20, 21, 22, 23, 24, 25, 26, 27, 28, 29, 30, 31, 32, 33, 34, 35, 36, 37, 38, 39, 40, 41, 42, 43, 44, 45] (by decide +kernel) (by decide +kernel)
set_option maxRecDepth 20000 in
theorem gX9_isTwo_X9_isItem : GoodIn wsX9_isTwo (wsV RX9 161 RX9 yX9_isItem wsX9_isItem) := goodIn_app (goodIn_of _ (by decide +kernel)) ggX9_isTwo_X9_isItem
theorem dX9_isTwo_0 : decode cX9_isTwo 0 = .ok (.aload_n 0, 1) := by decide +kernel
theorem dX9_isTwo_1 : decode cX9_isTwo 1 = .ok (.iload_n 1, 1) := by decide +kernel
theorem dX9_isTwo_2 : decode cX9_isTwo 2 = .ok (.invokevirtual 161, 3) := by decide +kernel
theorem dX9_isTwo_5 : decode cX9_isTwo 5 = .ok (.ifCond .eq 20, 3) := by decide +kernel
theorem dX9_isTwo_8 : decode cX9_isTwo 8 = .ok (.aload_n 0, 1) := by decide +kernel
theorem dX9_isTwo_9 : decode cX9_isTwo 9 = .ok (.iload_n 2, 1) := by decide +kernel
theorem dX9_isTwo_10 : decode cX9_isTwo 10 = .ok (.invokevirtual 161, 3) := by decide +kernel
theorem dX9_isTwo_13 : decode cX9_isTwo 13 = .ok (.ifCond .eq 12, 3) := by decide +kernel
theorem dX9_isTwo_16 : decode cX9_isTwo 16 = .ok (.iload_n 1, 1) := by decide +kernel
theorem dX9_isTwo_17 : decode cX9_isTwo 17 = .ok (.iload_n 2, 1) := by decide +kernel
theorem dX9_isTwo_18 : decode cX9_isTwo 18 = .ok (.if_icmp .eq 7, 3) := by decide +kernel
theorem dX9_isTwo_21 : decode cX9_isTwo 21 = .ok (.iconst 1, 1) := by decide +kernel
theorem dX9_isTwo_22 : decode cX9_isTwo 22 = .ok (.goto 4, 3) := by decide +kernel
theorem dX9_isTwo_25 : decode cX9_isTwo 25 = .ok (.iconst 0, 1) := by decide +kernel
theorem dX9_isTwo_26 : decode cX9_isTwo 26 = .ok (.ireturn, 1) := by decide +kernel
set_option maxRecDepth 20000 in
theorem ggX9_looks_X9_in : GoodIn wsX9_looks wsX9_in := goodIn_r _ [7] (by decide +kernel) (by decide +kernel)
set_option maxRecDepth 20000 in
theorem gX9_looks_X9_in : GoodIn wsX9_looks (va_wsS RX9 79 yX9_in wsX9_in) := goodIn_app (goodIn_of _ (by decide +kernel)) ggX9_looks_X9_in
set_option maxRecDepth 20000 in
theorem ggX9_looks_X9_has : GoodIn wsX9_looks wsX9_has := goodIn_r _ [10] (by decide +kernel) (by decide +kernel)
set_option maxRecDepth 20000 in
theorem gX9_looks_X9_has : GoodIn wsX9_looks (va_wsS RX9 119 yX9_has wsX9_has) := goodIn_app (goodIn_of _ (by decide +kernel)) ggX9_looks_X9_has
theorem dX9_looks_0 : decode cX9_looks 0 = .ok (.aload_n 0, 1) := by decide +kernel
theorem dX9_looks_1 : decode cX9_looks 1 = .ok (.iconst 0, 1) := by decide +kernel
theorem dX9_looks_2 : decode cX9_looks 2 = .ok (.putfield 164, 3) := by decide +kernel
theorem dX9_looks_5 : decode cX9_looks 5 = .ok (.aload_n 0, 1) := by decide +kernel
theorem dX9_looks_6 : decode cX9_looks 6 = .ok (.iconst 0, 1) := by decide +kernel
theorem dX9_looks_7 : decode cX9_looks 7 = .ok (.putfield 167, 3) := by decide +kernel
theorem dX9_looks_10 : decode cX9_looks 10 = .ok (.aload_n 0, 1) := by decide +kernel
theorem dX9_looks_11 : decode cX9_looks 11 = .ok (.iconst 0, 1) := by decide +kernel
theorem dX9_looks_12 : decode cX9_looks 12 = .ok (.putfield 126, 3) := by decide +kernel
theorem dX9_looks_15 : decode cX9_looks 15 = .ok (.aload_n 1, 1) := by decide +kernel
theorem dX9_looks_16 : decode cX9_looks 16 = .ok (.bipush 12, 2) := by decide +kernel
theorem dX9_looks_18 : decode cX9_looks 18 = .ok (.iload_n 3, 1) := by decide +kernel
theorem dX9_looks_19 : decode cX9_looks 19 = .ok (.iadd, 1) := by decide +kernel
theorem dX9_looks_20 : decode cX9_looks 20 = .ok (.iaload, 1) := by decide +kernel
theorem dX9_looks_21 : decode cX9_looks 21 = .ok (.aload_n 1, 1) := by decide +kernel
theorem dX9_looks_22 : decode cX9_looks 22 = .ok (.bipush 12, 2) := by decide +kernel
theorem dX9_looks_24 : decode cX9_looks 24 = .ok (.iload 4, 2) := by decide +kernel
theorem dX9_looks_26 : decode cX9_looks 26 = .ok (.iadd, 1) := by decide +kernel
theorem dX9_looks_27 : decode cX9_looks 27 = .ok (.iaload, 1) := by decide +kernel
theorem dX9_looks_28 : decode cX9_looks 28 = .ok (.if_icmp .ge 4, 3) := by decide +kernel
theorem dX9_looks_31 : decode cX9_looks 31 = .ok (.return_, 1) := by decide +kernel
theorem dX9_looks_32 : decode cX9_looks 32 = .ok (.iconst 0, 1) := by decide +kernel
theorem dX9_looks_33 : decode cX9_looks 33 = .ok (.istore 5, 2) := by decide +kernel
theorem dX9_looks_35 : decode cX9_looks 35 = .ok (.iconst 0, 1) := by decide +kernel
theorem dX9_looks_36 : decode cX9_looks 36 = .ok (.istore 6, 2) := by decide +kernel
theorem dX9_looks_38 : decode cX9_looks 38 = .ok (.iload 6, 2) := by decide +kernel
theorem dX9_looks_40 : decode cX9_looks 40 = .ok (.iload_n 2, 1) := by decide +kernel
theorem dX9_looks_41 : decode cX9_looks 41 = .ok (.if_icmp .ge 48, 3) := by decide +kernel
theorem dX9_looks_44 : decode cX9_looks 44 = .ok (.iload 5, 2) := by decide +kernel
theorem dX9_looks_46 : decode cX9_looks 46 = .ok (.aload_n 1, 1) := by decide +kernel
theorem dX9_looks_47 : decode cX9_looks 47 = .ok (.bipush 12, 2) := by decide +kernel
theorem dX9_looks_49 : decode cX9_looks 49 = .ok (.iload 6, 2) := by decide +kernel
theorem dX9_looks_51 : decode cX9_looks 51 = .ok (.iadd, 1) := by decide +kernel
theorem dX9_looks_52 : decode cX9_looks 52 = .ok (.iaload, 1) := by decide +kernel
theorem dX9_looks_53 : decode cX9_looks 53 = .ok (.aload_n 1, 1) := by decide +kernel
theorem dX9_looks_54 : decode cX9_looks 54 = .ok (.bipush 12, 2) := by decide +kernel
theorem dX9_looks_56 : decode cX9_looks 56 = .ok (.iload 4, 2) := by decide +kernel
theorem dX9_looks_58 : decode cX9_looks 58 = .ok (.iadd, 1) := by decide +kernel
theorem dX9_looks_59 : decode cX9_looks 59 = .ok (.iaload, 1) := by decide +kernel
theorem dX9_looks_60 : decode cX9_looks 60 = .ok (.aload_n 1, 1) := by decide +kernel
theorem dX9_looks_61 : decode cX9_looks 61 = .ok (.bipush 12, 2) := by decide +kernel
theorem dX9_looks_63 : decode cX9_looks 63 = .ok (.iload_n 3, 1) := by decide +kernel
theorem dX9_looks_64 : decode cX9_looks 64 = .ok (.iadd, 1) := by decide +kernel
theorem dX9_looks_65 : decode cX9_looks 65 = .ok (.iaload, 1) := by decide +kernel
theorem dX9_looks_66 : decode cX9_looks 66 = .ok (.invokestatic 79, 3) := by decide +kernel
theorem dX9_looks_69 : decode cX9_looks 69 = .ok (.ifCond .eq 10, 3) := by decide +kernel
theorem dX9_looks_72 : decode cX9_looks 72 = .ok (.iconst 1, 1) := by decide +kernel
theorem dX9_looks_73 : decode cX9_looks 73 = .ok (.iload 6, 2) := by decide +kernel
theorem dX9_looks_75 : decode cX9_looks 75 = .ok (.ishl, 1) := by decide +kernel
theorem dX9_looks_76 : decode cX9_looks 76 = .ok (.goto 4, 3) := by decide +kernel
theorem dX9_looks_79 : decode cX9_looks 79 = .ok (.iconst 0, 1) := by decide +kernel
theorem dX9_looks_80 : decode cX9_looks 80 = .ok (.ior, 1) := by decide +kernel
theorem dX9_looks_81 : decode cX9_looks 81 = .ok (.istore 5, 2) := by decide +kernel
theorem dX9_looks_83 : decode cX9_looks 83 = .ok (.iinc 6 1, 3) := by decide +kernel
theorem dX9_looks_86 : decode cX9_looks 86 = .ok (.goto (-48), 3) := by decide +kernel
theorem dX9_looks_89 : decode cX9_looks 89 = .ok (.aload_n 0, 1) := by decide +kernel
theorem dX9_looks_90 : decode cX9_looks 90 = .ok (.iconst 1, 1) := by decide +kernel
theorem dX9_looks_91 : decode cX9_looks 91 = .ok (.iload 4, 2) := by decide +kernel
theorem dX9_looks_93 : decode cX9_looks 93 = .ok (.ishl, 1) := by decide +kernel
theorem dX9_looks_94 : decode cX9_looks 94 = .ok (.putfield 167, 3) := by decide +kernel
theorem dX9_looks_97 : decode cX9_looks 97 = .ok (.aload_n 0, 1) := by decide +kernel
theorem dX9_looks_98 : decode cX9_looks 98 = .ok (.iconst 1, 1) := by decide +kernel
theorem dX9_looks_99 : decode cX9_looks 99 = .ok (.iload_n 3, 1) := by decide +kernel
theorem dX9_looks_100 : decode cX9_looks 100 = .ok (.ishl, 1) := by decide +kernel
theorem dX9_looks_101 : decode cX9_looks 101 = .ok (.putfield 164, 3) := by decide +kernel
theorem dX9_looks_104 : decode cX9_looks 104 = .ok (.iconst 0, 1) := by decide +kernel
theorem dX9_looks_105 : decode cX9_looks 105 = .ok (.istore 6, 2) := by decide +kernel
theorem dX9_looks_107 : decode cX9_looks 107 = .ok (.iload 6, 2) := by decide +kernel
theorem dX9_looks_109 : decode cX9_looks 109 = .ok (.iload_n 2, 1) := by decide +kernel
theorem dX9_looks_110 : decode cX9_looks 110 = .ok (.if_icmp .ge 99, 3) := by decide +kernel
theorem dX9_looks_113 : decode cX9_looks 113 = .ok (.iconst 0, 1) := by decide +kernel
theorem dX9_looks_114 : decode cX9_looks 114 = .ok (.istore 7, 2) := by decide +kernel
theorem dX9_looks_116 : decode cX9_looks 116 = .ok (.iload 7, 2) := by decide +kernel
theorem dX9_looks_118 : decode cX9_looks 118 = .ok (.iload_n 2, 1) := by decide +kernel
theorem dX9_looks_119 : decode cX9_looks 119 = .ok (.if_icmp .ge 84, 3) := by decide +kernel
theorem dX9_looks_122 : decode cX9_looks 122 = .ok (.aload_n 0, 1) := by decide +kernel
theorem dX9_looks_123 : decode cX9_looks 123 = .ok (.dup, 1) := by decide +kernel
theorem dX9_looks_124 : decode cX9_looks 124 = .ok (.getfield 167, 3) := by decide +kernel
theorem dX9_looks_127 : decode cX9_looks 127 = .ok (.aload_n 0, 1) := by decide +kernel
theorem dX9_looks_128 : decode cX9_looks 128 = .ok (.getfield 167, 3) := by decide +kernel
theorem dX9_looks_131 : decode cX9_looks 131 = .ok (.iload 7, 2) := by decide +kernel
theorem dX9_looks_133 : decode cX9_looks 133 = .ok (.invokestatic 119, 3) := by decide +kernel
theorem dX9_looks_136 : decode cX9_looks 136 = .ok (.ifCond .eq 15, 3) := by decide +kernel
theorem dX9_looks_139 : decode cX9_looks 139 = .ok (.aload_n 1, 1) := by decide +kernel
theorem dX9_looks_140 : decode cX9_looks 140 = .ok (.iconst 0, 1) := by decide +kernel
theorem dX9_looks_141 : decode cX9_looks 141 = .ok (.iload 7, 2) := by decide +kernel
theorem dX9_looks_143 : decode cX9_looks 143 = .ok (.iadd, 1) := by decide +kernel
theorem dX9_looks_144 : decode cX9_looks 144 = .ok (.iaload, 1) := by decide +kernel
theorem dX9_looks_145 : decode cX9_looks 145 = .ok (.iload 5, 2) := by decide +kernel
theorem dX9_looks_147 : decode cX9_looks 147 = .ok (.iand, 1) := by decide +kernel
theorem dX9_looks_148 : decode cX9_looks 148 = .ok (.goto 4, 3) := by decide +kernel
theorem dX9_looks_151 : decode cX9_looks 151 = .ok (.iconst 0, 1) := by decide +kernel
theorem dX9_looks_152 : decode cX9_looks 152 = .ok (.ior, 1) := by decide +kernel
theorem dX9_looks_153 : decode cX9_looks 153 = .ok (.putfield 167, 3) := by decide +kernel
theorem dX9_looks_156 : decode cX9_looks 156 = .ok (.aload_n 0, 1) := by decide +kernel
theorem dX9_looks_157 : decode cX9_looks 157 = .ok (.dup, 1) := by decide +kernel
theorem dX9_looks_158 : decode cX9_looks 158 = .ok (.getfield 164, 3) := by decide +kernel
theorem dX9_looks_161 : decode cX9_looks 161 = .ok (.aload_n 1, 1) := by decide +kernel
theorem dX9_looks_162 : decode cX9_looks 162 = .ok (.iconst 0, 1) := by decide +kernel
theorem dX9_looks_163 : decode cX9_looks 163 = .ok (.iload 7, 2) := by decide +kernel
theorem dX9_looks_165 : decode cX9_looks 165 = .ok (.iadd, 1) := by decide +kernel
theorem dX9_looks_166 : decode cX9_looks 166 = .ok (.iaload, 1) := by decide +kernel
theorem dX9_looks_167 : decode cX9_looks 167 = .ok (.aload_n 0, 1) := by decide +kernel
theorem dX9_looks_168 : decode cX9_looks 168 = .ok (.getfield 164, 3) := by decide +kernel
theorem dX9_looks_171 : decode cX9_looks 171 = .ok (.iand, 1) := by decide +kernel
theorem dX9_looks_172 : decode cX9_looks 172 = .ok (.ifCond .eq 20, 3) := by decide +kernel
theorem dX9_looks_175 : decode cX9_looks 175 = .ok (.iload 5, 2) := by decide +kernel
theorem dX9_looks_177 : decode cX9_looks 177 = .ok (.iload 7, 2) := by decide +kernel
theorem dX9_looks_179 : decode cX9_looks 179 = .ok (.invokestatic 119, 3) := by decide +kernel
theorem dX9_looks_182 : decode cX9_looks 182 = .ok (.ifCond .eq 10, 3) := by decide +kernel
theorem dX9_looks_185 : decode cX9_looks 185 = .ok (.iconst 1, 1) := by decide +kernel
theorem dX9_looks_186 : decode cX9_looks 186 = .ok (.iload 7, 2) := by decide +kernel
theorem dX9_looks_188 : decode cX9_looks 188 = .ok (.ishl, 1) := by decide +kernel
theorem dX9_looks_189 : decode cX9_looks 189 = .ok (.goto 4, 3) := by decide +kernel
theorem dX9_looks_192 : decode cX9_looks 192 = .ok (.iconst 0, 1) := by decide +kernel
theorem dX9_looks_193 : decode cX9_looks 193 = .ok (.ior, 1) := by decide +kernel
theorem dX9_looks_194 : decode cX9_looks 194 = .ok (.putfield 164, 3) := by decide +kernel
theorem dX9_looks_197 : decode cX9_looks 197 = .ok (.iinc 7 1, 3) := by decide +kernel
theorem dX9_looks_200 : decode cX9_looks 200 = .ok (.goto (-84), 3) := by decide +kernel
theorem dX9_looks_203 : decode cX9_looks 203 = .ok (.iinc 6 1, 3) := by decide +kernel
theorem dX9_looks_206 : decode cX9_looks 206 = .ok (.goto (-99), 3) := by decide +kernel
theorem dX9_looks_209 : decode cX9_looks 209 = .ok (.aload_n 0, 1) := by decide +kernel
theorem dX9_looks_210 : decode cX9_looks 210 = .ok (.aload_n 0, 1) := by decide +kernel
theorem dX9_looks_211 : decode cX9_looks 211 = .ok (.getfield 167, 3) := by decide +kernel
theorem dX9_looks_214 : decode cX9_looks 214 = .ok (.iload_n 3, 1) := by decide +kernel
theorem dX9_looks_215 : decode cX9_looks 215 = .ok (.invokestatic 119, 3) := by decide +kernel
theorem dX9_looks_218 : decode cX9_looks 218 = .ok (.putfield 126, 3) := by decide +kernel
theorem dX9_looks_221 : decode cX9_looks 221 = .ok (.return_, 1) := by decide +kernel
theorem dX9_itemAt_0 : decode cX9_itemAt 0 = .ok (.iconst 0, 1) := by decide +kernel
theorem dX9_itemAt_1 : decode cX9_itemAt 1 = .ok (.istore_n 3, 1) := by decide +kernel
theorem dX9_itemAt_2 : decode cX9_itemAt 2 = .ok (.aload_n 0, 1) := by decide +kernel
theorem dX9_itemAt_3 : decode cX9_itemAt 3 = .ok (.bipush 12, 2) := by decide +kernel
theorem dX9_itemAt_5 : decode cX9_itemAt 5 = .ok (.iload_n 3, 1) := by decide +kernel
theorem dX9_itemAt_6 : decode cX9_itemAt 6 = .ok (.iadd, 1) := by decide +kernel
theorem dX9_itemAt_7 : decode cX9_itemAt 7 = .ok (.iaload, 1) := by decide +kernel
theorem dX9_itemAt_8 : decode cX9_itemAt 8 = .ok (.iload_n 2, 1) := by decide +kernel
theorem dX9_itemAt_9 : decode cX9_itemAt 9 = .ok (.if_icmp .eq 9, 3) := by decide +kernel
theorem dX9_itemAt_12 : decode cX9_itemAt 12 = .ok (.iinc 3 1, 3) := by decide +kernel
theorem dX9_itemAt_15 : decode cX9_itemAt 15 = .ok (.goto (-13), 3) := by decide +kernel
theorem dX9_itemAt_18 : decode cX9_itemAt 18 = .ok (.iload_n 3, 1) := by decide +kernel
theorem dX9_itemAt_19 : decode cX9_itemAt 19 = .ok (.ireturn, 1) := by decide +kernel
set_option maxRecDepth 20000 in
theorem ggX9_moves_X9_itemAt : GoodIn wsX9_moves wsX9_itemAt := goodIn_r _ [8] (by decide +kernel) (by decide +kernel)
set_option maxRecDepth 20000 in
theorem gX9_moves_X9_itemAt : GoodIn wsX9_moves (va_wsS RX9 170 yX9_itemAt wsX9_itemAt) := goodIn_app (goodIn_of _ (by decide +kernel)) ggX9_moves_X9_itemAt
set_option maxRecDepth 20000 in
theorem ggX9_moves_X9_has : GoodIn wsX9_moves wsX9_has := goodIn_r _ [11] (by decide +kernel) (by decide +kernel)
set_option maxRecDepth 20000 in
theorem gX9_moves_X9_has : GoodIn wsX9_moves (va_wsS RX9 119 yX9_has wsX9_has) := goodIn_app (goodIn_of _ (by decide +kernel)) ggX9_moves_X9_has
theorem dX9_moves_0 : decode cX9_moves 0 = .ok (.aload_n 0, 1) := by decide +kernel
theorem dX9_moves_1 : decode cX9_moves 1 = .ok (.getfield 164, 3) := by decide +kernel
theorem dX9_moves_4 : decode cX9_moves 4 = .ok (.aload_n 0, 1) := by decide +kernel
theorem dX9_moves_5 : decode cX9_moves 5 = .ok (.getfield 167, 3) := by decide +kernel
theorem dX9_moves_8 : decode cX9_moves 8 = .ok (.ior, 1) := by decide +kernel
theorem dX9_moves_9 : decode cX9_moves 9 = .ok (.istore_n 3, 1) := by decide +kernel
theorem dX9_moves_10 : decode cX9_moves 10 = .ok (.iconst 0, 1) := by decide +kernel
theorem dX9_moves_11 : decode cX9_moves 11 = .ok (.istore 4, 2) := by decide +kernel
theorem dX9_moves_13 : decode cX9_moves 13 = .ok (.iconst 0, 1) := by decide +kernel
theorem dX9_moves_14 : decode cX9_moves 14 = .ok (.istore 5, 2) := by decide +kernel
theorem dX9_moves_16 : decode cX9_moves 16 = .ok (.iload 5, 2) := by decide +kernel
theorem dX9_moves_18 : decode cX9_moves 18 = .ok (.iconst 2, 1) := by decide +kernel
theorem dX9_moves_19 : decode cX9_moves 19 = .ok (.if_icmp .ge 69, 3) := by decide +kernel
theorem dX9_moves_22 : decode cX9_moves 22 = .ok (.iconst 0, 1) := by decide +kernel
theorem dX9_moves_23 : decode cX9_moves 23 = .ok (.istore 6, 2) := by decide +kernel
theorem dX9_moves_25 : decode cX9_moves 25 = .ok (.iload 6, 2) := by decide +kernel
theorem dX9_moves_27 : decode cX9_moves 27 = .ok (.iload_n 2, 1) := by decide +kernel
theorem dX9_moves_28 : decode cX9_moves 28 = .ok (.if_icmp .ge 54, 3) := by decide +kernel
theorem dX9_moves_31 : decode cX9_moves 31 = .ok (.aload_n 1, 1) := by decide +kernel
theorem dX9_moves_32 : decode cX9_moves 32 = .ok (.iload_n 2, 1) := by decide +kernel
theorem dX9_moves_33 : decode cX9_moves 33 = .ok (.iload 6, 2) := by decide +kernel
theorem dX9_moves_35 : decode cX9_moves 35 = .ok (.invokestatic 170, 3) := by decide +kernel
theorem dX9_moves_38 : decode cX9_moves 38 = .ok (.istore 7, 2) := by decide +kernel
theorem dX9_moves_40 : decode cX9_moves 40 = .ok (.iload 5, 2) := by decide +kernel
theorem dX9_moves_42 : decode cX9_moves 42 = .ok (.ifCond .ne 10, 3) := by decide +kernel
theorem dX9_moves_45 : decode cX9_moves 45 = .ok (.aload_n 0, 1) := by decide +kernel
theorem dX9_moves_46 : decode cX9_moves 46 = .ok (.getfield 164, 3) := by decide +kernel
theorem dX9_moves_49 : decode cX9_moves 49 = .ok (.goto 7, 3) := by decide +kernel
theorem dX9_moves_52 : decode cX9_moves 52 = .ok (.aload_n 0, 1) := by decide +kernel
theorem dX9_moves_53 : decode cX9_moves 53 = .ok (.getfield 167, 3) := by decide +kernel
theorem dX9_moves_56 : decode cX9_moves 56 = .ok (.iload 7, 2) := by decide +kernel
theorem dX9_moves_58 : decode cX9_moves 58 = .ok (.invokestatic 119, 3) := by decide +kernel
theorem dX9_moves_61 : decode cX9_moves 61 = .ok (.ifCond .eq 15, 3) := by decide +kernel
theorem dX9_moves_64 : decode cX9_moves 64 = .ok (.aload_n 0, 1) := by decide +kernel
theorem dX9_moves_65 : decode cX9_moves 65 = .ok (.getfield 60, 3) := by decide +kernel
theorem dX9_moves_68 : decode cX9_moves 68 = .ok (.iload 4, 2) := by decide +kernel
theorem dX9_moves_70 : decode cX9_moves 70 = .ok (.iload 7, 2) := by decide +kernel
theorem dX9_moves_72 : decode cX9_moves 72 = .ok (.iastore, 1) := by decide +kernel
theorem dX9_moves_73 : decode cX9_moves 73 = .ok (.iinc 4 1, 3) := by decide +kernel
theorem dX9_moves_76 : decode cX9_moves 76 = .ok (.iinc 6 1, 3) := by decide +kernel
theorem dX9_moves_79 : decode cX9_moves 79 = .ok (.goto (-54), 3) := by decide +kernel
theorem dX9_moves_82 : decode cX9_moves 82 = .ok (.iinc 5 1, 3) := by decide +kernel
theorem dX9_moves_85 : decode cX9_moves 85 = .ok (.goto (-69), 3) := by decide +kernel
theorem dX9_moves_88 : decode cX9_moves 88 = .ok (.iconst 0, 1) := by decide +kernel
theorem dX9_moves_89 : decode cX9_moves 89 = .ok (.istore 4, 2) := by decide +kernel
theorem dX9_moves_91 : decode cX9_moves 91 = .ok (.iconst 0, 1) := by decide +kernel
theorem dX9_moves_92 : decode cX9_moves 92 = .ok (.istore 5, 2) := by decide +kernel
theorem dX9_moves_94 : decode cX9_moves 94 = .ok (.iload 5, 2) := by decide +kernel
theorem dX9_moves_96 : decode cX9_moves 96 = .ok (.iload_n 2, 1) := by decide +kernel
theorem dX9_moves_97 : decode cX9_moves 97 = .ok (.if_icmp .ge 25, 3) := by decide +kernel
theorem dX9_moves_100 : decode cX9_moves 100 = .ok (.aload_n 0, 1) := by decide +kernel
theorem dX9_moves_101 : decode cX9_moves 101 = .ok (.getfield 19, 3) := by decide +kernel
theorem dX9_moves_104 : decode cX9_moves 104 = .ok (.iconst 0, 1) := by decide +kernel
theorem dX9_moves_105 : decode cX9_moves 105 = .ok (.iload 5, 2) := by decide +kernel
theorem dX9_moves_107 : decode cX9_moves 107 = .ok (.iadd, 1) := by decide +kernel
theorem dX9_moves_108 : decode cX9_moves 108 = .ok (.aload_n 1, 1) := by decide +kernel
theorem dX9_moves_109 : decode cX9_moves 109 = .ok (.iload_n 2, 1) := by decide +kernel
theorem dX9_moves_110 : decode cX9_moves 110 = .ok (.iload 5, 2) := by decide +kernel
theorem dX9_moves_112 : decode cX9_moves 112 = .ok (.invokestatic 170, 3) := by decide +kernel
theorem dX9_moves_115 : decode cX9_moves 115 = .ok (.iastore, 1) := by decide +kernel
theorem dX9_moves_116 : decode cX9_moves 116 = .ok (.iinc 5 1, 3) := by decide +kernel
theorem dX9_moves_119 : decode cX9_moves 119 = .ok (.goto (-25), 3) := by decide +kernel
theorem dX9_moves_122 : decode cX9_moves 122 = .ok (.iconst 0, 1) := by decide +kernel
theorem dX9_moves_123 : decode cX9_moves 123 = .ok (.istore 5, 2) := by decide +kernel
theorem dX9_moves_125 : decode cX9_moves 125 = .ok (.iload 5, 2) := by decide +kernel
theorem dX9_moves_127 : decode cX9_moves 127 = .ok (.iload_n 2, 1) := by decide +kernel
theorem dX9_moves_128 : decode cX9_moves 128 = .ok (.if_icmp .ge 42, 3) := by decide +kernel
theorem dX9_moves_131 : decode cX9_moves 131 = .ok (.iload_n 3, 1) := by decide +kernel
theorem dX9_moves_132 : decode cX9_moves 132 = .ok (.aload_n 0, 1) := by decide +kernel
theorem dX9_moves_133 : decode cX9_moves 133 = .ok (.getfield 19, 3) := by decide +kernel
theorem dX9_moves_136 : decode cX9_moves 136 = .ok (.iconst 0, 1) := by decide +kernel
theorem dX9_moves_137 : decode cX9_moves 137 = .ok (.iload 5, 2) := by decide +kernel
theorem dX9_moves_139 : decode cX9_moves 139 = .ok (.iadd, 1) := by decide +kernel
theorem dX9_moves_140 : decode cX9_moves 140 = .ok (.iaload, 1) := by decide +kernel
theorem dX9_moves_141 : decode cX9_moves 141 = .ok (.invokestatic 119, 3) := by decide +kernel
theorem dX9_moves_144 : decode cX9_moves 144 = .ok (.ifCond .eq 20, 3) := by decide +kernel
theorem dX9_moves_147 : decode cX9_moves 147 = .ok (.aload_n 1, 1) := by decide +kernel
theorem dX9_moves_148 : decode cX9_moves 148 = .ok (.bipush 12, 2) := by decide +kernel
theorem dX9_moves_150 : decode cX9_moves 150 = .ok (.aload_n 0, 1) := by decide +kernel
theorem dX9_moves_151 : decode cX9_moves 151 = .ok (.getfield 60, 3) := by decide +kernel
theorem dX9_moves_154 : decode cX9_moves 154 = .ok (.iload 4, 2) := by decide +kernel
theorem dX9_moves_156 : decode cX9_moves 156 = .ok (.iaload, 1) := by decide +kernel
theorem dX9_moves_157 : decode cX9_moves 157 = .ok (.iadd, 1) := by decide +kernel
theorem dX9_moves_158 : decode cX9_moves 158 = .ok (.iload 5, 2) := by decide +kernel
theorem dX9_moves_160 : decode cX9_moves 160 = .ok (.iastore, 1) := by decide +kernel
theorem dX9_moves_161 : decode cX9_moves 161 = .ok (.iinc 4 1, 3) := by decide +kernel
theorem dX9_moves_164 : decode cX9_moves 164 = .ok (.iinc 5 1, 3) := by decide +kernel
theorem dX9_moves_167 : decode cX9_moves 167 = .ok (.goto (-42), 3) := by decide +kernel
theorem dX9_moves_170 : decode cX9_moves 170 = .ok (.return_, 1) := by decide +kernel
set_option maxRecDepth 20000 in
theorem ggX9_lays_X9_looks : GoodIn wsX9_lays wsX9_looks := goodIn_r _ [6, 1, 7, 8, 9, 10, 5, 11, 12, 13, 14, 24, 25, 26, 27, 28, 29, 30, 31, 32, 33, 34, 35, 36, 37, 38, 39, 40, 41, 42, 43, 44, 45, 46, 47, 48, 49, 50, 51, 52, 53, 54, 55, 56, 57, 58, 59] (by decide +kernel) (by decide +kernel)
set_option maxRecDepth 20000 in
theorem gX9_lays_X9_looks : GoodIn wsX9_lays (wsV RX9 122 RX9 yX9_looks wsX9_looks) := goodIn_app (goodIn_of _ (by decide +kernel)) ggX9_lays_X9_looks
set_option maxRecDepth 20000 in
theorem ggX9_lays_X9_moves : GoodIn wsX9_lays wsX9_moves := goodIn_r _ [18, 1, 7, 19, 20, 21, 22, 5, 23, 12, 13, 14, 24, 25, 26, 27, 28, 29, 30, 31, 32, 33, 34, 35, 36, 37, 38, 39, 40, 41, 42, 43, 44, 45, 46, 47, 48, 49, 50, 51, 52, 53, 54, 55, 56, 57, 58, 59] (by decide +kernel) (by decide +kernel)
set_option maxRecDepth 20000 in
theorem gX9_lays_X9_moves : GoodIn wsX9_lays (wsV RX9 174 RX9 yX9_moves wsX9_moves) := goodIn_app (goodIn_of _ (by decide +kernel)) ggX9_lays_X9_moves
theorem dX9_lays_0 : decode cX9_lays 0 = .ok (.aload_n 0, 1) := by decide +kernel
theorem dX9_lays_1 : decode cX9_lays 1 = .ok (.aload_n 1, 1) := by decide +kernel
theorem dX9_lays_2 : decode cX9_lays 2 = .ok (.iload_n 2, 1) := by decide +kernel
theorem dX9_lays_3 : decode cX9_lays 3 = .ok (.iload_n 3, 1) := by decide +kernel
theorem dX9_lays_4 : decode cX9_lays 4 = .ok (.iload 4, 2) := by decide +kernel
theorem dX9_lays_6 : decode cX9_lays 6 = .ok (.invokevirtual 122, 3) := by decide +kernel
theorem dX9_lays_9 : decode cX9_lays 9 = .ok (.aload_n 0, 1) := by decide +kernel
theorem dX9_lays_10 : decode cX9_lays 10 = .ok (.getfield 164, 3) := by decide +kernel
theorem dX9_lays_13 : decode cX9_lays 13 = .ok (.ifCond .eq 9, 3) := by decide +kernel
theorem dX9_lays_16 : decode cX9_lays 16 = .ok (.aload_n 0, 1) := by decide +kernel
theorem dX9_lays_17 : decode cX9_lays 17 = .ok (.aload_n 1, 1) := by decide +kernel
theorem dX9_lays_18 : decode cX9_lays 18 = .ok (.iload_n 2, 1) := by decide +kernel
theorem dX9_lays_19 : decode cX9_lays 19 = .ok (.invokevirtual 174, 3) := by decide +kernel
theorem dX9_lays_22 : decode cX9_lays 22 = .ok (.aload_n 1, 1) := by decide +kernel
theorem dX9_lays_23 : decode cX9_lays 23 = .ok (.iconst 0, 1) := by decide +kernel
theorem dX9_lays_24 : decode cX9_lays 24 = .ok (.iload_n 3, 1) := by decide +kernel
theorem dX9_lays_25 : decode cX9_lays 25 = .ok (.iadd, 1) := by decide +kernel
theorem dX9_lays_26 : decode cX9_lays 26 = .ok (.dup2, 1) := by decide +kernel
theorem dX9_lays_27 : decode cX9_lays 27 = .ok (.iaload, 1) := by decide +kernel
theorem dX9_lays_28 : decode cX9_lays 28 = .ok (.iconst 1, 1) := by decide +kernel
theorem dX9_lays_29 : decode cX9_lays 29 = .ok (.iload 4, 2) := by decide +kernel
theorem dX9_lays_31 : decode cX9_lays 31 = .ok (.ishl, 1) := by decide +kernel
theorem dX9_lays_32 : decode cX9_lays 32 = .ok (.ior, 1) := by decide +kernel
theorem dX9_lays_33 : decode cX9_lays 33 = .ok (.iastore, 1) := by decide +kernel
theorem dX9_lays_34 : decode cX9_lays 34 = .ok (.return_, 1) := by decide +kernel
theorem dX9_moved_0 : decode cX9_moved 0 = .ok (.iconst 0, 1) := by decide +kernel
theorem dX9_moved_1 : decode cX9_moved 1 = .ok (.istore_n 3, 1) := by decide +kernel
theorem dX9_moved_2 : decode cX9_moved 2 = .ok (.iconst 0, 1) := by decide +kernel
theorem dX9_moved_3 : decode cX9_moved 3 = .ok (.istore 4, 2) := by decide +kernel
theorem dX9_moved_5 : decode cX9_moved 5 = .ok (.iload 4, 2) := by decide +kernel
theorem dX9_moved_7 : decode cX9_moved 7 = .ok (.aload_n 0, 1) := by decide +kernel
theorem dX9_moved_8 : decode cX9_moved 8 = .ok (.getfield 145, 3) := by decide +kernel
theorem dX9_moved_11 : decode cX9_moved 11 = .ok (.if_icmp .ge 37, 3) := by decide +kernel
theorem dX9_moved_14 : decode cX9_moved 14 = .ok (.iload_n 3, 1) := by decide +kernel
theorem dX9_moved_15 : decode cX9_moved 15 = .ok (.aload_n 1, 1) := by decide +kernel
theorem dX9_moved_16 : decode cX9_moved 16 = .ok (.bipush 12, 2) := by decide +kernel
theorem dX9_moved_18 : decode cX9_moved 18 = .ok (.iload 4, 2) := by decide +kernel
theorem dX9_moved_20 : decode cX9_moved 20 = .ok (.iadd, 1) := by decide +kernel
theorem dX9_moved_21 : decode cX9_moved 21 = .ok (.iaload, 1) := by decide +kernel
theorem dX9_moved_22 : decode cX9_moved 22 = .ok (.aload_n 2, 1) := by decide +kernel
theorem dX9_moved_23 : decode cX9_moved 23 = .ok (.bipush 12, 2) := by decide +kernel
theorem dX9_moved_25 : decode cX9_moved 25 = .ok (.iload 4, 2) := by decide +kernel
theorem dX9_moved_27 : decode cX9_moved 27 = .ok (.iadd, 1) := by decide +kernel
theorem dX9_moved_28 : decode cX9_moved 28 = .ok (.iaload, 1) := by decide +kernel
theorem dX9_moved_29 : decode cX9_moved 29 = .ok (.if_icmp .eq 10, 3) := by decide +kernel
theorem dX9_moved_32 : decode cX9_moved 32 = .ok (.iconst 1, 1) := by decide +kernel
theorem dX9_moved_33 : decode cX9_moved 33 = .ok (.iload 4, 2) := by decide +kernel
theorem dX9_moved_35 : decode cX9_moved 35 = .ok (.ishl, 1) := by decide +kernel
theorem dX9_moved_36 : decode cX9_moved 36 = .ok (.goto 4, 3) := by decide +kernel
theorem dX9_moved_39 : decode cX9_moved 39 = .ok (.iconst 0, 1) := by decide +kernel
theorem dX9_moved_40 : decode cX9_moved 40 = .ok (.ior, 1) := by decide +kernel
theorem dX9_moved_41 : decode cX9_moved 41 = .ok (.istore_n 3, 1) := by decide +kernel
theorem dX9_moved_42 : decode cX9_moved 42 = .ok (.iinc 4 1, 3) := by decide +kernel
theorem dX9_moved_45 : decode cX9_moved 45 = .ok (.goto (-40), 3) := by decide +kernel
theorem dX9_moved_48 : decode cX9_moved 48 = .ok (.iload_n 3, 1) := by decide +kernel
theorem dX9_moved_49 : decode cX9_moved 49 = .ok (.ireturn, 1) := by decide +kernel
set_option maxRecDepth 20000 in
theorem ggX9_movedBy_X9_looks : GoodIn wsX9_movedBy wsX9_looks := goodIn_r _ [10, 4, 11, 3, 12, 13, 9, 14, 15, 16, 17, 34, 35, 36, 37, 38, 39, 40, 41, 42, 43, 44, 45, 46, 47, 48, 49, 50, 51, 52, 53, 54, 55, 56, 57, 58, 59, 60, 61, 62, 63, 64, 65, 66, 67, 68, 69] (by decide +kernel) (by decide +kernel)
set_option maxRecDepth 20000 in
theorem gX9_movedBy_X9_looks : GoodIn wsX9_movedBy (wsV RX9 122 RX9 yX9_looks wsX9_looks) := goodIn_app (goodIn_of _ (by decide +kernel)) ggX9_movedBy_X9_looks
set_option maxRecDepth 20000 in
theorem ggX9_movedBy_X9_copies : GoodIn wsX9_movedBy wsX9_copies := goodIn_r _ [20] (by decide +kernel) (by decide +kernel)
set_option maxRecDepth 20000 in
theorem gX9_movedBy_X9_copies : GoodIn wsX9_movedBy (va_wsS RX9 148 yX9_copies wsX9_copies) := goodIn_app (goodIn_of _ (by decide +kernel)) ggX9_movedBy_X9_copies
set_option maxRecDepth 20000 in
theorem ggX9_movedBy_X9_moves : GoodIn wsX9_movedBy wsX9_moves := goodIn_r _ [24, 4, 11, 25, 26, 27, 28, 9, 29, 15, 16, 17, 34, 35, 36, 37, 38, 39, 40, 41, 42, 43, 44, 45, 46, 47, 48, 49, 50, 51, 52, 53, 54, 55, 56, 57, 58, 59, 60, 61, 62, 63, 64, 65, 66, 67, 68, 69] (by decide +kernel) (by decide +kernel)
set_option maxRecDepth 20000 in
theorem gX9_movedBy_X9_moves : GoodIn wsX9_movedBy (wsV RX9 174 RX9 yX9_moves wsX9_moves) := goodIn_app (goodIn_of _ (by decide +kernel)) ggX9_movedBy_X9_moves
set_option maxRecDepth 20000 in
theorem ggX9_movedBy_X9_moved : GoodIn wsX9_movedBy wsX9_moved := goodIn_r _ [33, 2, 34, 35, 36, 37, 38, 39, 40, 41, 42, 43, 44, 45, 46, 47, 48, 49, 50, 51, 52, 53, 54, 55, 56, 57, 58, 59, 60, 61, 62, 63, 64, 65, 66, 67, 68, 69] (by decide +kernel) (by decide +kernel)
set_option maxRecDepth 20000 in
theorem gX9_movedBy_X9_moved : GoodIn wsX9_movedBy (wsV RX9 178 RX9 yX9_moved wsX9_moved) := goodIn_app (goodIn_of _ (by decide +kernel)) ggX9_movedBy_X9_moved
theorem dX9_movedBy_0 : decode cX9_movedBy 0 = .ok (.aload_n 0, 1) := by decide +kernel
theorem dX9_movedBy_1 : decode cX9_movedBy 1 = .ok (.aload_n 0, 1) := by decide +kernel
theorem dX9_movedBy_2 : decode cX9_movedBy 2 = .ok (.getfield 16, 3) := by decide +kernel
theorem dX9_movedBy_5 : decode cX9_movedBy 5 = .ok (.aload_n 0, 1) := by decide +kernel
theorem dX9_movedBy_6 : decode cX9_movedBy 6 = .ok (.getfield 145, 3) := by decide +kernel
theorem dX9_movedBy_9 : decode cX9_movedBy 9 = .ok (.iload_n 1, 1) := by decide +kernel
theorem dX9_movedBy_10 : decode cX9_movedBy 10 = .ok (.iload_n 2, 1) := by decide +kernel
theorem dX9_movedBy_11 : decode cX9_movedBy 11 = .ok (.invokevirtual 122, 3) := by decide +kernel
theorem dX9_movedBy_14 : decode cX9_movedBy 14 = .ok (.aload_n 0, 1) := by decide +kernel
theorem dX9_movedBy_15 : decode cX9_movedBy 15 = .ok (.getfield 126, 3) := by decide +kernel
theorem dX9_movedBy_18 : decode cX9_movedBy 18 = .ok (.ifCond .ne 10, 3) := by decide +kernel
theorem dX9_movedBy_21 : decode cX9_movedBy 21 = .ok (.aload_n 0, 1) := by decide +kernel
theorem dX9_movedBy_22 : decode cX9_movedBy 22 = .ok (.getfield 164, 3) := by decide +kernel
theorem dX9_movedBy_25 : decode cX9_movedBy 25 = .ok (.ifCond .ne 5, 3) := by decide +kernel
theorem dX9_movedBy_28 : decode cX9_movedBy 28 = .ok (.iconst 0, 1) := by decide +kernel
theorem dX9_movedBy_29 : decode cX9_movedBy 29 = .ok (.ireturn, 1) := by decide +kernel
theorem dX9_movedBy_30 : decode cX9_movedBy 30 = .ok (.aload_n 0, 1) := by decide +kernel
theorem dX9_movedBy_31 : decode cX9_movedBy 31 = .ok (.getfield 16, 3) := by decide +kernel
theorem dX9_movedBy_34 : decode cX9_movedBy 34 = .ok (.aload_n 0, 1) := by decide +kernel
theorem dX9_movedBy_35 : decode cX9_movedBy 35 = .ok (.getfield 63, 3) := by decide +kernel
theorem dX9_movedBy_38 : decode cX9_movedBy 38 = .ok (.invokestatic 148, 3) := by decide +kernel
theorem dX9_movedBy_41 : decode cX9_movedBy 41 = .ok (.aload_n 0, 1) := by decide +kernel
theorem dX9_movedBy_42 : decode cX9_movedBy 42 = .ok (.aload_n 0, 1) := by decide +kernel
theorem dX9_movedBy_43 : decode cX9_movedBy 43 = .ok (.getfield 63, 3) := by decide +kernel
theorem dX9_movedBy_46 : decode cX9_movedBy 46 = .ok (.aload_n 0, 1) := by decide +kernel
theorem dX9_movedBy_47 : decode cX9_movedBy 47 = .ok (.getfield 145, 3) := by decide +kernel
theorem dX9_movedBy_50 : decode cX9_movedBy 50 = .ok (.invokevirtual 174, 3) := by decide +kernel
theorem dX9_movedBy_53 : decode cX9_movedBy 53 = .ok (.aload_n 0, 1) := by decide +kernel
theorem dX9_movedBy_54 : decode cX9_movedBy 54 = .ok (.aload_n 0, 1) := by decide +kernel
theorem dX9_movedBy_55 : decode cX9_movedBy 55 = .ok (.getfield 63, 3) := by decide +kernel
theorem dX9_movedBy_58 : decode cX9_movedBy 58 = .ok (.aload_n 0, 1) := by decide +kernel
theorem dX9_movedBy_59 : decode cX9_movedBy 59 = .ok (.getfield 16, 3) := by decide +kernel
theorem dX9_movedBy_62 : decode cX9_movedBy 62 = .ok (.invokevirtual 178, 3) := by decide +kernel
theorem dX9_movedBy_65 : decode cX9_movedBy 65 = .ok (.ireturn, 1) := by decide +kernel
set_option maxRecDepth 20000 in
theorem ggX9_rings_X9_has : GoodIn wsX9_rings wsX9_has := goodIn_r _ [8] (by decide +kernel) (by decide +kernel)
set_option maxRecDepth 20000 in
theorem gX9_rings_X9_has : GoodIn wsX9_rings (va_wsS RX9 119 yX9_has wsX9_has) := goodIn_app (goodIn_of _ (by decide +kernel)) ggX9_rings_X9_has
theorem dX9_rings_0 : decode cX9_rings 0 = .ok (.iconst 0, 1) := by decide +kernel
theorem dX9_rings_1 : decode cX9_rings 1 = .ok (.istore 4, 2) := by decide +kernel
theorem dX9_rings_3 : decode cX9_rings 3 = .ok (.iload 4, 2) := by decide +kernel
theorem dX9_rings_5 : decode cX9_rings 5 = .ok (.aload_n 0, 1) := by decide +kernel
theorem dX9_rings_6 : decode cX9_rings 6 = .ok (.getfield 145, 3) := by decide +kernel
theorem dX9_rings_9 : decode cX9_rings 9 = .ok (.if_icmp .ge 27, 3) := by decide +kernel
theorem dX9_rings_12 : decode cX9_rings 12 = .ok (.aload_n 0, 1) := by decide +kernel
theorem dX9_rings_13 : decode cX9_rings 13 = .ok (.getfield 50, 3) := by decide +kernel
theorem dX9_rings_16 : decode cX9_rings 16 = .ok (.iload 4, 2) := by decide +kernel
theorem dX9_rings_18 : decode cX9_rings 18 = .ok (.iload 4, 2) := by decide +kernel
theorem dX9_rings_20 : decode cX9_rings 20 = .ok (.iload_n 3, 1) := by decide +kernel
theorem dX9_rings_21 : decode cX9_rings 21 = .ok (.if_icmp .ne 7, 3) := by decide +kernel
theorem dX9_rings_24 : decode cX9_rings 24 = .ok (.iconst 0, 1) := by decide +kernel
theorem dX9_rings_25 : decode cX9_rings 25 = .ok (.goto 4, 3) := by decide +kernel
theorem dX9_rings_28 : decode cX9_rings 28 = .ok (.iconst (-1), 1) := by decide +kernel
theorem dX9_rings_29 : decode cX9_rings 29 = .ok (.iastore, 1) := by decide +kernel
theorem dX9_rings_30 : decode cX9_rings 30 = .ok (.iinc 4 1, 3) := by decide +kernel
theorem dX9_rings_33 : decode cX9_rings 33 = .ok (.goto (-30), 3) := by decide +kernel
theorem dX9_rings_36 : decode cX9_rings 36 = .ok (.iconst 1, 1) := by decide +kernel
theorem dX9_rings_37 : decode cX9_rings 37 = .ok (.istore 4, 2) := by decide +kernel
theorem dX9_rings_39 : decode cX9_rings 39 = .ok (.iload 4, 2) := by decide +kernel
theorem dX9_rings_41 : decode cX9_rings 41 = .ok (.aload_n 0, 1) := by decide +kernel
theorem dX9_rings_42 : decode cX9_rings 42 = .ok (.getfield 145, 3) := by decide +kernel
theorem dX9_rings_45 : decode cX9_rings 45 = .ok (.if_icmp .ge 102, 3) := by decide +kernel
theorem dX9_rings_48 : decode cX9_rings 48 = .ok (.iconst 0, 1) := by decide +kernel
theorem dX9_rings_49 : decode cX9_rings 49 = .ok (.istore 5, 2) := by decide +kernel
theorem dX9_rings_51 : decode cX9_rings 51 = .ok (.iload 5, 2) := by decide +kernel
theorem dX9_rings_53 : decode cX9_rings 53 = .ok (.aload_n 0, 1) := by decide +kernel
theorem dX9_rings_54 : decode cX9_rings 54 = .ok (.getfield 145, 3) := by decide +kernel
theorem dX9_rings_57 : decode cX9_rings 57 = .ok (.if_icmp .ge 84, 3) := by decide +kernel
theorem dX9_rings_60 : decode cX9_rings 60 = .ok (.iconst 0, 1) := by decide +kernel
theorem dX9_rings_61 : decode cX9_rings 61 = .ok (.istore 6, 2) := by decide +kernel
theorem dX9_rings_63 : decode cX9_rings 63 = .ok (.iload 6, 2) := by decide +kernel
theorem dX9_rings_65 : decode cX9_rings 65 = .ok (.aload_n 0, 1) := by decide +kernel
theorem dX9_rings_66 : decode cX9_rings 66 = .ok (.getfield 145, 3) := by decide +kernel
theorem dX9_rings_69 : decode cX9_rings 69 = .ok (.if_icmp .ge 66, 3) := by decide +kernel
theorem dX9_rings_72 : decode cX9_rings 72 = .ok (.aload_n 0, 1) := by decide +kernel
theorem dX9_rings_73 : decode cX9_rings 73 = .ok (.getfield 50, 3) := by decide +kernel
theorem dX9_rings_76 : decode cX9_rings 76 = .ok (.iload 5, 2) := by decide +kernel
theorem dX9_rings_78 : decode cX9_rings 78 = .ok (.iaload, 1) := by decide +kernel
theorem dX9_rings_79 : decode cX9_rings 79 = .ok (.ifCond .ge 56, 3) := by decide +kernel
theorem dX9_rings_82 : decode cX9_rings 82 = .ok (.aload_n 0, 1) := by decide +kernel
theorem dX9_rings_83 : decode cX9_rings 83 = .ok (.getfield 50, 3) := by decide +kernel
theorem dX9_rings_86 : decode cX9_rings 86 = .ok (.iload 5, 2) := by decide +kernel
theorem dX9_rings_88 : decode cX9_rings 88 = .ok (.aload_n 1, 1) := by decide +kernel
theorem dX9_rings_89 : decode cX9_rings 89 = .ok (.iconst 0, 1) := by decide +kernel
theorem dX9_rings_90 : decode cX9_rings 90 = .ok (.iload 5, 2) := by decide +kernel
theorem dX9_rings_92 : decode cX9_rings 92 = .ok (.iadd, 1) := by decide +kernel
theorem dX9_rings_93 : decode cX9_rings 93 = .ok (.iaload, 1) := by decide +kernel
theorem dX9_rings_94 : decode cX9_rings 94 = .ok (.iload 6, 2) := by decide +kernel
theorem dX9_rings_96 : decode cX9_rings 96 = .ok (.invokestatic 119, 3) := by decide +kernel
theorem dX9_rings_99 : decode cX9_rings 99 = .ok (.ifCond .eq 22, 3) := by decide +kernel
theorem dX9_rings_102 : decode cX9_rings 102 = .ok (.aload_n 0, 1) := by decide +kernel
theorem dX9_rings_103 : decode cX9_rings 103 = .ok (.getfield 50, 3) := by decide +kernel
theorem dX9_rings_106 : decode cX9_rings 106 = .ok (.iload 6, 2) := by decide +kernel
theorem dX9_rings_108 : decode cX9_rings 108 = .ok (.iaload, 1) := by decide +kernel
theorem dX9_rings_109 : decode cX9_rings 109 = .ok (.iload 4, 2) := by decide +kernel
theorem dX9_rings_111 : decode cX9_rings 111 = .ok (.iconst 1, 1) := by decide +kernel
theorem dX9_rings_112 : decode cX9_rings 112 = .ok (.isub, 1) := by decide +kernel
theorem dX9_rings_113 : decode cX9_rings 113 = .ok (.if_icmp .ne 8, 3) := by decide +kernel
theorem dX9_rings_116 : decode cX9_rings 116 = .ok (.iload 4, 2) := by decide +kernel
theorem dX9_rings_118 : decode cX9_rings 118 = .ok (.goto 10, 3) := by decide +kernel
theorem dX9_rings_121 : decode cX9_rings 121 = .ok (.aload_n 0, 1) := by decide +kernel
theorem dX9_rings_122 : decode cX9_rings 122 = .ok (.getfield 50, 3) := by decide +kernel
theorem dX9_rings_125 : decode cX9_rings 125 = .ok (.iload 5, 2) := by decide +kernel
theorem dX9_rings_127 : decode cX9_rings 127 = .ok (.iaload, 1) := by decide +kernel
theorem dX9_rings_128 : decode cX9_rings 128 = .ok (.iastore, 1) := by decide +kernel
theorem dX9_rings_129 : decode cX9_rings 129 = .ok (.iinc 6 1, 3) := by decide +kernel
theorem dX9_rings_132 : decode cX9_rings 132 = .ok (.goto (-69), 3) := by decide +kernel
theorem dX9_rings_135 : decode cX9_rings 135 = .ok (.iinc 5 1, 3) := by decide +kernel
theorem dX9_rings_138 : decode cX9_rings 138 = .ok (.goto (-87), 3) := by decide +kernel
theorem dX9_rings_141 : decode cX9_rings 141 = .ok (.iinc 4 1, 3) := by decide +kernel
theorem dX9_rings_144 : decode cX9_rings 144 = .ok (.goto (-105), 3) := by decide +kernel
theorem dX9_rings_147 : decode cX9_rings 147 = .ok (.aload_n 0, 1) := by decide +kernel
theorem dX9_rings_148 : decode cX9_rings 148 = .ok (.aload_n 0, 1) := by decide +kernel
theorem dX9_rings_149 : decode cX9_rings 149 = .ok (.getfield 50, 3) := by decide +kernel
theorem dX9_rings_152 : decode cX9_rings 152 = .ok (.iload_n 2, 1) := by decide +kernel
theorem dX9_rings_153 : decode cX9_rings 153 = .ok (.iaload, 1) := by decide +kernel
theorem dX9_rings_154 : decode cX9_rings 154 = .ok (.iconst 1, 1) := by decide +kernel
theorem dX9_rings_155 : decode cX9_rings 155 = .ok (.iadd, 1) := by decide +kernel
theorem dX9_rings_156 : decode cX9_rings 156 = .ok (.putfield 182, 3) := by decide +kernel
theorem dX9_rings_159 : decode cX9_rings 159 = .ok (.iload_n 2, 1) := by decide +kernel
theorem dX9_rings_160 : decode cX9_rings 160 = .ok (.istore 4, 2) := by decide +kernel
theorem dX9_rings_162 : decode cX9_rings 162 = .ok (.iconst 0, 1) := by decide +kernel
theorem dX9_rings_163 : decode cX9_rings 163 = .ok (.istore 5, 2) := by decide +kernel
theorem dX9_rings_165 : decode cX9_rings 165 = .ok (.iload 5, 2) := by decide +kernel
theorem dX9_rings_167 : decode cX9_rings 167 = .ok (.aload_n 0, 1) := by decide +kernel
theorem dX9_rings_168 : decode cX9_rings 168 = .ok (.getfield 182, 3) := by decide +kernel
theorem dX9_rings_171 : decode cX9_rings 171 = .ok (.if_icmp .ge 75, 3) := by decide +kernel
theorem dX9_rings_174 : decode cX9_rings 174 = .ok (.aload_n 0, 1) := by decide +kernel
theorem dX9_rings_175 : decode cX9_rings 175 = .ok (.getfield 41, 3) := by decide +kernel
theorem dX9_rings_178 : decode cX9_rings 178 = .ok (.iload 5, 2) := by decide +kernel
theorem dX9_rings_180 : decode cX9_rings 180 = .ok (.iload 4, 2) := by decide +kernel
theorem dX9_rings_182 : decode cX9_rings 182 = .ok (.iastore, 1) := by decide +kernel
theorem dX9_rings_183 : decode cX9_rings 183 = .ok (.iconst 0, 1) := by decide +kernel
theorem dX9_rings_184 : decode cX9_rings 184 = .ok (.istore 6, 2) := by decide +kernel
theorem dX9_rings_186 : decode cX9_rings 186 = .ok (.iload 5, 2) := by decide +kernel
theorem dX9_rings_188 : decode cX9_rings 188 = .ok (.iconst 1, 1) := by decide +kernel
theorem dX9_rings_189 : decode cX9_rings 189 = .ok (.iadd, 1) := by decide +kernel
theorem dX9_rings_190 : decode cX9_rings 190 = .ok (.aload_n 0, 1) := by decide +kernel
theorem dX9_rings_191 : decode cX9_rings 191 = .ok (.getfield 182, 3) := by decide +kernel
theorem dX9_rings_194 : decode cX9_rings 194 = .ok (.if_icmp .ge 42, 3) := by decide +kernel
theorem dX9_rings_197 : decode cX9_rings 197 = .ok (.aload_n 1, 1) := by decide +kernel
theorem dX9_rings_198 : decode cX9_rings 198 = .ok (.iconst 0, 1) := by decide +kernel
theorem dX9_rings_199 : decode cX9_rings 199 = .ok (.iload 4, 2) := by decide +kernel
theorem dX9_rings_201 : decode cX9_rings 201 = .ok (.iadd, 1) := by decide +kernel
theorem dX9_rings_202 : decode cX9_rings 202 = .ok (.iaload, 1) := by decide +kernel
theorem dX9_rings_203 : decode cX9_rings 203 = .ok (.iload 6, 2) := by decide +kernel
theorem dX9_rings_205 : decode cX9_rings 205 = .ok (.invokestatic 119, 3) := by decide +kernel
theorem dX9_rings_208 : decode cX9_rings 208 = .ok (.ifCond .eq 22, 3) := by decide +kernel
theorem dX9_rings_211 : decode cX9_rings 211 = .ok (.aload_n 0, 1) := by decide +kernel
theorem dX9_rings_212 : decode cX9_rings 212 = .ok (.getfield 50, 3) := by decide +kernel
theorem dX9_rings_215 : decode cX9_rings 215 = .ok (.iload 6, 2) := by decide +kernel
theorem dX9_rings_217 : decode cX9_rings 217 = .ok (.iaload, 1) := by decide +kernel
theorem dX9_rings_218 : decode cX9_rings 218 = .ok (.aload_n 0, 1) := by decide +kernel
theorem dX9_rings_219 : decode cX9_rings 219 = .ok (.getfield 50, 3) := by decide +kernel
theorem dX9_rings_222 : decode cX9_rings 222 = .ok (.iload 4, 2) := by decide +kernel
theorem dX9_rings_224 : decode cX9_rings 224 = .ok (.iaload, 1) := by decide +kernel
theorem dX9_rings_225 : decode cX9_rings 225 = .ok (.iconst 1, 1) := by decide +kernel
theorem dX9_rings_226 : decode cX9_rings 226 = .ok (.isub, 1) := by decide +kernel
theorem dX9_rings_227 : decode cX9_rings 227 = .ok (.if_icmp .eq 9, 3) := by decide +kernel
theorem dX9_rings_230 : decode cX9_rings 230 = .ok (.iinc 6 1, 3) := by decide +kernel
theorem dX9_rings_233 : decode cX9_rings 233 = .ok (.goto (-47), 3) := by decide +kernel
theorem dX9_rings_236 : decode cX9_rings 236 = .ok (.iload 6, 2) := by decide +kernel
theorem dX9_rings_238 : decode cX9_rings 238 = .ok (.istore 4, 2) := by decide +kernel
theorem dX9_rings_240 : decode cX9_rings 240 = .ok (.iinc 5 1, 3) := by decide +kernel
theorem dX9_rings_243 : decode cX9_rings 243 = .ok (.goto (-78), 3) := by decide +kernel
theorem dX9_rings_246 : decode cX9_rings 246 = .ok (.return_, 1) := by decide +kernel
theorem dX9_lap_0 : decode cX9_lap 0 = .ok (.aload_n 0, 1) := by decide +kernel
theorem dX9_lap_1 : decode cX9_lap 1 = .ok (.iconst 0, 1) := by decide +kernel
theorem dX9_lap_2 : decode cX9_lap 2 = .ok (.putfield 75, 3) := by decide +kernel
theorem dX9_lap_5 : decode cX9_lap 5 = .ok (.iload_n 1, 1) := by decide +kernel
theorem dX9_lap_6 : decode cX9_lap 6 = .ok (.iconst (-1), 1) := by decide +kernel
theorem dX9_lap_7 : decode cX9_lap 7 = .ok (.if_icmp .ge 5, 3) := by decide +kernel
theorem dX9_lap_10 : decode cX9_lap 10 = .ok (.iconst (-1), 1) := by decide +kernel
theorem dX9_lap_11 : decode cX9_lap 11 = .ok (.ireturn, 1) := by decide +kernel
theorem dX9_lap_12 : decode cX9_lap 12 = .ok (.iload_n 1, 1) := by decide +kernel
theorem dX9_lap_13 : decode cX9_lap 13 = .ok (.ifCond .ge 10, 3) := by decide +kernel
theorem dX9_lap_16 : decode cX9_lap 16 = .ok (.aload_n 0, 1) := by decide +kernel
theorem dX9_lap_17 : decode cX9_lap 17 = .ok (.getfield 182, 3) := by decide +kernel
theorem dX9_lap_20 : decode cX9_lap 20 = .ok (.goto 22, 3) := by decide +kernel
theorem dX9_lap_23 : decode cX9_lap 23 = .ok (.iload_n 1, 1) := by decide +kernel
theorem dX9_lap_24 : decode cX9_lap 24 = .ok (.aload_n 0, 1) := by decide +kernel
theorem dX9_lap_25 : decode cX9_lap 25 = .ok (.getfield 182, 3) := by decide +kernel
theorem dX9_lap_28 : decode cX9_lap 28 = .ok (.if_icmp .ge 12, 3) := by decide +kernel
theorem dX9_lap_31 : decode cX9_lap 31 = .ok (.aload_n 0, 1) := by decide +kernel
theorem dX9_lap_32 : decode cX9_lap 32 = .ok (.getfield 41, 3) := by decide +kernel
theorem dX9_lap_35 : decode cX9_lap 35 = .ok (.iload_n 1, 1) := by decide +kernel
theorem dX9_lap_36 : decode cX9_lap 36 = .ok (.iaload, 1) := by decide +kernel
theorem dX9_lap_37 : decode cX9_lap 37 = .ok (.goto 5, 3) := by decide +kernel
theorem dX9_lap_40 : decode cX9_lap 40 = .ok (.bipush (-9), 2) := by decide +kernel
theorem dX9_lap_42 : decode cX9_lap 42 = .ok (.ireturn, 1) := by decide +kernel
set_option maxRecDepth 20000 in
theorem ggX9_behind_X9_has : GoodIn wsX9_behind wsX9_has := goodIn_r _ [6] (by decide +kernel) (by decide +kernel)
set_option maxRecDepth 20000 in
theorem gX9_behind_X9_has : GoodIn wsX9_behind (va_wsS RX9 119 yX9_has wsX9_has) := goodIn_app (goodIn_of _ (by decide +kernel)) ggX9_behind_X9_has
theorem dX9_behind_0 : decode cX9_behind 0 = .ok (.aload_n 0, 1) := by decide +kernel
theorem dX9_behind_1 : decode cX9_behind 1 = .ok (.getfield 16, 3) := by decide +kernel
theorem dX9_behind_4 : decode cX9_behind 4 = .ok (.iconst 0, 1) := by decide +kernel
theorem dX9_behind_5 : decode cX9_behind 5 = .ok (.iload_n 1, 1) := by decide +kernel
theorem dX9_behind_6 : decode cX9_behind 6 = .ok (.iadd, 1) := by decide +kernel
theorem dX9_behind_7 : decode cX9_behind 7 = .ok (.iaload, 1) := by decide +kernel
theorem dX9_behind_8 : decode cX9_behind 8 = .ok (.istore_n 2, 1) := by decide +kernel
theorem dX9_behind_9 : decode cX9_behind 9 = .ok (.iconst 0, 1) := by decide +kernel
theorem dX9_behind_10 : decode cX9_behind 10 = .ok (.istore_n 3, 1) := by decide +kernel
theorem dX9_behind_11 : decode cX9_behind 11 = .ok (.iload_n 3, 1) := by decide +kernel
theorem dX9_behind_12 : decode cX9_behind 12 = .ok (.aload_n 0, 1) := by decide +kernel
theorem dX9_behind_13 : decode cX9_behind 13 = .ok (.getfield 145, 3) := by decide +kernel
theorem dX9_behind_16 : decode cX9_behind 16 = .ok (.if_icmp .ge 52, 3) := by decide +kernel
theorem dX9_behind_19 : decode cX9_behind 19 = .ok (.iconst 0, 1) := by decide +kernel
theorem dX9_behind_20 : decode cX9_behind 20 = .ok (.istore 4, 2) := by decide +kernel
theorem dX9_behind_22 : decode cX9_behind 22 = .ok (.iload 4, 2) := by decide +kernel
theorem dX9_behind_24 : decode cX9_behind 24 = .ok (.aload_n 0, 1) := by decide +kernel
theorem dX9_behind_25 : decode cX9_behind 25 = .ok (.getfield 145, 3) := by decide +kernel
theorem dX9_behind_28 : decode cX9_behind 28 = .ok (.if_icmp .ge 34, 3) := by decide +kernel
theorem dX9_behind_31 : decode cX9_behind 31 = .ok (.iload_n 2, 1) := by decide +kernel
theorem dX9_behind_32 : decode cX9_behind 32 = .ok (.iload_n 2, 1) := by decide +kernel
theorem dX9_behind_33 : decode cX9_behind 33 = .ok (.iload 4, 2) := by decide +kernel
theorem dX9_behind_35 : decode cX9_behind 35 = .ok (.invokestatic 119, 3) := by decide +kernel
theorem dX9_behind_38 : decode cX9_behind 38 = .ok (.ifCond .eq 15, 3) := by decide +kernel
theorem dX9_behind_41 : decode cX9_behind 41 = .ok (.aload_n 0, 1) := by decide +kernel
theorem dX9_behind_42 : decode cX9_behind 42 = .ok (.getfield 16, 3) := by decide +kernel
theorem dX9_behind_45 : decode cX9_behind 45 = .ok (.iconst 0, 1) := by decide +kernel
theorem dX9_behind_46 : decode cX9_behind 46 = .ok (.iload 4, 2) := by decide +kernel
theorem dX9_behind_48 : decode cX9_behind 48 = .ok (.iadd, 1) := by decide +kernel
theorem dX9_behind_49 : decode cX9_behind 49 = .ok (.iaload, 1) := by decide +kernel
theorem dX9_behind_50 : decode cX9_behind 50 = .ok (.goto 4, 3) := by decide +kernel
theorem dX9_behind_53 : decode cX9_behind 53 = .ok (.iconst 0, 1) := by decide +kernel
theorem dX9_behind_54 : decode cX9_behind 54 = .ok (.ior, 1) := by decide +kernel
theorem dX9_behind_55 : decode cX9_behind 55 = .ok (.istore_n 2, 1) := by decide +kernel
theorem dX9_behind_56 : decode cX9_behind 56 = .ok (.iinc 4 1, 3) := by decide +kernel
theorem dX9_behind_59 : decode cX9_behind 59 = .ok (.goto (-37), 3) := by decide +kernel
theorem dX9_behind_62 : decode cX9_behind 62 = .ok (.iinc 3 1, 3) := by decide +kernel
theorem dX9_behind_65 : decode cX9_behind 65 = .ok (.goto (-54), 3) := by decide +kernel
theorem dX9_behind_68 : decode cX9_behind 68 = .ok (.iload_n 2, 1) := by decide +kernel
theorem dX9_behind_69 : decode cX9_behind 69 = .ok (.ireturn, 1) := by decide +kernel
set_option maxRecDepth 20000 in
theorem ggX9_ahead_X9_behind : GoodIn wsX9_ahead wsX9_behind := goodIn_r _ [6, 7, 1, 8, 9, 5, 10, 11, 12, 13, 14, 15, 16, 17, 18, 19, 20, 21, 22, 23, 24, 25, 26, 27, 28, 29, 30, 31, 32, 33, 34, 35, 36, 37, 38, 39, 40, 41, 42, 43, 44, 45, 46] (by decide +kernel) (by decide +kernel)
set_option maxRecDepth 20000 in
theorem gX9_ahead_X9_behind : GoodIn wsX9_ahead (wsV RX9 185 RX9 yX9_behind wsX9_behind) := goodIn_app (goodIn_of _ (by decide +kernel)) ggX9_ahead_X9_behind
set_option maxRecDepth 20000 in
theorem ggX9_ahead_X9_has : GoodIn wsX9_ahead wsX9_has := goodIn_r _ [10] (by decide +kernel) (by decide +kernel)
set_option maxRecDepth 20000 in
theorem gX9_ahead_X9_has : GoodIn wsX9_ahead (va_wsS RX9 119 yX9_has wsX9_has) := goodIn_app (goodIn_of _ (by decide +kernel)) ggX9_ahead_X9_has
theorem dX9_ahead_0 : decode cX9_ahead 0 = .ok (.iconst 0, 1) := by decide +kernel
theorem dX9_ahead_1 : decode cX9_ahead 1 = .ok (.istore_n 2, 1) := by decide +kernel
theorem dX9_ahead_2 : decode cX9_ahead 2 = .ok (.iconst 0, 1) := by decide +kernel
theorem dX9_ahead_3 : decode cX9_ahead 3 = .ok (.istore_n 3, 1) := by decide +kernel
theorem dX9_ahead_4 : decode cX9_ahead 4 = .ok (.iload_n 3, 1) := by decide +kernel
theorem dX9_ahead_5 : decode cX9_ahead 5 = .ok (.aload_n 0, 1) := by decide +kernel
theorem dX9_ahead_6 : decode cX9_ahead 6 = .ok (.getfield 145, 3) := by decide +kernel
theorem dX9_ahead_9 : decode cX9_ahead 9 = .ok (.if_icmp .ge 31, 3) := by decide +kernel
theorem dX9_ahead_12 : decode cX9_ahead 12 = .ok (.iload_n 2, 1) := by decide +kernel
theorem dX9_ahead_13 : decode cX9_ahead 13 = .ok (.aload_n 0, 1) := by decide +kernel
theorem dX9_ahead_14 : decode cX9_ahead 14 = .ok (.iload_n 3, 1) := by decide +kernel
theorem dX9_ahead_15 : decode cX9_ahead 15 = .ok (.invokevirtual 185, 3) := by decide +kernel
theorem dX9_ahead_18 : decode cX9_ahead 18 = .ok (.iload_n 1, 1) := by decide +kernel
theorem dX9_ahead_19 : decode cX9_ahead 19 = .ok (.invokestatic 119, 3) := by decide +kernel
theorem dX9_ahead_22 : decode cX9_ahead 22 = .ok (.ifCond .eq 9, 3) := by decide +kernel
theorem dX9_ahead_25 : decode cX9_ahead 25 = .ok (.iconst 1, 1) := by decide +kernel
theorem dX9_ahead_26 : decode cX9_ahead 26 = .ok (.iload_n 3, 1) := by decide +kernel
theorem dX9_ahead_27 : decode cX9_ahead 27 = .ok (.ishl, 1) := by decide +kernel
theorem dX9_ahead_28 : decode cX9_ahead 28 = .ok (.goto 4, 3) := by decide +kernel
theorem dX9_ahead_31 : decode cX9_ahead 31 = .ok (.iconst 0, 1) := by decide +kernel
theorem dX9_ahead_32 : decode cX9_ahead 32 = .ok (.ior, 1) := by decide +kernel
theorem dX9_ahead_33 : decode cX9_ahead 33 = .ok (.istore_n 2, 1) := by decide +kernel
theorem dX9_ahead_34 : decode cX9_ahead 34 = .ok (.iinc 3 1, 3) := by decide +kernel
theorem dX9_ahead_37 : decode cX9_ahead 37 = .ok (.goto (-33), 3) := by decide +kernel
theorem dX9_ahead_40 : decode cX9_ahead 40 = .ok (.iload_n 2, 1) := by decide +kernel
theorem dX9_ahead_41 : decode cX9_ahead 41 = .ok (.ireturn, 1) := by decide +kernel
set_option maxRecDepth 20000 in
theorem ggX9_into_X9_has : GoodIn wsX9_into wsX9_has := goodIn_r _ [6] (by decide +kernel) (by decide +kernel)
set_option maxRecDepth 20000 in
theorem gX9_into_X9_has : GoodIn wsX9_into (va_wsS RX9 119 yX9_has wsX9_has) := goodIn_app (goodIn_of _ (by decide +kernel)) ggX9_into_X9_has
theorem dX9_into_0 : decode cX9_into 0 = .ok (.iconst 0, 1) := by decide +kernel
theorem dX9_into_1 : decode cX9_into 1 = .ok (.istore_n 2, 1) := by decide +kernel
theorem dX9_into_2 : decode cX9_into 2 = .ok (.iconst 0, 1) := by decide +kernel
theorem dX9_into_3 : decode cX9_into 3 = .ok (.istore_n 3, 1) := by decide +kernel
theorem dX9_into_4 : decode cX9_into 4 = .ok (.iload_n 3, 1) := by decide +kernel
theorem dX9_into_5 : decode cX9_into 5 = .ok (.aload_n 0, 1) := by decide +kernel
theorem dX9_into_6 : decode cX9_into 6 = .ok (.getfield 145, 3) := by decide +kernel
theorem dX9_into_9 : decode cX9_into 9 = .ok (.if_icmp .ge 34, 3) := by decide +kernel
theorem dX9_into_12 : decode cX9_into 12 = .ok (.iload_n 2, 1) := by decide +kernel
theorem dX9_into_13 : decode cX9_into 13 = .ok (.aload_n 0, 1) := by decide +kernel
theorem dX9_into_14 : decode cX9_into 14 = .ok (.getfield 16, 3) := by decide +kernel
theorem dX9_into_17 : decode cX9_into 17 = .ok (.iconst 0, 1) := by decide +kernel
theorem dX9_into_18 : decode cX9_into 18 = .ok (.iload_n 3, 1) := by decide +kernel
theorem dX9_into_19 : decode cX9_into 19 = .ok (.iadd, 1) := by decide +kernel
theorem dX9_into_20 : decode cX9_into 20 = .ok (.iaload, 1) := by decide +kernel
theorem dX9_into_21 : decode cX9_into 21 = .ok (.iload_n 1, 1) := by decide +kernel
theorem dX9_into_22 : decode cX9_into 22 = .ok (.invokestatic 119, 3) := by decide +kernel
theorem dX9_into_25 : decode cX9_into 25 = .ok (.ifCond .eq 9, 3) := by decide +kernel
theorem dX9_into_28 : decode cX9_into 28 = .ok (.iconst 1, 1) := by decide +kernel
theorem dX9_into_29 : decode cX9_into 29 = .ok (.iload_n 3, 1) := by decide +kernel
theorem dX9_into_30 : decode cX9_into 30 = .ok (.ishl, 1) := by decide +kernel
theorem dX9_into_31 : decode cX9_into 31 = .ok (.goto 4, 3) := by decide +kernel
theorem dX9_into_34 : decode cX9_into 34 = .ok (.iconst 0, 1) := by decide +kernel
theorem dX9_into_35 : decode cX9_into 35 = .ok (.ior, 1) := by decide +kernel
theorem dX9_into_36 : decode cX9_into 36 = .ok (.istore_n 2, 1) := by decide +kernel
theorem dX9_into_37 : decode cX9_into 37 = .ok (.iinc 3 1, 3) := by decide +kernel
theorem dX9_into_40 : decode cX9_into 40 = .ok (.goto (-36), 3) := by decide +kernel
theorem dX9_into_43 : decode cX9_into 43 = .ok (.iload_n 2, 1) := by decide +kernel
theorem dX9_into_44 : decode cX9_into 44 = .ok (.ireturn, 1) := by decide +kernel
set_option maxRecDepth 20000 in
theorem ggX9_item_X9_isItem : GoodIn wsX9_item wsX9_isItem := goodIn_r _ [8, 3, 9, 10, 7, 11, 30, 31, 32, 33, 34, 35, 36, 37, 38, 39, 40, 41, 42, 43, 44, 45, 46, 47, 48, 49, 50, 51, 52, 53, 54, 55, 56, 57, 58, 59, 60, 61, 62, 63, 64, 65] (by decide +kernel) (by decide +kernel)
set_option maxRecDepth 20000 in
theorem gX9_item_X9_isItem : GoodIn wsX9_item (wsV RX9 161 RX9 yX9_isItem wsX9_isItem) := goodIn_app (goodIn_of _ (by decide +kernel)) ggX9_item_X9_isItem
set_option maxRecDepth 20000 in
theorem ggX9_item_X9_in : GoodIn wsX9_item wsX9_in := goodIn_r _ [11] (by decide +kernel) (by decide +kernel)
set_option maxRecDepth 20000 in
theorem gX9_item_X9_in : GoodIn wsX9_item (va_wsS RX9 79 yX9_in wsX9_in) := goodIn_app (goodIn_of _ (by decide +kernel)) ggX9_item_X9_in
set_option maxRecDepth 20000 in
theorem ggX9_item_X9_into : GoodIn wsX9_item wsX9_into := goodIn_r _ [15, 3, 2, 16, 17, 7, 18, 30, 31, 32, 33, 34, 35, 36, 37, 38, 39, 40, 41, 42, 43, 44, 45, 46, 47, 48, 49, 50, 51, 52, 53, 54, 55, 56, 57, 58, 59, 60, 61, 62, 63, 64, 65] (by decide +kernel) (by decide +kernel)
set_option maxRecDepth 20000 in
theorem gX9_item_X9_into : GoodIn wsX9_item (wsV RX9 188 RX9 yX9_into wsX9_into) := goodIn_app (goodIn_of _ (by decide +kernel)) ggX9_item_X9_into
set_option maxRecDepth 20000 in
theorem ggX9_item_X9_ahead : GoodIn wsX9_item wsX9_ahead := goodIn_r _ [22, 3, 23, 24, 25, 7, 26, 2, 16, 17, 18, 30, 31, 32, 33, 34, 35, 36, 37, 38, 39, 40, 41, 42, 43, 44, 45, 46, 47, 48, 49, 50, 51, 52, 53, 54, 55, 56, 57, 58, 59, 60, 61, 62, 63, 64, 65] (by decide +kernel) (by decide +kernel)
set_option maxRecDepth 20000 in
theorem gX9_item_X9_ahead : GoodIn wsX9_item (wsV RX9 191 RX9 yX9_ahead wsX9_ahead) := goodIn_app (goodIn_of _ (by decide +kernel)) ggX9_item_X9_ahead
set_option maxRecDepth 20000 in
theorem ggX9_item_X9_ones : GoodIn wsX9_item wsX9_ones := goodIn_r _ [29] (by decide +kernel) (by decide +kernel)
set_option maxRecDepth 20000 in
theorem gX9_item_X9_ones : GoodIn wsX9_item (va_wsS RX9 194 yX9_ones wsX9_ones) := goodIn_app (goodIn_of _ (by decide +kernel)) ggX9_item_X9_ones
set_option maxRecDepth 20000 in
theorem ggX9_item_X9_behind : GoodIn wsX9_item wsX9_behind := goodIn_r _ [26, 2, 3, 16, 17, 7, 18, 30, 31, 32, 33, 34, 35, 36, 37, 38, 39, 40, 41, 42, 43, 44, 45, 46, 47, 48, 49, 50, 51, 52, 53, 54, 55, 56, 57, 58, 59, 60, 61, 62, 63, 64, 65] (by decide +kernel) (by decide +kernel)
set_option maxRecDepth 20000 in
theorem gX9_item_X9_behind : GoodIn wsX9_item (wsV RX9 185 RX9 yX9_behind wsX9_behind) := goodIn_app (goodIn_of _ (by decide +kernel)) ggX9_item_X9_behind
theorem dX9_item_0 : decode cX9_item 0 = .ok (.aload_n 0, 1) := by decide +kernel
theorem dX9_item_1 : decode cX9_item 1 = .ok (.iconst 0, 1) := by decide +kernel
theorem dX9_item_2 : decode cX9_item 2 = .ok (.putfield 75, 3) := by decide +kernel
theorem dX9_item_5 : decode cX9_item 5 = .ok (.aload_n 0, 1) := by decide +kernel
theorem dX9_item_6 : decode cX9_item 6 = .ok (.iload_n 1, 1) := by decide +kernel
theorem dX9_item_7 : decode cX9_item 7 = .ok (.invokevirtual 161, 3) := by decide +kernel
theorem dX9_item_10 : decode cX9_item 10 = .ok (.ifCond .eq 13, 3) := by decide +kernel
theorem dX9_item_13 : decode cX9_item 13 = .ok (.iload_n 2, 1) := by decide +kernel
theorem dX9_item_14 : decode cX9_item 14 = .ok (.iconst 0, 1) := by decide +kernel
theorem dX9_item_15 : decode cX9_item 15 = .ok (.bipush 6, 2) := by decide +kernel
theorem dX9_item_17 : decode cX9_item 17 = .ok (.invokestatic 79, 3) := by decide +kernel
theorem dX9_item_20 : decode cX9_item 20 = .ok (.ifCond .ne 5, 3) := by decide +kernel
theorem dX9_item_23 : decode cX9_item 23 = .ok (.iconst (-1), 1) := by decide +kernel
theorem dX9_item_24 : decode cX9_item 24 = .ok (.ireturn, 1) := by decide +kernel
theorem dX9_item_25 : decode cX9_item 25 = .ok (.iload_n 2, 1) := by decide +kernel
theorem dX9_item_26 : decode cX9_item 26 = .ok (.iconst 3, 1) := by decide +kernel
theorem dX9_item_27 : decode cX9_item 27 = .ok (.if_icmp .ge 41, 3) := by decide +kernel
theorem dX9_item_30 : decode cX9_item 30 = .ok (.iload_n 2, 1) := by decide +kernel
theorem dX9_item_31 : decode cX9_item 31 = .ok (.ifCond .ne 15, 3) := by decide +kernel
theorem dX9_item_34 : decode cX9_item 34 = .ok (.aload_n 0, 1) := by decide +kernel
theorem dX9_item_35 : decode cX9_item 35 = .ok (.getfield 16, 3) := by decide +kernel
theorem dX9_item_38 : decode cX9_item 38 = .ok (.bipush 12, 2) := by decide +kernel
theorem dX9_item_40 : decode cX9_item 40 = .ok (.iload_n 1, 1) := by decide +kernel
theorem dX9_item_41 : decode cX9_item 41 = .ok (.iadd, 1) := by decide +kernel
theorem dX9_item_42 : decode cX9_item 42 = .ok (.iaload, 1) := by decide +kernel
theorem dX9_item_43 : decode cX9_item 43 = .ok (.goto 24, 3) := by decide +kernel
theorem dX9_item_46 : decode cX9_item 46 = .ok (.iload_n 2, 1) := by decide +kernel
theorem dX9_item_47 : decode cX9_item 47 = .ok (.iconst 1, 1) := by decide +kernel
theorem dX9_item_48 : decode cX9_item 48 = .ok (.if_icmp .ne 14, 3) := by decide +kernel
theorem dX9_item_51 : decode cX9_item 51 = .ok (.aload_n 0, 1) := by decide +kernel
theorem dX9_item_52 : decode cX9_item 52 = .ok (.getfield 16, 3) := by decide +kernel
theorem dX9_item_55 : decode cX9_item 55 = .ok (.iconst 0, 1) := by decide +kernel
theorem dX9_item_56 : decode cX9_item 56 = .ok (.iload_n 1, 1) := by decide +kernel
theorem dX9_item_57 : decode cX9_item 57 = .ok (.iadd, 1) := by decide +kernel
theorem dX9_item_58 : decode cX9_item 58 = .ok (.iaload, 1) := by decide +kernel
theorem dX9_item_59 : decode cX9_item 59 = .ok (.goto 8, 3) := by decide +kernel
theorem dX9_item_62 : decode cX9_item 62 = .ok (.aload_n 0, 1) := by decide +kernel
theorem dX9_item_63 : decode cX9_item 63 = .ok (.iload_n 1, 1) := by decide +kernel
theorem dX9_item_64 : decode cX9_item 64 = .ok (.invokevirtual 188, 3) := by decide +kernel
theorem dX9_item_67 : decode cX9_item 67 = .ok (.ireturn, 1) := by decide +kernel
theorem dX9_item_68 : decode cX9_item 68 = .ok (.iload_n 2, 1) := by decide +kernel
theorem dX9_item_69 : decode cX9_item 69 = .ok (.iconst 5, 1) := by decide +kernel
theorem dX9_item_70 : decode cX9_item 70 = .ok (.if_icmp .ge 35, 3) := by decide +kernel
theorem dX9_item_73 : decode cX9_item 73 = .ok (.iload_n 2, 1) := by decide +kernel
theorem dX9_item_74 : decode cX9_item 74 = .ok (.iconst 3, 1) := by decide +kernel
theorem dX9_item_75 : decode cX9_item 75 = .ok (.if_icmp .ne 14, 3) := by decide +kernel
theorem dX9_item_78 : decode cX9_item 78 = .ok (.aload_n 0, 1) := by decide +kernel
theorem dX9_item_79 : decode cX9_item 79 = .ok (.iload_n 1, 1) := by decide +kernel
theorem dX9_item_80 : decode cX9_item 80 = .ok (.invokevirtual 191, 3) := by decide +kernel
theorem dX9_item_83 : decode cX9_item 83 = .ok (.invokestatic 194, 3) := by decide +kernel
theorem dX9_item_86 : decode cX9_item 86 = .ok (.goto 18, 3) := by decide +kernel
theorem dX9_item_89 : decode cX9_item 89 = .ok (.aload_n 0, 1) := by decide +kernel
theorem dX9_item_90 : decode cX9_item 90 = .ok (.getfield 145, 3) := by decide +kernel
theorem dX9_item_93 : decode cX9_item 93 = .ok (.iconst 1, 1) := by decide +kernel
theorem dX9_item_94 : decode cX9_item 94 = .ok (.isub, 1) := by decide +kernel
theorem dX9_item_95 : decode cX9_item 95 = .ok (.aload_n 0, 1) := by decide +kernel
theorem dX9_item_96 : decode cX9_item 96 = .ok (.iload_n 1, 1) := by decide +kernel
theorem dX9_item_97 : decode cX9_item 97 = .ok (.invokevirtual 185, 3) := by decide +kernel
theorem dX9_item_100 : decode cX9_item 100 = .ok (.invokestatic 194, 3) := by decide +kernel
theorem dX9_item_103 : decode cX9_item 103 = .ok (.isub, 1) := by decide +kernel
theorem dX9_item_104 : decode cX9_item 104 = .ok (.ireturn, 1) := by decide +kernel
theorem dX9_item_105 : decode cX9_item 105 = .ok (.iload_n 2, 1) := by decide +kernel
theorem dX9_item_106 : decode cX9_item 106 = .ok (.iconst 5, 1) := by decide +kernel
theorem dX9_item_107 : decode cX9_item 107 = .ok (.if_icmp .ne 11, 3) := by decide +kernel
theorem dX9_item_110 : decode cX9_item 110 = .ok (.aload_n 0, 1) := by decide +kernel
theorem dX9_item_111 : decode cX9_item 111 = .ok (.iload_n 1, 1) := by decide +kernel
theorem dX9_item_112 : decode cX9_item 112 = .ok (.invokevirtual 185, 3) := by decide +kernel
theorem dX9_item_115 : decode cX9_item 115 = .ok (.goto 8, 3) := by decide +kernel
theorem dX9_item_118 : decode cX9_item 118 = .ok (.aload_n 0, 1) := by decide +kernel
theorem dX9_item_119 : decode cX9_item 119 = .ok (.iload_n 1, 1) := by decide +kernel
theorem dX9_item_120 : decode cX9_item 120 = .ok (.invokevirtual 191, 3) := by decide +kernel
theorem dX9_item_123 : decode cX9_item 123 = .ok (.ireturn, 1) := by decide +kernel
set_option maxRecDepth 20000 in
theorem ggX9_at_X9_isItem : GoodIn wsX9_at wsX9_isItem := goodIn_r _ [8, 3, 9, 10, 7, 11, 15, 16, 17, 18, 19, 20, 21, 22, 23, 24, 25, 26, 27, 28, 29, 30, 31, 32, 33, 34, 35, 36, 37, 38, 39, 40, 41, 42, 43, 44, 45, 46, 47, 48, 49, 50] (by decide +kernel) (by decide +kernel)
set_option maxRecDepth 20000 in
theorem gX9_at_X9_isItem : GoodIn wsX9_at (wsV RX9 161 RX9 yX9_isItem wsX9_isItem) := goodIn_app (goodIn_of _ (by decide +kernel)) ggX9_at_X9_isItem
set_option maxRecDepth 20000 in
theorem ggX9_at_X9_itemAt : GoodIn wsX9_at wsX9_itemAt := goodIn_r _ [14] (by decide +kernel) (by decide +kernel)
set_option maxRecDepth 20000 in
theorem gX9_at_X9_itemAt : GoodIn wsX9_at (va_wsS RX9 170 yX9_itemAt wsX9_itemAt) := goodIn_app (goodIn_of _ (by decide +kernel)) ggX9_at_X9_itemAt
theorem dX9_at_0 : decode cX9_at 0 = .ok (.aload_n 0, 1) := by decide +kernel
theorem dX9_at_1 : decode cX9_at 1 = .ok (.iconst 0, 1) := by decide +kernel
theorem dX9_at_2 : decode cX9_at 2 = .ok (.putfield 75, 3) := by decide +kernel
theorem dX9_at_5 : decode cX9_at 5 = .ok (.aload_n 0, 1) := by decide +kernel
theorem dX9_at_6 : decode cX9_at 6 = .ok (.iload_n 1, 1) := by decide +kernel
theorem dX9_at_7 : decode cX9_at 7 = .ok (.invokevirtual 161, 3) := by decide +kernel
theorem dX9_at_10 : decode cX9_at 10 = .ok (.ifCond .eq 18, 3) := by decide +kernel
theorem dX9_at_13 : decode cX9_at 13 = .ok (.aload_n 0, 1) := by decide +kernel
theorem dX9_at_14 : decode cX9_at 14 = .ok (.getfield 16, 3) := by decide +kernel
theorem dX9_at_17 : decode cX9_at 17 = .ok (.aload_n 0, 1) := by decide +kernel
theorem dX9_at_18 : decode cX9_at 18 = .ok (.getfield 145, 3) := by decide +kernel
theorem dX9_at_21 : decode cX9_at 21 = .ok (.iload_n 1, 1) := by decide +kernel
theorem dX9_at_22 : decode cX9_at 22 = .ok (.invokestatic 170, 3) := by decide +kernel
theorem dX9_at_25 : decode cX9_at 25 = .ok (.goto 4, 3) := by decide +kernel
theorem dX9_at_28 : decode cX9_at 28 = .ok (.iconst (-1), 1) := by decide +kernel
theorem dX9_at_29 : decode cX9_at 29 = .ok (.ireturn, 1) := by decide +kernel
set_option maxRecDepth 20000 in
theorem ggX9_arcs_X9_ones : GoodIn wsX9_arcs wsX9_ones := goodIn_r _ [6] (by decide +kernel) (by decide +kernel)
set_option maxRecDepth 20000 in
theorem gX9_arcs_X9_ones : GoodIn wsX9_arcs (va_wsS RX9 194 yX9_ones wsX9_ones) := goodIn_app (goodIn_of _ (by decide +kernel)) ggX9_arcs_X9_ones
theorem dX9_arcs_0 : decode cX9_arcs 0 = .ok (.iconst 0, 1) := by decide +kernel
theorem dX9_arcs_1 : decode cX9_arcs 1 = .ok (.istore_n 1, 1) := by decide +kernel
theorem dX9_arcs_2 : decode cX9_arcs 2 = .ok (.iconst 0, 1) := by decide +kernel
theorem dX9_arcs_3 : decode cX9_arcs 3 = .ok (.istore_n 2, 1) := by decide +kernel
theorem dX9_arcs_4 : decode cX9_arcs 4 = .ok (.iload_n 2, 1) := by decide +kernel
theorem dX9_arcs_5 : decode cX9_arcs 5 = .ok (.aload_n 0, 1) := by decide +kernel
theorem dX9_arcs_6 : decode cX9_arcs 6 = .ok (.getfield 145, 3) := by decide +kernel
theorem dX9_arcs_9 : decode cX9_arcs 9 = .ok (.if_icmp .ge 23, 3) := by decide +kernel
theorem dX9_arcs_12 : decode cX9_arcs 12 = .ok (.iload_n 1, 1) := by decide +kernel
theorem dX9_arcs_13 : decode cX9_arcs 13 = .ok (.aload_n 0, 1) := by decide +kernel
theorem dX9_arcs_14 : decode cX9_arcs 14 = .ok (.getfield 16, 3) := by decide +kernel
theorem dX9_arcs_17 : decode cX9_arcs 17 = .ok (.iconst 0, 1) := by decide +kernel
theorem dX9_arcs_18 : decode cX9_arcs 18 = .ok (.iload_n 2, 1) := by decide +kernel
theorem dX9_arcs_19 : decode cX9_arcs 19 = .ok (.iadd, 1) := by decide +kernel
theorem dX9_arcs_20 : decode cX9_arcs 20 = .ok (.iaload, 1) := by decide +kernel
theorem dX9_arcs_21 : decode cX9_arcs 21 = .ok (.invokestatic 194, 3) := by decide +kernel
theorem dX9_arcs_24 : decode cX9_arcs 24 = .ok (.iadd, 1) := by decide +kernel
theorem dX9_arcs_25 : decode cX9_arcs 25 = .ok (.istore_n 1, 1) := by decide +kernel
theorem dX9_arcs_26 : decode cX9_arcs 26 = .ok (.iinc 2 1, 3) := by decide +kernel
theorem dX9_arcs_29 : decode cX9_arcs 29 = .ok (.goto (-25), 3) := by decide +kernel
theorem dX9_arcs_32 : decode cX9_arcs 32 = .ok (.iload_n 1, 1) := by decide +kernel
theorem dX9_arcs_33 : decode cX9_arcs 33 = .ok (.ireturn, 1) := by decide +kernel
set_option maxRecDepth 20000 in
theorem ggX9_free_X9_has : GoodIn wsX9_free wsX9_has := goodIn_r _ [6] (by decide +kernel) (by decide +kernel)
set_option maxRecDepth 20000 in
theorem gX9_free_X9_has : GoodIn wsX9_free (va_wsS RX9 119 yX9_has wsX9_has) := goodIn_app (goodIn_of _ (by decide +kernel)) ggX9_free_X9_has
theorem dX9_free_0 : decode cX9_free 0 = .ok (.iconst 0, 1) := by decide +kernel
theorem dX9_free_1 : decode cX9_free 1 = .ok (.istore_n 1, 1) := by decide +kernel
theorem dX9_free_2 : decode cX9_free 2 = .ok (.iconst 0, 1) := by decide +kernel
theorem dX9_free_3 : decode cX9_free 3 = .ok (.istore_n 2, 1) := by decide +kernel
theorem dX9_free_4 : decode cX9_free 4 = .ok (.iload_n 2, 1) := by decide +kernel
theorem dX9_free_5 : decode cX9_free 5 = .ok (.aload_n 0, 1) := by decide +kernel
theorem dX9_free_6 : decode cX9_free 6 = .ok (.getfield 145, 3) := by decide +kernel
theorem dX9_free_9 : decode cX9_free 9 = .ok (.if_icmp .ge 69, 3) := by decide +kernel
theorem dX9_free_12 : decode cX9_free 12 = .ok (.iconst 0, 1) := by decide +kernel
theorem dX9_free_13 : decode cX9_free 13 = .ok (.istore_n 3, 1) := by decide +kernel
theorem dX9_free_14 : decode cX9_free 14 = .ok (.iload_n 3, 1) := by decide +kernel
theorem dX9_free_15 : decode cX9_free 15 = .ok (.aload_n 0, 1) := by decide +kernel
theorem dX9_free_16 : decode cX9_free 16 = .ok (.getfield 145, 3) := by decide +kernel
theorem dX9_free_19 : decode cX9_free 19 = .ok (.if_icmp .ge 53, 3) := by decide +kernel
theorem dX9_free_22 : decode cX9_free 22 = .ok (.iload_n 1, 1) := by decide +kernel
theorem dX9_free_23 : decode cX9_free 23 = .ok (.aload_n 0, 1) := by decide +kernel
theorem dX9_free_24 : decode cX9_free 24 = .ok (.getfield 16, 3) := by decide +kernel
theorem dX9_free_27 : decode cX9_free 27 = .ok (.bipush 12, 2) := by decide +kernel
theorem dX9_free_29 : decode cX9_free 29 = .ok (.iload_n 2, 1) := by decide +kernel
theorem dX9_free_30 : decode cX9_free 30 = .ok (.iadd, 1) := by decide +kernel
theorem dX9_free_31 : decode cX9_free 31 = .ok (.iaload, 1) := by decide +kernel
theorem dX9_free_32 : decode cX9_free 32 = .ok (.aload_n 0, 1) := by decide +kernel
theorem dX9_free_33 : decode cX9_free 33 = .ok (.getfield 16, 3) := by decide +kernel
theorem dX9_free_36 : decode cX9_free 36 = .ok (.bipush 12, 2) := by decide +kernel
theorem dX9_free_38 : decode cX9_free 38 = .ok (.iload_n 3, 1) := by decide +kernel
theorem dX9_free_39 : decode cX9_free 39 = .ok (.iadd, 1) := by decide +kernel
theorem dX9_free_40 : decode cX9_free 40 = .ok (.iaload, 1) := by decide +kernel
theorem dX9_free_41 : decode cX9_free 41 = .ok (.if_icmp .ge 22, 3) := by decide +kernel
theorem dX9_free_44 : decode cX9_free 44 = .ok (.aload_n 0, 1) := by decide +kernel
theorem dX9_free_45 : decode cX9_free 45 = .ok (.getfield 16, 3) := by decide +kernel
theorem dX9_free_48 : decode cX9_free 48 = .ok (.iconst 0, 1) := by decide +kernel
theorem dX9_free_49 : decode cX9_free 49 = .ok (.iload_n 2, 1) := by decide +kernel
theorem dX9_free_50 : decode cX9_free 50 = .ok (.iadd, 1) := by decide +kernel
theorem dX9_free_51 : decode cX9_free 51 = .ok (.iaload, 1) := by decide +kernel
theorem dX9_free_52 : decode cX9_free 52 = .ok (.iload_n 3, 1) := by decide +kernel
theorem dX9_free_53 : decode cX9_free 53 = .ok (.invokestatic 119, 3) := by decide +kernel
theorem dX9_free_56 : decode cX9_free 56 = .ok (.ifCond .ne 7, 3) := by decide +kernel
theorem dX9_free_59 : decode cX9_free 59 = .ok (.iconst 1, 1) := by decide +kernel
theorem dX9_free_60 : decode cX9_free 60 = .ok (.goto 4, 3) := by decide +kernel
theorem dX9_free_63 : decode cX9_free 63 = .ok (.iconst 0, 1) := by decide +kernel
theorem dX9_free_64 : decode cX9_free 64 = .ok (.iadd, 1) := by decide +kernel
theorem dX9_free_65 : decode cX9_free 65 = .ok (.istore_n 1, 1) := by decide +kernel
theorem dX9_free_66 : decode cX9_free 66 = .ok (.iinc 3 1, 3) := by decide +kernel
theorem dX9_free_69 : decode cX9_free 69 = .ok (.goto (-55), 3) := by decide +kernel
theorem dX9_free_72 : decode cX9_free 72 = .ok (.iinc 2 1, 3) := by decide +kernel
theorem dX9_free_75 : decode cX9_free 75 = .ok (.goto (-71), 3) := by decide +kernel
theorem dX9_free_78 : decode cX9_free 78 = .ok (.iload_n 1, 1) := by decide +kernel
theorem dX9_free_79 : decode cX9_free 79 = .ok (.ireturn, 1) := by decide +kernel
set_option maxRecDepth 20000 in
theorem ggX9_most_X9_has : GoodIn wsX9_most wsX9_has := goodIn_r _ [7] (by decide +kernel) (by decide +kernel)
set_option maxRecDepth 20000 in
theorem gX9_most_X9_has : GoodIn wsX9_most (va_wsS RX9 119 yX9_has wsX9_has) := goodIn_app (goodIn_of _ (by decide +kernel)) ggX9_most_X9_has
set_option maxRecDepth 20000 in
theorem ggX9_most_X9_movedBy : GoodIn wsX9_most wsX9_movedBy := goodIn_r _ [11, 2, 1, 3, 12, 13, 14, 15, 16, 6, 17, 18, 19, 20, 21, 4, 5, 7, 22, 23, 24, 25, 26, 27, 28, 29, 30, 31, 32, 33, 34, 35, 36, 37, 41, 42, 43, 44, 45, 46, 47, 48, 49, 50, 51, 52, 53, 54, 55, 56, 57, 58, 59, 60, 61, 62, 63, 64, 65, 66, 67, 68, 69, 70, 71, 72, 73, 74, 75, 76] (by decide +kernel) (by decide +kernel)
set_option maxRecDepth 20000 in
theorem gX9_most_X9_movedBy : GoodIn wsX9_most (wsV RX9 197 RX9 yX9_movedBy wsX9_movedBy) := goodIn_app (goodIn_of _ (by decide +kernel)) ggX9_most_X9_movedBy
set_option maxRecDepth 20000 in
theorem ggX9_most_X9_ones : GoodIn wsX9_most wsX9_ones := goodIn_r _ [40] (by decide +kernel) (by decide +kernel)
set_option maxRecDepth 20000 in
theorem gX9_most_X9_ones : GoodIn wsX9_most (va_wsS RX9 194 yX9_ones wsX9_ones) := goodIn_app (goodIn_of _ (by decide +kernel)) ggX9_most_X9_ones
theorem dX9_most_0 : decode cX9_most 0 = .ok (.bipush (-9), 2) := by decide +kernel
theorem dX9_most_2 : decode cX9_most 2 = .ok (.istore_n 1, 1) := by decide +kernel
theorem dX9_most_3 : decode cX9_most 3 = .ok (.iconst (-1), 1) := by decide +kernel
theorem dX9_most_4 : decode cX9_most 4 = .ok (.istore_n 2, 1) := by decide +kernel
theorem dX9_most_5 : decode cX9_most 5 = .ok (.iconst 0, 1) := by decide +kernel
theorem dX9_most_6 : decode cX9_most 6 = .ok (.istore_n 3, 1) := by decide +kernel
theorem dX9_most_7 : decode cX9_most 7 = .ok (.iload_n 3, 1) := by decide +kernel
theorem dX9_most_8 : decode cX9_most 8 = .ok (.aload_n 0, 1) := by decide +kernel
theorem dX9_most_9 : decode cX9_most 9 = .ok (.getfield 145, 3) := by decide +kernel
theorem dX9_most_12 : decode cX9_most 12 = .ok (.if_icmp .ge 85, 3) := by decide +kernel
theorem dX9_most_15 : decode cX9_most 15 = .ok (.iconst 0, 1) := by decide +kernel
theorem dX9_most_16 : decode cX9_most 16 = .ok (.istore 4, 2) := by decide +kernel
theorem dX9_most_18 : decode cX9_most 18 = .ok (.iload 4, 2) := by decide +kernel
theorem dX9_most_20 : decode cX9_most 20 = .ok (.aload_n 0, 1) := by decide +kernel
theorem dX9_most_21 : decode cX9_most 21 = .ok (.getfield 145, 3) := by decide +kernel
theorem dX9_most_24 : decode cX9_most 24 = .ok (.if_icmp .ge 67, 3) := by decide +kernel
theorem dX9_most_27 : decode cX9_most 27 = .ok (.iload_n 3, 1) := by decide +kernel
theorem dX9_most_28 : decode cX9_most 28 = .ok (.iload 4, 2) := by decide +kernel
theorem dX9_most_30 : decode cX9_most 30 = .ok (.if_icmp .eq 55, 3) := by decide +kernel
theorem dX9_most_33 : decode cX9_most 33 = .ok (.aload_n 0, 1) := by decide +kernel
theorem dX9_most_34 : decode cX9_most 34 = .ok (.getfield 16, 3) := by decide +kernel
theorem dX9_most_37 : decode cX9_most 37 = .ok (.iconst 0, 1) := by decide +kernel
theorem dX9_most_38 : decode cX9_most 38 = .ok (.iload_n 3, 1) := by decide +kernel
theorem dX9_most_39 : decode cX9_most 39 = .ok (.iadd, 1) := by decide +kernel
theorem dX9_most_40 : decode cX9_most 40 = .ok (.iaload, 1) := by decide +kernel
theorem dX9_most_41 : decode cX9_most 41 = .ok (.iload 4, 2) := by decide +kernel
theorem dX9_most_43 : decode cX9_most 43 = .ok (.invokestatic 119, 3) := by decide +kernel
theorem dX9_most_46 : decode cX9_most 46 = .ok (.ifCond .ne 39, 3) := by decide +kernel
theorem dX9_most_49 : decode cX9_most 49 = .ok (.aload_n 0, 1) := by decide +kernel
theorem dX9_most_50 : decode cX9_most 50 = .ok (.iload_n 3, 1) := by decide +kernel
theorem dX9_most_51 : decode cX9_most 51 = .ok (.iload 4, 2) := by decide +kernel
theorem dX9_most_53 : decode cX9_most 53 = .ok (.invokevirtual 197, 3) := by decide +kernel
theorem dX9_most_56 : decode cX9_most 56 = .ok (.invokestatic 194, 3) := by decide +kernel
theorem dX9_most_59 : decode cX9_most 59 = .ok (.istore 5, 2) := by decide +kernel
theorem dX9_most_61 : decode cX9_most 61 = .ok (.aload_n 0, 1) := by decide +kernel
theorem dX9_most_62 : decode cX9_most 62 = .ok (.getfield 126, 3) := by decide +kernel
theorem dX9_most_65 : decode cX9_most 65 = .ok (.ifCond .ne 20, 3) := by decide +kernel
theorem dX9_most_68 : decode cX9_most 68 = .ok (.iload 5, 2) := by decide +kernel
theorem dX9_most_70 : decode cX9_most 70 = .ok (.iload_n 2, 1) := by decide +kernel
theorem dX9_most_71 : decode cX9_most 71 = .ok (.if_icmp .le 14, 3) := by decide +kernel
theorem dX9_most_74 : decode cX9_most 74 = .ok (.bipush 16, 2) := by decide +kernel
theorem dX9_most_76 : decode cX9_most 76 = .ok (.iload_n 3, 1) := by decide +kernel
theorem dX9_most_77 : decode cX9_most 77 = .ok (.imul, 1) := by decide +kernel
theorem dX9_most_78 : decode cX9_most 78 = .ok (.iload 4, 2) := by decide +kernel
theorem dX9_most_80 : decode cX9_most 80 = .ok (.iadd, 1) := by decide +kernel
theorem dX9_most_81 : decode cX9_most 81 = .ok (.istore_n 1, 1) := by decide +kernel
theorem dX9_most_82 : decode cX9_most 82 = .ok (.iload 5, 2) := by decide +kernel
theorem dX9_most_84 : decode cX9_most 84 = .ok (.istore_n 2, 1) := by decide +kernel
theorem dX9_most_85 : decode cX9_most 85 = .ok (.iinc 4 1, 3) := by decide +kernel
theorem dX9_most_88 : decode cX9_most 88 = .ok (.goto (-70), 3) := by decide +kernel
theorem dX9_most_91 : decode cX9_most 91 = .ok (.iinc 3 1, 3) := by decide +kernel
theorem dX9_most_94 : decode cX9_most 94 = .ok (.goto (-87), 3) := by decide +kernel
theorem dX9_most_97 : decode cX9_most 97 = .ok (.iload_n 1, 1) := by decide +kernel
theorem dX9_most_98 : decode cX9_most 98 = .ok (.ireturn, 1) := by decide +kernel
set_option maxRecDepth 20000 in
theorem ggX9_chain_X9_itemAt : GoodIn wsX9_chain wsX9_itemAt := goodIn_r _ [7] (by decide +kernel) (by decide +kernel)
set_option maxRecDepth 20000 in
theorem gX9_chain_X9_itemAt : GoodIn wsX9_chain (va_wsS RX9 170 yX9_itemAt wsX9_itemAt) := goodIn_app (goodIn_of _ (by decide +kernel)) ggX9_chain_X9_itemAt
set_option maxRecDepth 20000 in
theorem ggX9_chain_X9_has : GoodIn wsX9_chain wsX9_has := goodIn_r _ [10] (by decide +kernel) (by decide +kernel)
set_option maxRecDepth 20000 in
theorem gX9_chain_X9_has : GoodIn wsX9_chain (va_wsS RX9 119 yX9_has wsX9_has) := goodIn_app (goodIn_of _ (by decide +kernel)) ggX9_chain_X9_has
theorem dX9_chain_0 : decode cX9_chain 0 = .ok (.iconst 0, 1) := by decide +kernel
