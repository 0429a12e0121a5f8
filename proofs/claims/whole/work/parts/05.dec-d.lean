theorem dX9_chain_1 : decode cX9_chain 1 = .ok (.istore_n 1, 1) := by decide +kernel
theorem dX9_chain_2 : decode cX9_chain 2 = .ok (.iconst 0, 1) := by decide +kernel
theorem dX9_chain_3 : decode cX9_chain 3 = .ok (.istore_n 2, 1) := by decide +kernel
theorem dX9_chain_4 : decode cX9_chain 4 = .ok (.iload_n 2, 1) := by decide +kernel
theorem dX9_chain_5 : decode cX9_chain 5 = .ok (.aload_n 0, 1) := by decide +kernel
theorem dX9_chain_6 : decode cX9_chain 6 = .ok (.getfield 145, 3) := by decide +kernel
theorem dX9_chain_9 : decode cX9_chain 9 = .ok (.if_icmp .ge 16, 3) := by decide +kernel
theorem dX9_chain_12 : decode cX9_chain 12 = .ok (.aload_n 0, 1) := by decide +kernel
theorem dX9_chain_13 : decode cX9_chain 13 = .ok (.getfield 50, 3) := by decide +kernel
theorem dX9_chain_16 : decode cX9_chain 16 = .ok (.iload_n 2, 1) := by decide +kernel
theorem dX9_chain_17 : decode cX9_chain 17 = .ok (.iconst 1, 1) := by decide +kernel
theorem dX9_chain_18 : decode cX9_chain 18 = .ok (.iastore, 1) := by decide +kernel
theorem dX9_chain_19 : decode cX9_chain 19 = .ok (.iinc 2 1, 3) := by decide +kernel
theorem dX9_chain_22 : decode cX9_chain 22 = .ok (.goto (-18), 3) := by decide +kernel
theorem dX9_chain_25 : decode cX9_chain 25 = .ok (.aload_n 0, 1) := by decide +kernel
theorem dX9_chain_26 : decode cX9_chain 26 = .ok (.getfield 145, 3) := by decide +kernel
theorem dX9_chain_29 : decode cX9_chain 29 = .ok (.iconst 1, 1) := by decide +kernel
theorem dX9_chain_30 : decode cX9_chain 30 = .ok (.isub, 1) := by decide +kernel
theorem dX9_chain_31 : decode cX9_chain 31 = .ok (.istore_n 2, 1) := by decide +kernel
theorem dX9_chain_32 : decode cX9_chain 32 = .ok (.iload_n 2, 1) := by decide +kernel
theorem dX9_chain_33 : decode cX9_chain 33 = .ok (.ifCond .lt 119, 3) := by decide +kernel
theorem dX9_chain_36 : decode cX9_chain 36 = .ok (.aload_n 0, 1) := by decide +kernel
theorem dX9_chain_37 : decode cX9_chain 37 = .ok (.getfield 16, 3) := by decide +kernel
theorem dX9_chain_40 : decode cX9_chain 40 = .ok (.aload_n 0, 1) := by decide +kernel
theorem dX9_chain_41 : decode cX9_chain 41 = .ok (.getfield 145, 3) := by decide +kernel
theorem dX9_chain_44 : decode cX9_chain 44 = .ok (.iload_n 2, 1) := by decide +kernel
theorem dX9_chain_45 : decode cX9_chain 45 = .ok (.invokestatic 170, 3) := by decide +kernel
theorem dX9_chain_48 : decode cX9_chain 48 = .ok (.istore_n 3, 1) := by decide +kernel
theorem dX9_chain_49 : decode cX9_chain 49 = .ok (.iconst 0, 1) := by decide +kernel
theorem dX9_chain_50 : decode cX9_chain 50 = .ok (.istore 4, 2) := by decide +kernel
theorem dX9_chain_52 : decode cX9_chain 52 = .ok (.iload 4, 2) := by decide +kernel
theorem dX9_chain_54 : decode cX9_chain 54 = .ok (.aload_n 0, 1) := by decide +kernel
theorem dX9_chain_55 : decode cX9_chain 55 = .ok (.getfield 145, 3) := by decide +kernel
theorem dX9_chain_58 : decode cX9_chain 58 = .ok (.if_icmp .ge 67, 3) := by decide +kernel
theorem dX9_chain_61 : decode cX9_chain 61 = .ok (.aload_n 0, 1) := by decide +kernel
theorem dX9_chain_62 : decode cX9_chain 62 = .ok (.getfield 50, 3) := by decide +kernel
theorem dX9_chain_65 : decode cX9_chain 65 = .ok (.iload_n 3, 1) := by decide +kernel
theorem dX9_chain_66 : decode cX9_chain 66 = .ok (.aload_n 0, 1) := by decide +kernel
theorem dX9_chain_67 : decode cX9_chain 67 = .ok (.getfield 16, 3) := by decide +kernel
theorem dX9_chain_70 : decode cX9_chain 70 = .ok (.iconst 0, 1) := by decide +kernel
theorem dX9_chain_71 : decode cX9_chain 71 = .ok (.iload_n 3, 1) := by decide +kernel
theorem dX9_chain_72 : decode cX9_chain 72 = .ok (.iadd, 1) := by decide +kernel
theorem dX9_chain_73 : decode cX9_chain 73 = .ok (.iaload, 1) := by decide +kernel
theorem dX9_chain_74 : decode cX9_chain 74 = .ok (.iload 4, 2) := by decide +kernel
theorem dX9_chain_76 : decode cX9_chain 76 = .ok (.invokestatic 119, 3) := by decide +kernel
theorem dX9_chain_79 : decode cX9_chain 79 = .ok (.ifCond .eq 33, 3) := by decide +kernel
theorem dX9_chain_82 : decode cX9_chain 82 = .ok (.aload_n 0, 1) := by decide +kernel
theorem dX9_chain_83 : decode cX9_chain 83 = .ok (.getfield 50, 3) := by decide +kernel
theorem dX9_chain_86 : decode cX9_chain 86 = .ok (.iload 4, 2) := by decide +kernel
theorem dX9_chain_88 : decode cX9_chain 88 = .ok (.iaload, 1) := by decide +kernel
theorem dX9_chain_89 : decode cX9_chain 89 = .ok (.iconst 1, 1) := by decide +kernel
theorem dX9_chain_90 : decode cX9_chain 90 = .ok (.iadd, 1) := by decide +kernel
theorem dX9_chain_91 : decode cX9_chain 91 = .ok (.aload_n 0, 1) := by decide +kernel
theorem dX9_chain_92 : decode cX9_chain 92 = .ok (.getfield 50, 3) := by decide +kernel
theorem dX9_chain_95 : decode cX9_chain 95 = .ok (.iload_n 3, 1) := by decide +kernel
theorem dX9_chain_96 : decode cX9_chain 96 = .ok (.iaload, 1) := by decide +kernel
theorem dX9_chain_97 : decode cX9_chain 97 = .ok (.if_icmp .le 15, 3) := by decide +kernel
theorem dX9_chain_100 : decode cX9_chain 100 = .ok (.aload_n 0, 1) := by decide +kernel
theorem dX9_chain_101 : decode cX9_chain 101 = .ok (.getfield 50, 3) := by decide +kernel
theorem dX9_chain_104 : decode cX9_chain 104 = .ok (.iload 4, 2) := by decide +kernel
theorem dX9_chain_106 : decode cX9_chain 106 = .ok (.iaload, 1) := by decide +kernel
theorem dX9_chain_107 : decode cX9_chain 107 = .ok (.iconst 1, 1) := by decide +kernel
theorem dX9_chain_108 : decode cX9_chain 108 = .ok (.iadd, 1) := by decide +kernel
theorem dX9_chain_109 : decode cX9_chain 109 = .ok (.goto 9, 3) := by decide +kernel
theorem dX9_chain_112 : decode cX9_chain 112 = .ok (.aload_n 0, 1) := by decide +kernel
theorem dX9_chain_113 : decode cX9_chain 113 = .ok (.getfield 50, 3) := by decide +kernel
theorem dX9_chain_116 : decode cX9_chain 116 = .ok (.iload_n 3, 1) := by decide +kernel
theorem dX9_chain_117 : decode cX9_chain 117 = .ok (.iaload, 1) := by decide +kernel
theorem dX9_chain_118 : decode cX9_chain 118 = .ok (.iastore, 1) := by decide +kernel
theorem dX9_chain_119 : decode cX9_chain 119 = .ok (.iinc 4 1, 3) := by decide +kernel
theorem dX9_chain_122 : decode cX9_chain 122 = .ok (.goto (-70), 3) := by decide +kernel
theorem dX9_chain_125 : decode cX9_chain 125 = .ok (.aload_n 0, 1) := by decide +kernel
theorem dX9_chain_126 : decode cX9_chain 126 = .ok (.getfield 50, 3) := by decide +kernel
theorem dX9_chain_129 : decode cX9_chain 129 = .ok (.iload_n 3, 1) := by decide +kernel
theorem dX9_chain_130 : decode cX9_chain 130 = .ok (.iaload, 1) := by decide +kernel
theorem dX9_chain_131 : decode cX9_chain 131 = .ok (.iload_n 1, 1) := by decide +kernel
theorem dX9_chain_132 : decode cX9_chain 132 = .ok (.if_icmp .le 12, 3) := by decide +kernel
theorem dX9_chain_135 : decode cX9_chain 135 = .ok (.aload_n 0, 1) := by decide +kernel
theorem dX9_chain_136 : decode cX9_chain 136 = .ok (.getfield 50, 3) := by decide +kernel
theorem dX9_chain_139 : decode cX9_chain 139 = .ok (.iload_n 3, 1) := by decide +kernel
theorem dX9_chain_140 : decode cX9_chain 140 = .ok (.iaload, 1) := by decide +kernel
theorem dX9_chain_141 : decode cX9_chain 141 = .ok (.goto 4, 3) := by decide +kernel
theorem dX9_chain_144 : decode cX9_chain 144 = .ok (.iload_n 1, 1) := by decide +kernel
theorem dX9_chain_145 : decode cX9_chain 145 = .ok (.istore_n 1, 1) := by decide +kernel
theorem dX9_chain_146 : decode cX9_chain 146 = .ok (.iinc 2 (-1), 3) := by decide +kernel
theorem dX9_chain_149 : decode cX9_chain 149 = .ok (.goto (-117), 3) := by decide +kernel
theorem dX9_chain_152 : decode cX9_chain 152 = .ok (.iload_n 1, 1) := by decide +kernel
theorem dX9_chain_153 : decode cX9_chain 153 = .ok (.ireturn, 1) := by decide +kernel
set_option maxRecDepth 20000 in
theorem ggX9_isSpare_X9_has : GoodIn wsX9_isSpare wsX9_has := goodIn_r _ [6] (by decide +kernel) (by decide +kernel)
set_option maxRecDepth 20000 in
theorem gX9_isSpare_X9_has : GoodIn wsX9_isSpare (va_wsS RX9 119 yX9_has wsX9_has) := goodIn_app (goodIn_of _ (by decide +kernel)) ggX9_isSpare_X9_has
set_option maxRecDepth 20000 in
theorem ggX9_isSpare_X9_behind : GoodIn wsX9_isSpare wsX9_behind := goodIn_r _ [10, 2, 1, 3, 4, 5, 6, 11, 12, 13, 14, 15, 16, 17, 18, 19, 20, 21, 22, 23, 24, 25, 26, 27, 28, 29, 30, 31, 32, 33, 34, 35, 36, 37, 38, 39, 40, 41, 42, 43, 44, 45, 46] (by decide +kernel) (by decide +kernel)
set_option maxRecDepth 20000 in
theorem gX9_isSpare_X9_behind : GoodIn wsX9_isSpare (wsV RX9 185 RX9 yX9_behind wsX9_behind) := goodIn_app (goodIn_of _ (by decide +kernel)) ggX9_isSpare_X9_behind
theorem dX9_isSpare_0 : decode cX9_isSpare 0 = .ok (.iconst 0, 1) := by decide +kernel
theorem dX9_isSpare_1 : decode cX9_isSpare 1 = .ok (.istore_n 3, 1) := by decide +kernel
theorem dX9_isSpare_2 : decode cX9_isSpare 2 = .ok (.iconst 0, 1) := by decide +kernel
theorem dX9_isSpare_3 : decode cX9_isSpare 3 = .ok (.istore 4, 2) := by decide +kernel
theorem dX9_isSpare_5 : decode cX9_isSpare 5 = .ok (.iload 4, 2) := by decide +kernel
theorem dX9_isSpare_7 : decode cX9_isSpare 7 = .ok (.aload_n 0, 1) := by decide +kernel
theorem dX9_isSpare_8 : decode cX9_isSpare 8 = .ok (.getfield 145, 3) := by decide +kernel
theorem dX9_isSpare_11 : decode cX9_isSpare 11 = .ok (.if_icmp .ge 54, 3) := by decide +kernel
theorem dX9_isSpare_14 : decode cX9_isSpare 14 = .ok (.iload_n 3, 1) := by decide +kernel
theorem dX9_isSpare_15 : decode cX9_isSpare 15 = .ok (.ifCond .ne 38, 3) := by decide +kernel
theorem dX9_isSpare_18 : decode cX9_isSpare 18 = .ok (.iload 4, 2) := by decide +kernel
theorem dX9_isSpare_20 : decode cX9_isSpare 20 = .ok (.iload_n 2, 1) := by decide +kernel
theorem dX9_isSpare_21 : decode cX9_isSpare 21 = .ok (.if_icmp .eq 36, 3) := by decide +kernel
theorem dX9_isSpare_24 : decode cX9_isSpare 24 = .ok (.aload_n 0, 1) := by decide +kernel
theorem dX9_isSpare_25 : decode cX9_isSpare 25 = .ok (.getfield 16, 3) := by decide +kernel
theorem dX9_isSpare_28 : decode cX9_isSpare 28 = .ok (.iconst 0, 1) := by decide +kernel
theorem dX9_isSpare_29 : decode cX9_isSpare 29 = .ok (.iload_n 1, 1) := by decide +kernel
theorem dX9_isSpare_30 : decode cX9_isSpare 30 = .ok (.iadd, 1) := by decide +kernel
theorem dX9_isSpare_31 : decode cX9_isSpare 31 = .ok (.iaload, 1) := by decide +kernel
theorem dX9_isSpare_32 : decode cX9_isSpare 32 = .ok (.iload 4, 2) := by decide +kernel
theorem dX9_isSpare_34 : decode cX9_isSpare 34 = .ok (.invokestatic 119, 3) := by decide +kernel
theorem dX9_isSpare_37 : decode cX9_isSpare 37 = .ok (.ifCond .eq 20, 3) := by decide +kernel
theorem dX9_isSpare_40 : decode cX9_isSpare 40 = .ok (.aload_n 0, 1) := by decide +kernel
theorem dX9_isSpare_41 : decode cX9_isSpare 41 = .ok (.iload 4, 2) := by decide +kernel
theorem dX9_isSpare_43 : decode cX9_isSpare 43 = .ok (.invokevirtual 185, 3) := by decide +kernel
theorem dX9_isSpare_46 : decode cX9_isSpare 46 = .ok (.iload_n 2, 1) := by decide +kernel
theorem dX9_isSpare_47 : decode cX9_isSpare 47 = .ok (.invokestatic 119, 3) := by decide +kernel
theorem dX9_isSpare_50 : decode cX9_isSpare 50 = .ok (.ifCond .eq 7, 3) := by decide +kernel
theorem dX9_isSpare_53 : decode cX9_isSpare 53 = .ok (.iconst 1, 1) := by decide +kernel
theorem dX9_isSpare_54 : decode cX9_isSpare 54 = .ok (.goto 4, 3) := by decide +kernel
theorem dX9_isSpare_57 : decode cX9_isSpare 57 = .ok (.iconst 0, 1) := by decide +kernel
theorem dX9_isSpare_58 : decode cX9_isSpare 58 = .ok (.istore_n 3, 1) := by decide +kernel
theorem dX9_isSpare_59 : decode cX9_isSpare 59 = .ok (.iinc 4 1, 3) := by decide +kernel
theorem dX9_isSpare_62 : decode cX9_isSpare 62 = .ok (.goto (-57), 3) := by decide +kernel
theorem dX9_isSpare_65 : decode cX9_isSpare 65 = .ok (.iload_n 3, 1) := by decide +kernel
theorem dX9_isSpare_66 : decode cX9_isSpare 66 = .ok (.ireturn, 1) := by decide +kernel
set_option maxRecDepth 20000 in
theorem ggX9_spares_X9_has : GoodIn wsX9_spares wsX9_has := goodIn_r _ [6] (by decide +kernel) (by decide +kernel)
set_option maxRecDepth 20000 in
theorem gX9_spares_X9_has : GoodIn wsX9_spares (va_wsS RX9 119 yX9_has wsX9_has) := goodIn_app (goodIn_of _ (by decide +kernel)) ggX9_spares_X9_has
set_option maxRecDepth 20000 in
theorem ggX9_spares_X9_isSpare : GoodIn wsX9_spares wsX9_isSpare := goodIn_r _ [10, 1, 2, 3, 4, 5, 6, 11, 12, 13, 14, 15, 16, 17, 18, 19, 20, 21, 22, 23, 24, 25, 26, 27, 28, 29, 30, 31, 32, 33, 34, 35, 36, 37, 38, 39, 40, 41, 42, 43, 44, 45, 46, 47, 48, 49, 50] (by decide +kernel) (by decide +kernel)
set_option maxRecDepth 20000 in
theorem gX9_spares_X9_isSpare : GoodIn wsX9_spares (wsV RX9 201 RX9 yX9_isSpare wsX9_isSpare) := goodIn_app (goodIn_of _ (by decide +kernel)) ggX9_spares_X9_isSpare
theorem dX9_spares_0 : decode cX9_spares 0 = .ok (.iconst 0, 1) := by decide +kernel
theorem dX9_spares_1 : decode cX9_spares 1 = .ok (.istore_n 1, 1) := by decide +kernel
theorem dX9_spares_2 : decode cX9_spares 2 = .ok (.iconst 0, 1) := by decide +kernel
theorem dX9_spares_3 : decode cX9_spares 3 = .ok (.istore_n 2, 1) := by decide +kernel
theorem dX9_spares_4 : decode cX9_spares 4 = .ok (.iload_n 2, 1) := by decide +kernel
theorem dX9_spares_5 : decode cX9_spares 5 = .ok (.aload_n 0, 1) := by decide +kernel
theorem dX9_spares_6 : decode cX9_spares 6 = .ok (.getfield 145, 3) := by decide +kernel
theorem dX9_spares_9 : decode cX9_spares 9 = .ok (.if_icmp .ge 57, 3) := by decide +kernel
theorem dX9_spares_12 : decode cX9_spares 12 = .ok (.iconst 0, 1) := by decide +kernel
theorem dX9_spares_13 : decode cX9_spares 13 = .ok (.istore_n 3, 1) := by decide +kernel
theorem dX9_spares_14 : decode cX9_spares 14 = .ok (.iload_n 3, 1) := by decide +kernel
theorem dX9_spares_15 : decode cX9_spares 15 = .ok (.aload_n 0, 1) := by decide +kernel
theorem dX9_spares_16 : decode cX9_spares 16 = .ok (.getfield 145, 3) := by decide +kernel
theorem dX9_spares_19 : decode cX9_spares 19 = .ok (.if_icmp .ge 41, 3) := by decide +kernel
theorem dX9_spares_22 : decode cX9_spares 22 = .ok (.iload_n 1, 1) := by decide +kernel
theorem dX9_spares_23 : decode cX9_spares 23 = .ok (.aload_n 0, 1) := by decide +kernel
theorem dX9_spares_24 : decode cX9_spares 24 = .ok (.getfield 16, 3) := by decide +kernel
theorem dX9_spares_27 : decode cX9_spares 27 = .ok (.iconst 0, 1) := by decide +kernel
theorem dX9_spares_28 : decode cX9_spares 28 = .ok (.iload_n 2, 1) := by decide +kernel
theorem dX9_spares_29 : decode cX9_spares 29 = .ok (.iadd, 1) := by decide +kernel
theorem dX9_spares_30 : decode cX9_spares 30 = .ok (.iaload, 1) := by decide +kernel
theorem dX9_spares_31 : decode cX9_spares 31 = .ok (.iload_n 3, 1) := by decide +kernel
theorem dX9_spares_32 : decode cX9_spares 32 = .ok (.invokestatic 119, 3) := by decide +kernel
theorem dX9_spares_35 : decode cX9_spares 35 = .ok (.ifCond .eq 16, 3) := by decide +kernel
theorem dX9_spares_38 : decode cX9_spares 38 = .ok (.aload_n 0, 1) := by decide +kernel
theorem dX9_spares_39 : decode cX9_spares 39 = .ok (.iload_n 2, 1) := by decide +kernel
theorem dX9_spares_40 : decode cX9_spares 40 = .ok (.iload_n 3, 1) := by decide +kernel
theorem dX9_spares_41 : decode cX9_spares 41 = .ok (.invokevirtual 201, 3) := by decide +kernel
theorem dX9_spares_44 : decode cX9_spares 44 = .ok (.ifCond .eq 7, 3) := by decide +kernel
theorem dX9_spares_47 : decode cX9_spares 47 = .ok (.iconst 1, 1) := by decide +kernel
theorem dX9_spares_48 : decode cX9_spares 48 = .ok (.goto 4, 3) := by decide +kernel
theorem dX9_spares_51 : decode cX9_spares 51 = .ok (.iconst 0, 1) := by decide +kernel
theorem dX9_spares_52 : decode cX9_spares 52 = .ok (.iadd, 1) := by decide +kernel
theorem dX9_spares_53 : decode cX9_spares 53 = .ok (.istore_n 1, 1) := by decide +kernel
theorem dX9_spares_54 : decode cX9_spares 54 = .ok (.iinc 3 1, 3) := by decide +kernel
theorem dX9_spares_57 : decode cX9_spares 57 = .ok (.goto (-43), 3) := by decide +kernel
theorem dX9_spares_60 : decode cX9_spares 60 = .ok (.iinc 2 1, 3) := by decide +kernel
theorem dX9_spares_63 : decode cX9_spares 63 = .ok (.goto (-59), 3) := by decide +kernel
theorem dX9_spares_66 : decode cX9_spares 66 = .ok (.iload_n 1, 1) := by decide +kernel
theorem dX9_spares_67 : decode cX9_spares 67 = .ok (.ireturn, 1) := by decide +kernel
set_option maxRecDepth 20000 in
theorem ggX9_now_X9_in : GoodIn wsX9_now wsX9_in := goodIn_r _ [6] (by decide +kernel) (by decide +kernel)
set_option maxRecDepth 20000 in
theorem gX9_now_X9_in : GoodIn wsX9_now (va_wsS RX9 79 yX9_in wsX9_in) := goodIn_app (goodIn_of _ (by decide +kernel)) ggX9_now_X9_in
set_option maxRecDepth 20000 in
theorem ggX9_now_X9_arcs : GoodIn wsX9_now wsX9_arcs := goodIn_r _ [10, 11, 12, 13, 14, 5, 15, 72, 73, 74, 75, 76, 77, 78, 79, 80, 81, 82, 83, 84, 85, 86, 87, 88, 89, 90, 91, 92, 93, 94, 95, 96, 97, 98, 99, 100, 101, 102, 103, 104, 105, 106, 107] (by decide +kernel) (by decide +kernel)
set_option maxRecDepth 20000 in
theorem gX9_now_X9_arcs : GoodIn wsX9_now (wsV RX9 204 RX9 yX9_arcs wsX9_arcs) := goodIn_app (goodIn_of _ (by decide +kernel)) ggX9_now_X9_arcs
set_option maxRecDepth 20000 in
theorem ggX9_now_X9_free : GoodIn wsX9_now wsX9_free := goodIn_r _ [19, 11, 12, 20, 21, 5, 22, 72, 73, 74, 75, 76, 77, 78, 79, 80, 81, 82, 83, 84, 85, 86, 87, 88, 89, 90, 91, 92, 93, 94, 95, 96, 97, 98, 99, 100, 101, 102, 103, 104, 105, 106, 107] (by decide +kernel) (by decide +kernel)
set_option maxRecDepth 20000 in
theorem gX9_now_X9_free : GoodIn wsX9_now (wsV RX9 208 RX9 yX9_free wsX9_free) := goodIn_app (goodIn_of _ (by decide +kernel)) ggX9_now_X9_free
set_option maxRecDepth 20000 in
theorem ggX9_now_X9_most : GoodIn wsX9_now wsX9_most := goodIn_r _ [26, 11, 12, 27, 20, 21, 5, 22, 28, 29, 30, 31, 32, 33, 34, 35, 36, 37, 38, 3, 4, 6, 39, 40, 41, 42, 43, 44, 45, 46, 47, 48, 49, 50, 51, 52, 53, 54, 13, 14, 15, 72, 73, 74, 75, 76, 77, 78, 79, 80, 81, 82, 83, 84, 85, 86, 87, 88, 89, 90, 91, 92, 93, 94, 95, 96, 97, 98, 99, 100, 101, 102, 103, 104, 105, 106, 107] (by decide +kernel) (by decide +kernel)
set_option maxRecDepth 20000 in
theorem gX9_now_X9_most : GoodIn wsX9_now (wsV RX9 211 RX9 yX9_most wsX9_most) := goodIn_app (goodIn_of _ (by decide +kernel)) ggX9_now_X9_most
set_option maxRecDepth 20000 in
theorem ggX9_now_X9_chain : GoodIn wsX9_now wsX9_chain := goodIn_r _ [58, 11, 59, 12, 48, 49, 5, 50, 20, 21, 22, 72, 73, 74, 75, 76, 77, 78, 79, 80, 81, 82, 83, 84, 85, 86, 87, 88, 89, 90, 91, 92, 93, 94, 95, 96, 97, 98, 99, 100, 101, 102, 103, 104, 105, 106, 107] (by decide +kernel) (by decide +kernel)
set_option maxRecDepth 20000 in
theorem gX9_now_X9_chain : GoodIn wsX9_now (wsV RX9 214 RX9 yX9_chain wsX9_chain) := goodIn_app (goodIn_of _ (by decide +kernel)) ggX9_now_X9_chain
set_option maxRecDepth 20000 in
theorem ggX9_now_X9_spares : GoodIn wsX9_now wsX9_spares := goodIn_r _ [63, 11, 12, 20, 21, 5, 22, 64, 65, 66, 67, 68, 69, 70, 71, 72, 73, 74, 75, 76, 77, 78, 79, 80, 81, 82, 83, 84, 85, 86, 87, 88, 89, 90, 91, 92, 93, 94, 95, 96, 97, 98, 99, 100, 101, 102, 103, 104, 105, 106, 107] (by decide +kernel) (by decide +kernel)
set_option maxRecDepth 20000 in
theorem gX9_now_X9_spares : GoodIn wsX9_now (wsV RX9 217 RX9 yX9_spares wsX9_spares) := goodIn_app (goodIn_of _ (by decide +kernel)) ggX9_now_X9_spares
theorem dX9_now_0 : decode cX9_now 0 = .ok (.aload_n 0, 1) := by decide +kernel
theorem dX9_now_1 : decode cX9_now 1 = .ok (.iconst 0, 1) := by decide +kernel
theorem dX9_now_2 : decode cX9_now 2 = .ok (.putfield 75, 3) := by decide +kernel
theorem dX9_now_5 : decode cX9_now 5 = .ok (.iload_n 1, 1) := by decide +kernel
theorem dX9_now_6 : decode cX9_now 6 = .ok (.iconst 0, 1) := by decide +kernel
theorem dX9_now_7 : decode cX9_now 7 = .ok (.iconst 5, 1) := by decide +kernel
theorem dX9_now_8 : decode cX9_now 8 = .ok (.invokestatic 79, 3) := by decide +kernel
theorem dX9_now_11 : decode cX9_now 11 = .ok (.ifCond .ne 5, 3) := by decide +kernel
theorem dX9_now_14 : decode cX9_now 14 = .ok (.iconst (-1), 1) := by decide +kernel
theorem dX9_now_15 : decode cX9_now 15 = .ok (.ireturn, 1) := by decide +kernel
theorem dX9_now_16 : decode cX9_now 16 = .ok (.iload_n 1, 1) := by decide +kernel
theorem dX9_now_17 : decode cX9_now 17 = .ok (.iconst 3, 1) := by decide +kernel
theorem dX9_now_18 : decode cX9_now 18 = .ok (.if_icmp .ge 31, 3) := by decide +kernel
theorem dX9_now_21 : decode cX9_now 21 = .ok (.iload_n 1, 1) := by decide +kernel
theorem dX9_now_22 : decode cX9_now 22 = .ok (.ifCond .ne 10, 3) := by decide +kernel
theorem dX9_now_25 : decode cX9_now 25 = .ok (.aload_n 0, 1) := by decide +kernel
theorem dX9_now_26 : decode cX9_now 26 = .ok (.invokevirtual 204, 3) := by decide +kernel
theorem dX9_now_29 : decode cX9_now 29 = .ok (.goto 19, 3) := by decide +kernel
theorem dX9_now_32 : decode cX9_now 32 = .ok (.iload_n 1, 1) := by decide +kernel
theorem dX9_now_33 : decode cX9_now 33 = .ok (.iconst 1, 1) := by decide +kernel
theorem dX9_now_34 : decode cX9_now 34 = .ok (.if_icmp .ne 10, 3) := by decide +kernel
theorem dX9_now_37 : decode cX9_now 37 = .ok (.aload_n 0, 1) := by decide +kernel
theorem dX9_now_38 : decode cX9_now 38 = .ok (.invokevirtual 208, 3) := by decide +kernel
theorem dX9_now_41 : decode cX9_now 41 = .ok (.goto 7, 3) := by decide +kernel
theorem dX9_now_44 : decode cX9_now 44 = .ok (.aload_n 0, 1) := by decide +kernel
theorem dX9_now_45 : decode cX9_now 45 = .ok (.invokevirtual 211, 3) := by decide +kernel
theorem dX9_now_48 : decode cX9_now 48 = .ok (.ireturn, 1) := by decide +kernel
theorem dX9_now_49 : decode cX9_now 49 = .ok (.iload_n 1, 1) := by decide +kernel
theorem dX9_now_50 : decode cX9_now 50 = .ok (.iconst 3, 1) := by decide +kernel
theorem dX9_now_51 : decode cX9_now 51 = .ok (.if_icmp .ne 10, 3) := by decide +kernel
theorem dX9_now_54 : decode cX9_now 54 = .ok (.aload_n 0, 1) := by decide +kernel
theorem dX9_now_55 : decode cX9_now 55 = .ok (.invokevirtual 214, 3) := by decide +kernel
theorem dX9_now_58 : decode cX9_now 58 = .ok (.goto 19, 3) := by decide +kernel
theorem dX9_now_61 : decode cX9_now 61 = .ok (.iload_n 1, 1) := by decide +kernel
theorem dX9_now_62 : decode cX9_now 62 = .ok (.iconst 4, 1) := by decide +kernel
theorem dX9_now_63 : decode cX9_now 63 = .ok (.if_icmp .ne 10, 3) := by decide +kernel
theorem dX9_now_66 : decode cX9_now 66 = .ok (.aload_n 0, 1) := by decide +kernel
theorem dX9_now_67 : decode cX9_now 67 = .ok (.invokevirtual 217, 3) := by decide +kernel
theorem dX9_now_70 : decode cX9_now 70 = .ok (.goto 7, 3) := by decide +kernel
theorem dX9_now_73 : decode cX9_now 73 = .ok (.aload_n 0, 1) := by decide +kernel
theorem dX9_now_74 : decode cX9_now 74 = .ok (.getfield 158, 3) := by decide +kernel
theorem dX9_now_77 : decode cX9_now 77 = .ok (.ireturn, 1) := by decide +kernel
theorem dX9_notes_0 : decode cX9_notes 0 = .ok (.aload_n 0, 1) := by decide +kernel
theorem dX9_notes_1 : decode cX9_notes 1 = .ok (.getfield 158, 3) := by decide +kernel
theorem dX9_notes_4 : decode cX9_notes 4 = .ok (.bipush 10, 2) := by decide +kernel
theorem dX9_notes_6 : decode cX9_notes 6 = .ok (.if_icmp .ne 39, 3) := by decide +kernel
theorem dX9_notes_9 : decode cX9_notes 9 = .ok (.iconst 0, 1) := by decide +kernel
theorem dX9_notes_10 : decode cX9_notes 10 = .ok (.istore_n 1, 1) := by decide +kernel
theorem dX9_notes_11 : decode cX9_notes 11 = .ok (.iload_n 1, 1) := by decide +kernel
theorem dX9_notes_12 : decode cX9_notes 12 = .ok (.sipush 216, 3) := by decide +kernel
theorem dX9_notes_15 : decode cX9_notes 15 = .ok (.if_icmp .ge 24, 3) := by decide +kernel
theorem dX9_notes_18 : decode cX9_notes 18 = .ok (.aload_n 0, 1) := by decide +kernel
theorem dX9_notes_19 : decode cX9_notes 19 = .ok (.getfield 32, 3) := by decide +kernel
theorem dX9_notes_22 : decode cX9_notes 22 = .ok (.iload_n 1, 1) := by decide +kernel
theorem dX9_notes_23 : decode cX9_notes 23 = .ok (.aload_n 0, 1) := by decide +kernel
theorem dX9_notes_24 : decode cX9_notes 24 = .ok (.getfield 32, 3) := by decide +kernel
theorem dX9_notes_27 : decode cX9_notes 27 = .ok (.iload_n 1, 1) := by decide +kernel
theorem dX9_notes_28 : decode cX9_notes 28 = .ok (.bipush 24, 2) := by decide +kernel
theorem dX9_notes_30 : decode cX9_notes 30 = .ok (.iadd, 1) := by decide +kernel
theorem dX9_notes_31 : decode cX9_notes 31 = .ok (.iaload, 1) := by decide +kernel
theorem dX9_notes_32 : decode cX9_notes 32 = .ok (.iastore, 1) := by decide +kernel
theorem dX9_notes_33 : decode cX9_notes 33 = .ok (.iinc 1 1, 3) := by decide +kernel
theorem dX9_notes_36 : decode cX9_notes 36 = .ok (.goto (-25), 3) := by decide +kernel
theorem dX9_notes_39 : decode cX9_notes 39 = .ok (.aload_n 0, 1) := by decide +kernel
theorem dX9_notes_40 : decode cX9_notes 40 = .ok (.bipush 9, 2) := by decide +kernel
theorem dX9_notes_42 : decode cX9_notes 42 = .ok (.putfield 158, 3) := by decide +kernel
theorem dX9_notes_45 : decode cX9_notes 45 = .ok (.iconst 0, 1) := by decide +kernel
theorem dX9_notes_46 : decode cX9_notes 46 = .ok (.istore_n 1, 1) := by decide +kernel
theorem dX9_notes_47 : decode cX9_notes 47 = .ok (.iload_n 1, 1) := by decide +kernel
theorem dX9_notes_48 : decode cX9_notes 48 = .ok (.bipush 24, 2) := by decide +kernel
theorem dX9_notes_50 : decode cX9_notes 50 = .ok (.if_icmp .ge 29, 3) := by decide +kernel
theorem dX9_notes_53 : decode cX9_notes 53 = .ok (.aload_n 0, 1) := by decide +kernel
theorem dX9_notes_54 : decode cX9_notes 54 = .ok (.getfield 32, 3) := by decide +kernel
theorem dX9_notes_57 : decode cX9_notes 57 = .ok (.bipush 24, 2) := by decide +kernel
theorem dX9_notes_59 : decode cX9_notes 59 = .ok (.aload_n 0, 1) := by decide +kernel
theorem dX9_notes_60 : decode cX9_notes 60 = .ok (.getfield 158, 3) := by decide +kernel
theorem dX9_notes_63 : decode cX9_notes 63 = .ok (.imul, 1) := by decide +kernel
theorem dX9_notes_64 : decode cX9_notes 64 = .ok (.iload_n 1, 1) := by decide +kernel
theorem dX9_notes_65 : decode cX9_notes 65 = .ok (.iadd, 1) := by decide +kernel
theorem dX9_notes_66 : decode cX9_notes 66 = .ok (.aload_n 0, 1) := by decide +kernel
theorem dX9_notes_67 : decode cX9_notes 67 = .ok (.getfield 16, 3) := by decide +kernel
theorem dX9_notes_70 : decode cX9_notes 70 = .ok (.iload_n 1, 1) := by decide +kernel
theorem dX9_notes_71 : decode cX9_notes 71 = .ok (.iaload, 1) := by decide +kernel
theorem dX9_notes_72 : decode cX9_notes 72 = .ok (.iastore, 1) := by decide +kernel
theorem dX9_notes_73 : decode cX9_notes 73 = .ok (.iinc 1 1, 3) := by decide +kernel
theorem dX9_notes_76 : decode cX9_notes 76 = .ok (.goto (-29), 3) := by decide +kernel
theorem dX9_notes_79 : decode cX9_notes 79 = .ok (.aload_n 0, 1) := by decide +kernel
theorem dX9_notes_80 : decode cX9_notes 80 = .ok (.dup, 1) := by decide +kernel
theorem dX9_notes_81 : decode cX9_notes 81 = .ok (.getfield 158, 3) := by decide +kernel
theorem dX9_notes_84 : decode cX9_notes 84 = .ok (.iconst 1, 1) := by decide +kernel
theorem dX9_notes_85 : decode cX9_notes 85 = .ok (.iadd, 1) := by decide +kernel
theorem dX9_notes_86 : decode cX9_notes 86 = .ok (.putfield 158, 3) := by decide +kernel
theorem dX9_notes_89 : decode cX9_notes 89 = .ok (.return_, 1) := by decide +kernel
set_option maxRecDepth 20000 in
theorem ggX9_puts_X9_isTwo : GoodIn wsX9_puts wsX9_isTwo := goodIn_r _ [9, 10, 11, 12, 8, 13, 4, 14, 15, 16, 67, 68, 69, 70, 71, 72, 73, 74, 75, 76, 77, 78, 79, 80, 81, 82, 83, 84, 85, 86, 87, 88, 89, 90, 91, 92, 93, 94, 95, 96, 97, 98, 99, 100, 101, 102] (by decide +kernel) (by decide +kernel)
set_option maxRecDepth 20000 in
theorem gX9_puts_X9_isTwo : GoodIn wsX9_puts (wsV RX9 220 RX9 yX9_isTwo wsX9_isTwo) := goodIn_app (goodIn_of _ (by decide +kernel)) ggX9_puts_X9_isTwo
set_option maxRecDepth 20000 in
theorem ggX9_puts_X9_has : GoodIn wsX9_puts wsX9_has := goodIn_r _ [19] (by decide +kernel) (by decide +kernel)
set_option maxRecDepth 20000 in
theorem gX9_puts_X9_has : GoodIn wsX9_puts (va_wsS RX9 119 yX9_has wsX9_has) := goodIn_app (goodIn_of _ (by decide +kernel)) ggX9_puts_X9_has
set_option maxRecDepth 20000 in
theorem ggX9_puts_X9_movedBy : GoodIn wsX9_puts wsX9_movedBy := goodIn_r _ [23, 2, 4, 3, 24, 25, 26, 27, 28, 8, 29, 30, 14, 15, 16, 17, 18, 19, 31, 32, 33, 34, 35, 36, 37, 38, 39, 40, 41, 42, 43, 44, 45, 46, 67, 68, 69, 70, 71, 72, 73, 74, 75, 76, 77, 78, 79, 80, 81, 82, 83, 84, 85, 86, 87, 88, 89, 90, 91, 92, 93, 94, 95, 96, 97, 98, 99, 100, 101, 102] (by decide +kernel) (by decide +kernel)
set_option maxRecDepth 20000 in
theorem gX9_puts_X9_movedBy : GoodIn wsX9_puts (wsV RX9 197 RX9 yX9_movedBy wsX9_movedBy) := goodIn_app (goodIn_of _ (by decide +kernel)) ggX9_puts_X9_movedBy
set_option maxRecDepth 20000 in
theorem ggX9_puts_X9_rings : GoodIn wsX9_puts wsX9_rings := goodIn_r _ [50, 4, 51, 52, 53, 17, 18, 8, 19, 67, 68, 69, 70, 71, 72, 73, 74, 75, 76, 77, 78, 79, 80, 81, 82, 83, 84, 85, 86, 87, 88, 89, 90, 91, 92, 93, 94, 95, 96, 97, 98, 99, 100, 101, 102] (by decide +kernel) (by decide +kernel)
set_option maxRecDepth 20000 in
theorem gX9_puts_X9_rings : GoodIn wsX9_puts (wsV RX9 223 RX9 yX9_rings wsX9_rings) := goodIn_app (goodIn_of _ (by decide +kernel)) ggX9_puts_X9_rings
set_option maxRecDepth 20000 in
theorem ggX9_puts_X9_notes : GoodIn wsX9_puts wsX9_notes := goodIn_r _ [57, 58, 59, 2, 67, 68, 69, 70, 71, 72, 73, 74, 75, 76, 77, 78, 79, 80, 81, 82, 83, 84, 85, 86, 87, 88, 89, 90, 91, 92, 93, 94, 95, 96, 97, 98, 99, 100, 101, 102] (by decide +kernel) (by decide +kernel)
set_option maxRecDepth 20000 in
theorem gX9_puts_X9_notes : GoodIn wsX9_puts (wsV RX9 227 RX9 yX9_notes wsX9_notes) := goodIn_app (goodIn_of _ (by decide +kernel)) ggX9_puts_X9_notes
set_option maxRecDepth 20000 in
theorem ggX9_puts_X9_lays : GoodIn wsX9_puts wsX9_lays := goodIn_r _ [63, 24, 26, 27, 28, 8, 29, 30, 3, 14, 15, 16, 17, 18, 19, 34, 35, 36, 37, 38, 39, 40, 41, 42, 67, 68, 69, 70, 71, 72, 73, 74, 75, 76, 77, 78, 79, 80, 81, 82, 83, 84, 85, 86, 87, 88, 89, 90, 91, 92, 93, 94, 95, 96, 97, 98, 99, 100, 101, 102] (by decide +kernel) (by decide +kernel)
set_option maxRecDepth 20000 in
theorem gX9_puts_X9_lays : GoodIn wsX9_puts (wsV RX9 138 RX9 yX9_lays wsX9_lays) := goodIn_app (goodIn_of _ (by decide +kernel)) ggX9_puts_X9_lays
set_option maxRecDepth 20000 in
theorem ggX9_puts_X9_ones : GoodIn wsX9_puts wsX9_ones := goodIn_r _ [66] (by decide +kernel) (by decide +kernel)
set_option maxRecDepth 20000 in
theorem gX9_puts_X9_ones : GoodIn wsX9_puts (va_wsS RX9 194 yX9_ones wsX9_ones) := goodIn_app (goodIn_of _ (by decide +kernel)) ggX9_puts_X9_ones
theorem dX9_puts_0 : decode cX9_puts 0 = .ok (.aload_n 0, 1) := by decide +kernel
theorem dX9_puts_1 : decode cX9_puts 1 = .ok (.iconst 0, 1) := by decide +kernel
theorem dX9_puts_2 : decode cX9_puts 2 = .ok (.putfield 75, 3) := by decide +kernel
theorem dX9_puts_5 : decode cX9_puts 5 = .ok (.aload_n 0, 1) := by decide +kernel
theorem dX9_puts_6 : decode cX9_puts 6 = .ok (.iload_n 1, 1) := by decide +kernel
theorem dX9_puts_7 : decode cX9_puts 7 = .ok (.iload_n 2, 1) := by decide +kernel
theorem dX9_puts_8 : decode cX9_puts 8 = .ok (.invokevirtual 220, 3) := by decide +kernel
theorem dX9_puts_11 : decode cX9_puts 11 = .ok (.ifCond .ne 5, 3) := by decide +kernel
theorem dX9_puts_14 : decode cX9_puts 14 = .ok (.iconst (-1), 1) := by decide +kernel
theorem dX9_puts_15 : decode cX9_puts 15 = .ok (.ireturn, 1) := by decide +kernel
theorem dX9_puts_16 : decode cX9_puts 16 = .ok (.aload_n 0, 1) := by decide +kernel
theorem dX9_puts_17 : decode cX9_puts 17 = .ok (.getfield 16, 3) := by decide +kernel
theorem dX9_puts_20 : decode cX9_puts 20 = .ok (.iconst 0, 1) := by decide +kernel
theorem dX9_puts_21 : decode cX9_puts 21 = .ok (.iload_n 1, 1) := by decide +kernel
theorem dX9_puts_22 : decode cX9_puts 22 = .ok (.iadd, 1) := by decide +kernel
theorem dX9_puts_23 : decode cX9_puts 23 = .ok (.iaload, 1) := by decide +kernel
theorem dX9_puts_24 : decode cX9_puts 24 = .ok (.iload_n 2, 1) := by decide +kernel
theorem dX9_puts_25 : decode cX9_puts 25 = .ok (.invokestatic 119, 3) := by decide +kernel
theorem dX9_puts_28 : decode cX9_puts 28 = .ok (.ifCond .eq 6, 3) := by decide +kernel
theorem dX9_puts_31 : decode cX9_puts 31 = .ok (.bipush (-2), 2) := by decide +kernel
theorem dX9_puts_33 : decode cX9_puts 33 = .ok (.ireturn, 1) := by decide +kernel
theorem dX9_puts_34 : decode cX9_puts 34 = .ok (.aload_n 0, 1) := by decide +kernel
theorem dX9_puts_35 : decode cX9_puts 35 = .ok (.iload_n 1, 1) := by decide +kernel
theorem dX9_puts_36 : decode cX9_puts 36 = .ok (.iload_n 2, 1) := by decide +kernel
theorem dX9_puts_37 : decode cX9_puts 37 = .ok (.invokevirtual 197, 3) := by decide +kernel
theorem dX9_puts_40 : decode cX9_puts 40 = .ok (.istore_n 3, 1) := by decide +kernel
theorem dX9_puts_41 : decode cX9_puts 41 = .ok (.aload_n 0, 1) := by decide +kernel
theorem dX9_puts_42 : decode cX9_puts 42 = .ok (.getfield 126, 3) := by decide +kernel
theorem dX9_puts_45 : decode cX9_puts 45 = .ok (.ifCond .eq 16, 3) := by decide +kernel
theorem dX9_puts_48 : decode cX9_puts 48 = .ok (.aload_n 0, 1) := by decide +kernel
theorem dX9_puts_49 : decode cX9_puts 49 = .ok (.aload_n 0, 1) := by decide +kernel
theorem dX9_puts_50 : decode cX9_puts 50 = .ok (.getfield 16, 3) := by decide +kernel
theorem dX9_puts_53 : decode cX9_puts 53 = .ok (.iload_n 2, 1) := by decide +kernel
theorem dX9_puts_54 : decode cX9_puts 54 = .ok (.iload_n 1, 1) := by decide +kernel
theorem dX9_puts_55 : decode cX9_puts 55 = .ok (.invokevirtual 223, 3) := by decide +kernel
theorem dX9_puts_58 : decode cX9_puts 58 = .ok (.bipush (-4), 2) := by decide +kernel
theorem dX9_puts_60 : decode cX9_puts 60 = .ok (.ireturn, 1) := by decide +kernel
theorem dX9_puts_61 : decode cX9_puts 61 = .ok (.aload_n 0, 1) := by decide +kernel
theorem dX9_puts_62 : decode cX9_puts 62 = .ok (.invokevirtual 227, 3) := by decide +kernel
theorem dX9_puts_65 : decode cX9_puts 65 = .ok (.aload_n 0, 1) := by decide +kernel
theorem dX9_puts_66 : decode cX9_puts 66 = .ok (.aload_n 0, 1) := by decide +kernel
theorem dX9_puts_67 : decode cX9_puts 67 = .ok (.getfield 16, 3) := by decide +kernel
theorem dX9_puts_70 : decode cX9_puts 70 = .ok (.aload_n 0, 1) := by decide +kernel
theorem dX9_puts_71 : decode cX9_puts 71 = .ok (.getfield 145, 3) := by decide +kernel
theorem dX9_puts_74 : decode cX9_puts 74 = .ok (.iload_n 1, 1) := by decide +kernel
theorem dX9_puts_75 : decode cX9_puts 75 = .ok (.iload_n 2, 1) := by decide +kernel
theorem dX9_puts_76 : decode cX9_puts 76 = .ok (.invokevirtual 138, 3) := by decide +kernel
theorem dX9_puts_79 : decode cX9_puts 79 = .ok (.iload_n 3, 1) := by decide +kernel
theorem dX9_puts_80 : decode cX9_puts 80 = .ok (.invokestatic 194, 3) := by decide +kernel
theorem dX9_puts_83 : decode cX9_puts 83 = .ok (.ireturn, 1) := by decide +kernel
set_option maxRecDepth 20000 in
theorem ggX9_lists_X9_isTwo : GoodIn wsX9_lists wsX9_isTwo := goodIn_r _ [10, 11, 12, 13, 9, 14, 15, 16, 17, 18, 22, 23, 24, 25, 26, 27, 28, 29, 30, 31, 32, 33, 34, 35, 36, 37, 38, 39, 40, 41, 42, 43, 44, 45, 46, 47, 48, 49, 50, 51, 52, 53, 54, 55, 56, 57] (by decide +kernel) (by decide +kernel)
set_option maxRecDepth 20000 in
theorem gX9_lists_X9_isTwo : GoodIn wsX9_lists (wsV RX9 220 RX9 yX9_isTwo wsX9_isTwo) := goodIn_app (goodIn_of _ (by decide +kernel)) ggX9_lists_X9_isTwo
set_option maxRecDepth 20000 in
theorem ggX9_lists_X9_has : GoodIn wsX9_lists wsX9_has := goodIn_r _ [21] (by decide +kernel) (by decide +kernel)
set_option maxRecDepth 20000 in
theorem gX9_lists_X9_has : GoodIn wsX9_lists (va_wsS RX9 119 yX9_has wsX9_has) := goodIn_app (goodIn_of _ (by decide +kernel)) ggX9_lists_X9_has
theorem dX9_lists_0 : decode cX9_lists 0 = .ok (.aload_n 0, 1) := by decide +kernel
theorem dX9_lists_1 : decode cX9_lists 1 = .ok (.iconst 0, 1) := by decide +kernel
theorem dX9_lists_2 : decode cX9_lists 2 = .ok (.putfield 75, 3) := by decide +kernel
theorem dX9_lists_5 : decode cX9_lists 5 = .ok (.aload_n 0, 1) := by decide +kernel
theorem dX9_lists_6 : decode cX9_lists 6 = .ok (.iload_n 1, 1) := by decide +kernel
theorem dX9_lists_7 : decode cX9_lists 7 = .ok (.iload_n 2, 1) := by decide +kernel
theorem dX9_lists_8 : decode cX9_lists 8 = .ok (.invokevirtual 220, 3) := by decide +kernel
theorem dX9_lists_11 : decode cX9_lists 11 = .ok (.ifCond .ne 5, 3) := by decide +kernel
theorem dX9_lists_14 : decode cX9_lists 14 = .ok (.iconst (-1), 1) := by decide +kernel
theorem dX9_lists_15 : decode cX9_lists 15 = .ok (.ireturn, 1) := by decide +kernel
theorem dX9_lists_16 : decode cX9_lists 16 = .ok (.aload_n 0, 1) := by decide +kernel
theorem dX9_lists_17 : decode cX9_lists 17 = .ok (.getfield 16, 3) := by decide +kernel
theorem dX9_lists_20 : decode cX9_lists 20 = .ok (.iconst 0, 1) := by decide +kernel
theorem dX9_lists_21 : decode cX9_lists 21 = .ok (.iload_n 1, 1) := by decide +kernel
theorem dX9_lists_22 : decode cX9_lists 22 = .ok (.iadd, 1) := by decide +kernel
theorem dX9_lists_23 : decode cX9_lists 23 = .ok (.iaload, 1) := by decide +kernel
theorem dX9_lists_24 : decode cX9_lists 24 = .ok (.iload_n 2, 1) := by decide +kernel
theorem dX9_lists_25 : decode cX9_lists 25 = .ok (.invokestatic 119, 3) := by decide +kernel
theorem dX9_lists_28 : decode cX9_lists 28 = .ok (.istore_n 3, 1) := by decide +kernel
theorem dX9_lists_29 : decode cX9_lists 29 = .ok (.iconst 0, 1) := by decide +kernel
theorem dX9_lists_30 : decode cX9_lists 30 = .ok (.istore 4, 2) := by decide +kernel
theorem dX9_lists_32 : decode cX9_lists 32 = .ok (.iload 4, 2) := by decide +kernel
theorem dX9_lists_34 : decode cX9_lists 34 = .ok (.aload_n 0, 1) := by decide +kernel
theorem dX9_lists_35 : decode cX9_lists 35 = .ok (.getfield 152, 3) := by decide +kernel
theorem dX9_lists_38 : decode cX9_lists 38 = .ok (.if_icmp .ge 41, 3) := by decide +kernel
theorem dX9_lists_41 : decode cX9_lists 41 = .ok (.iload_n 3, 1) := by decide +kernel
theorem dX9_lists_42 : decode cX9_lists 42 = .ok (.ifCond .ne 25, 3) := by decide +kernel
theorem dX9_lists_45 : decode cX9_lists 45 = .ok (.aload_n 0, 1) := by decide +kernel
theorem dX9_lists_46 : decode cX9_lists 46 = .ok (.getfield 35, 3) := by decide +kernel
theorem dX9_lists_49 : decode cX9_lists 49 = .ok (.iload 4, 2) := by decide +kernel
theorem dX9_lists_51 : decode cX9_lists 51 = .ok (.iaload, 1) := by decide +kernel
theorem dX9_lists_52 : decode cX9_lists 52 = .ok (.iload_n 1, 1) := by decide +kernel
theorem dX9_lists_53 : decode cX9_lists 53 = .ok (.if_icmp .ne 18, 3) := by decide +kernel
theorem dX9_lists_56 : decode cX9_lists 56 = .ok (.aload_n 0, 1) := by decide +kernel
theorem dX9_lists_57 : decode cX9_lists 57 = .ok (.getfield 38, 3) := by decide +kernel
theorem dX9_lists_60 : decode cX9_lists 60 = .ok (.iload 4, 2) := by decide +kernel
theorem dX9_lists_62 : decode cX9_lists 62 = .ok (.iaload, 1) := by decide +kernel
theorem dX9_lists_63 : decode cX9_lists 63 = .ok (.iload_n 2, 1) := by decide +kernel
theorem dX9_lists_64 : decode cX9_lists 64 = .ok (.if_icmp .ne 7, 3) := by decide +kernel
theorem dX9_lists_67 : decode cX9_lists 67 = .ok (.iconst 1, 1) := by decide +kernel
theorem dX9_lists_68 : decode cX9_lists 68 = .ok (.goto 4, 3) := by decide +kernel
theorem dX9_lists_71 : decode cX9_lists 71 = .ok (.iconst 0, 1) := by decide +kernel
theorem dX9_lists_72 : decode cX9_lists 72 = .ok (.istore_n 3, 1) := by decide +kernel
theorem dX9_lists_73 : decode cX9_lists 73 = .ok (.iinc 4 1, 3) := by decide +kernel
theorem dX9_lists_76 : decode cX9_lists 76 = .ok (.goto (-44), 3) := by decide +kernel
theorem dX9_lists_79 : decode cX9_lists 79 = .ok (.iload_n 3, 1) := by decide +kernel
theorem dX9_lists_80 : decode cX9_lists 80 = .ok (.ifCond .eq 6, 3) := by decide +kernel
theorem dX9_lists_83 : decode cX9_lists 83 = .ok (.bipush (-2), 2) := by decide +kernel
theorem dX9_lists_85 : decode cX9_lists 85 = .ok (.ireturn, 1) := by decide +kernel
theorem dX9_lists_86 : decode cX9_lists 86 = .ok (.aload_n 0, 1) := by decide +kernel
theorem dX9_lists_87 : decode cX9_lists 87 = .ok (.getfield 152, 3) := by decide +kernel
theorem dX9_lists_90 : decode cX9_lists 90 = .ok (.bipush 8, 2) := by decide +kernel
theorem dX9_lists_92 : decode cX9_lists 92 = .ok (.if_icmp .ne 6, 3) := by decide +kernel
theorem dX9_lists_95 : decode cX9_lists 95 = .ok (.bipush (-3), 2) := by decide +kernel
theorem dX9_lists_97 : decode cX9_lists 97 = .ok (.ireturn, 1) := by decide +kernel
theorem dX9_lists_98 : decode cX9_lists 98 = .ok (.aload_n 0, 1) := by decide +kernel
theorem dX9_lists_99 : decode cX9_lists 99 = .ok (.getfield 35, 3) := by decide +kernel
theorem dX9_lists_102 : decode cX9_lists 102 = .ok (.aload_n 0, 1) := by decide +kernel
theorem dX9_lists_103 : decode cX9_lists 103 = .ok (.getfield 152, 3) := by decide +kernel
theorem dX9_lists_106 : decode cX9_lists 106 = .ok (.iload_n 1, 1) := by decide +kernel
theorem dX9_lists_107 : decode cX9_lists 107 = .ok (.iastore, 1) := by decide +kernel
theorem dX9_lists_108 : decode cX9_lists 108 = .ok (.aload_n 0, 1) := by decide +kernel
theorem dX9_lists_109 : decode cX9_lists 109 = .ok (.getfield 38, 3) := by decide +kernel
theorem dX9_lists_112 : decode cX9_lists 112 = .ok (.aload_n 0, 1) := by decide +kernel
theorem dX9_lists_113 : decode cX9_lists 113 = .ok (.getfield 152, 3) := by decide +kernel
theorem dX9_lists_116 : decode cX9_lists 116 = .ok (.iload_n 2, 1) := by decide +kernel
theorem dX9_lists_117 : decode cX9_lists 117 = .ok (.iastore, 1) := by decide +kernel
theorem dX9_lists_118 : decode cX9_lists 118 = .ok (.aload_n 0, 1) := by decide +kernel
theorem dX9_lists_119 : decode cX9_lists 119 = .ok (.dup, 1) := by decide +kernel
theorem dX9_lists_120 : decode cX9_lists 120 = .ok (.getfield 152, 3) := by decide +kernel
theorem dX9_lists_123 : decode cX9_lists 123 = .ok (.iconst 1, 1) := by decide +kernel
theorem dX9_lists_124 : decode cX9_lists 124 = .ok (.iadd, 1) := by decide +kernel
theorem dX9_lists_125 : decode cX9_lists 125 = .ok (.putfield 152, 3) := by decide +kernel
theorem dX9_lists_128 : decode cX9_lists 128 = .ok (.aload_n 0, 1) := by decide +kernel
theorem dX9_lists_129 : decode cX9_lists 129 = .ok (.getfield 152, 3) := by decide +kernel
theorem dX9_lists_132 : decode cX9_lists 132 = .ok (.ireturn, 1) := by decide +kernel
set_option maxRecDepth 20000 in
theorem ggX9_adds_X9_has : GoodIn wsX9_adds wsX9_has := goodIn_r _ [12] (by decide +kernel) (by decide +kernel)
set_option maxRecDepth 20000 in
theorem gX9_adds_X9_has : GoodIn wsX9_adds (va_wsS RX9 119 yX9_has wsX9_has) := goodIn_app (goodIn_of _ (by decide +kernel)) ggX9_adds_X9_has
set_option maxRecDepth 20000 in
theorem ggX9_adds_X9_copies : GoodIn wsX9_adds wsX9_copies := goodIn_r _ [15] (by decide +kernel) (by decide +kernel)
set_option maxRecDepth 20000 in
theorem gX9_adds_X9_copies : GoodIn wsX9_adds (va_wsS RX9 148 yX9_copies wsX9_copies) := goodIn_app (goodIn_of _ (by decide +kernel)) ggX9_adds_X9_copies
set_option maxRecDepth 20000 in
theorem ggX9_adds_X9_looks : GoodIn wsX9_adds wsX9_looks := goodIn_r _ [19, 20, 21, 8, 22, 23, 11, 24, 9, 10, 12, 58, 59, 60, 61, 62, 63, 64, 65, 66, 67, 68, 69, 70, 71, 72, 73, 74, 75, 76, 77, 78, 79, 80, 81, 82, 83, 84, 85, 86, 87, 88, 89, 90, 91, 92, 93] (by decide +kernel) (by decide +kernel)
set_option maxRecDepth 20000 in
theorem gX9_adds_X9_looks : GoodIn wsX9_adds (wsV RX9 122 RX9 yX9_looks wsX9_looks) := goodIn_app (goodIn_of _ (by decide +kernel)) ggX9_adds_X9_looks
set_option maxRecDepth 20000 in
theorem ggX9_adds_X9_rings : GoodIn wsX9_adds wsX9_rings := goodIn_r _ [28, 7, 29, 30, 31, 9, 10, 11, 12, 58, 59, 60, 61, 62, 63, 64, 65, 66, 67, 68, 69, 70, 71, 72, 73, 74, 75, 76, 77, 78, 79, 80, 81, 82, 83, 84, 85, 86, 87, 88, 89, 90, 91, 92, 93] (by decide +kernel) (by decide +kernel)
set_option maxRecDepth 20000 in
theorem gX9_adds_X9_rings : GoodIn wsX9_adds (wsV RX9 223 RX9 yX9_rings wsX9_rings) := goodIn_app (goodIn_of _ (by decide +kernel)) ggX9_adds_X9_rings
set_option maxRecDepth 20000 in
theorem ggX9_adds_X9_lays : GoodIn wsX9_adds wsX9_lays := goodIn_r _ [35, 20, 16, 17, 18, 11, 19, 21, 8, 22, 23, 24, 9, 10, 12, 36, 37, 38, 39, 40, 41, 42, 43, 44, 58, 59, 60, 61, 62, 63, 64, 65, 66, 67, 68, 69, 70, 71, 72, 73, 74, 75, 76, 77, 78, 79, 80, 81, 82, 83, 84, 85, 86, 87, 88, 89, 90, 91, 92, 93] (by decide +kernel) (by decide +kernel)
set_option maxRecDepth 20000 in
theorem gX9_adds_X9_lays : GoodIn wsX9_adds (wsV RX9 138 RX9 yX9_lays wsX9_lays) := goodIn_app (goodIn_of _ (by decide +kernel)) ggX9_adds_X9_lays
set_option maxRecDepth 20000 in
theorem ggX9_adds_X9_notes : GoodIn wsX9_adds wsX9_notes := goodIn_r _ [48, 49, 50, 3, 58, 59, 60, 61, 62, 63, 64, 65, 66, 67, 68, 69, 70, 71, 72, 73, 74, 75, 76, 77, 78, 79, 80, 81, 82, 83, 84, 85, 86, 87, 88, 89, 90, 91, 92, 93] (by decide +kernel) (by decide +kernel)
set_option maxRecDepth 20000 in
theorem gX9_adds_X9_notes : GoodIn wsX9_adds (wsV RX9 227 RX9 yX9_notes wsX9_notes) := goodIn_app (goodIn_of _ (by decide +kernel)) ggX9_adds_X9_notes
set_option maxRecDepth 20000 in
theorem ggX9_adds_X9_moved : GoodIn wsX9_adds wsX9_moved := goodIn_r _ [54, 7, 58, 59, 60, 61, 62, 63, 64, 65, 66, 67, 68, 69, 70, 71, 72, 73, 74, 75, 76, 77, 78, 79, 80, 81, 82, 83, 84, 85, 86, 87, 88, 89, 90, 91, 92, 93] (by decide +kernel) (by decide +kernel)
set_option maxRecDepth 20000 in
theorem gX9_adds_X9_moved : GoodIn wsX9_adds (wsV RX9 178 RX9 yX9_moved wsX9_moved) := goodIn_app (goodIn_of _ (by decide +kernel)) ggX9_adds_X9_moved
set_option maxRecDepth 20000 in
theorem ggX9_adds_X9_ones : GoodIn wsX9_adds wsX9_ones := goodIn_r _ [57] (by decide +kernel) (by decide +kernel)
set_option maxRecDepth 20000 in
theorem gX9_adds_X9_ones : GoodIn wsX9_adds (va_wsS RX9 194 yX9_ones wsX9_ones) := goodIn_app (goodIn_of _ (by decide +kernel)) ggX9_adds_X9_ones
theorem dX9_adds_0 : decode cX9_adds 0 = .ok (.aload_n 0, 1) := by decide +kernel
theorem dX9_adds_1 : decode cX9_adds 1 = .ok (.iconst 0, 1) := by decide +kernel
theorem dX9_adds_2 : decode cX9_adds 2 = .ok (.putfield 75, 3) := by decide +kernel
theorem dX9_adds_5 : decode cX9_adds 5 = .ok (.aload_n 0, 1) := by decide +kernel
theorem dX9_adds_6 : decode cX9_adds 6 = .ok (.getfield 152, 3) := by decide +kernel
theorem dX9_adds_9 : decode cX9_adds 9 = .ok (.ifCond .ne 7, 3) := by decide +kernel
theorem dX9_adds_12 : decode cX9_adds 12 = .ok (.iconst 1, 1) := by decide +kernel
theorem dX9_adds_13 : decode cX9_adds 13 = .ok (.goto 4, 3) := by decide +kernel
theorem dX9_adds_16 : decode cX9_adds 16 = .ok (.iconst 0, 1) := by decide +kernel
theorem dX9_adds_17 : decode cX9_adds 17 = .ok (.istore_n 1, 1) := by decide +kernel
theorem dX9_adds_18 : decode cX9_adds 18 = .ok (.iconst 0, 1) := by decide +kernel
theorem dX9_adds_19 : decode cX9_adds 19 = .ok (.istore_n 2, 1) := by decide +kernel
theorem dX9_adds_20 : decode cX9_adds 20 = .ok (.iload_n 2, 1) := by decide +kernel
theorem dX9_adds_21 : decode cX9_adds 21 = .ok (.aload_n 0, 1) := by decide +kernel
theorem dX9_adds_22 : decode cX9_adds 22 = .ok (.getfield 152, 3) := by decide +kernel
theorem dX9_adds_25 : decode cX9_adds 25 = .ok (.if_icmp .ge 44, 3) := by decide +kernel
theorem dX9_adds_28 : decode cX9_adds 28 = .ok (.iload_n 1, 1) := by decide +kernel
theorem dX9_adds_29 : decode cX9_adds 29 = .ok (.ifCond .ne 28, 3) := by decide +kernel
theorem dX9_adds_32 : decode cX9_adds 32 = .ok (.aload_n 0, 1) := by decide +kernel
theorem dX9_adds_33 : decode cX9_adds 33 = .ok (.getfield 16, 3) := by decide +kernel
theorem dX9_adds_36 : decode cX9_adds 36 = .ok (.iconst 0, 1) := by decide +kernel
theorem dX9_adds_37 : decode cX9_adds 37 = .ok (.aload_n 0, 1) := by decide +kernel
theorem dX9_adds_38 : decode cX9_adds 38 = .ok (.getfield 35, 3) := by decide +kernel
theorem dX9_adds_41 : decode cX9_adds 41 = .ok (.iload_n 2, 1) := by decide +kernel
theorem dX9_adds_42 : decode cX9_adds 42 = .ok (.iaload, 1) := by decide +kernel
theorem dX9_adds_43 : decode cX9_adds 43 = .ok (.iadd, 1) := by decide +kernel
theorem dX9_adds_44 : decode cX9_adds 44 = .ok (.iaload, 1) := by decide +kernel
theorem dX9_adds_45 : decode cX9_adds 45 = .ok (.aload_n 0, 1) := by decide +kernel
theorem dX9_adds_46 : decode cX9_adds 46 = .ok (.getfield 38, 3) := by decide +kernel
theorem dX9_adds_49 : decode cX9_adds 49 = .ok (.iload_n 2, 1) := by decide +kernel
theorem dX9_adds_50 : decode cX9_adds 50 = .ok (.iaload, 1) := by decide +kernel
theorem dX9_adds_51 : decode cX9_adds 51 = .ok (.invokestatic 119, 3) := by decide +kernel
theorem dX9_adds_54 : decode cX9_adds 54 = .ok (.ifCond .eq 7, 3) := by decide +kernel
theorem dX9_adds_57 : decode cX9_adds 57 = .ok (.iconst 1, 1) := by decide +kernel
theorem dX9_adds_58 : decode cX9_adds 58 = .ok (.goto 4, 3) := by decide +kernel
theorem dX9_adds_61 : decode cX9_adds 61 = .ok (.iconst 0, 1) := by decide +kernel
theorem dX9_adds_62 : decode cX9_adds 62 = .ok (.istore_n 1, 1) := by decide +kernel
theorem dX9_adds_63 : decode cX9_adds 63 = .ok (.iinc 2 1, 3) := by decide +kernel
theorem dX9_adds_66 : decode cX9_adds 66 = .ok (.goto (-46), 3) := by decide +kernel
theorem dX9_adds_69 : decode cX9_adds 69 = .ok (.iload_n 1, 1) := by decide +kernel
theorem dX9_adds_70 : decode cX9_adds 70 = .ok (.ifCond .eq 6, 3) := by decide +kernel
theorem dX9_adds_73 : decode cX9_adds 73 = .ok (.bipush (-2), 2) := by decide +kernel
theorem dX9_adds_75 : decode cX9_adds 75 = .ok (.ireturn, 1) := by decide +kernel
theorem dX9_adds_76 : decode cX9_adds 76 = .ok (.aload_n 0, 1) := by decide +kernel
theorem dX9_adds_77 : decode cX9_adds 77 = .ok (.getfield 16, 3) := by decide +kernel
theorem dX9_adds_80 : decode cX9_adds 80 = .ok (.aload_n 0, 1) := by decide +kernel
theorem dX9_adds_81 : decode cX9_adds 81 = .ok (.getfield 22, 3) := by decide +kernel
theorem dX9_adds_84 : decode cX9_adds 84 = .ok (.invokestatic 148, 3) := by decide +kernel
theorem dX9_adds_87 : decode cX9_adds 87 = .ok (.iconst 0, 1) := by decide +kernel
theorem dX9_adds_88 : decode cX9_adds 88 = .ok (.istore_n 2, 1) := by decide +kernel
theorem dX9_adds_89 : decode cX9_adds 89 = .ok (.iload_n 2, 1) := by decide +kernel
theorem dX9_adds_90 : decode cX9_adds 90 = .ok (.aload_n 0, 1) := by decide +kernel
theorem dX9_adds_91 : decode cX9_adds 91 = .ok (.getfield 152, 3) := by decide +kernel
theorem dX9_adds_94 : decode cX9_adds 94 = .ok (.if_icmp .ge 92, 3) := by decide +kernel
theorem dX9_adds_97 : decode cX9_adds 97 = .ok (.aload_n 0, 1) := by decide +kernel
theorem dX9_adds_98 : decode cX9_adds 98 = .ok (.aload_n 0, 1) := by decide +kernel
theorem dX9_adds_99 : decode cX9_adds 99 = .ok (.getfield 22, 3) := by decide +kernel
theorem dX9_adds_102 : decode cX9_adds 102 = .ok (.aload_n 0, 1) := by decide +kernel
theorem dX9_adds_103 : decode cX9_adds 103 = .ok (.getfield 145, 3) := by decide +kernel
theorem dX9_adds_106 : decode cX9_adds 106 = .ok (.aload_n 0, 1) := by decide +kernel
theorem dX9_adds_107 : decode cX9_adds 107 = .ok (.getfield 35, 3) := by decide +kernel
theorem dX9_adds_110 : decode cX9_adds 110 = .ok (.iload_n 2, 1) := by decide +kernel
theorem dX9_adds_111 : decode cX9_adds 111 = .ok (.iaload, 1) := by decide +kernel
theorem dX9_adds_112 : decode cX9_adds 112 = .ok (.aload_n 0, 1) := by decide +kernel
theorem dX9_adds_113 : decode cX9_adds 113 = .ok (.getfield 38, 3) := by decide +kernel
theorem dX9_adds_116 : decode cX9_adds 116 = .ok (.iload_n 2, 1) := by decide +kernel
theorem dX9_adds_117 : decode cX9_adds 117 = .ok (.iaload, 1) := by decide +kernel
theorem dX9_adds_118 : decode cX9_adds 118 = .ok (.invokevirtual 122, 3) := by decide +kernel
theorem dX9_adds_121 : decode cX9_adds 121 = .ok (.aload_n 0, 1) := by decide +kernel
theorem dX9_adds_122 : decode cX9_adds 122 = .ok (.getfield 126, 3) := by decide +kernel
theorem dX9_adds_125 : decode cX9_adds 125 = .ok (.ifCond .eq 31, 3) := by decide +kernel
theorem dX9_adds_128 : decode cX9_adds 128 = .ok (.aload_n 0, 1) := by decide +kernel
theorem dX9_adds_129 : decode cX9_adds 129 = .ok (.aload_n 0, 1) := by decide +kernel
theorem dX9_adds_130 : decode cX9_adds 130 = .ok (.getfield 22, 3) := by decide +kernel
theorem dX9_adds_133 : decode cX9_adds 133 = .ok (.aload_n 0, 1) := by decide +kernel
theorem dX9_adds_134 : decode cX9_adds 134 = .ok (.getfield 38, 3) := by decide +kernel
theorem dX9_adds_137 : decode cX9_adds 137 = .ok (.iload_n 2, 1) := by decide +kernel
theorem dX9_adds_138 : decode cX9_adds 138 = .ok (.iaload, 1) := by decide +kernel
theorem dX9_adds_139 : decode cX9_adds 139 = .ok (.aload_n 0, 1) := by decide +kernel
theorem dX9_adds_140 : decode cX9_adds 140 = .ok (.getfield 35, 3) := by decide +kernel
theorem dX9_adds_143 : decode cX9_adds 143 = .ok (.iload_n 2, 1) := by decide +kernel
theorem dX9_adds_144 : decode cX9_adds 144 = .ok (.iaload, 1) := by decide +kernel
theorem dX9_adds_145 : decode cX9_adds 145 = .ok (.invokevirtual 223, 3) := by decide +kernel
theorem dX9_adds_148 : decode cX9_adds 148 = .ok (.aload_n 0, 1) := by decide +kernel
theorem dX9_adds_149 : decode cX9_adds 149 = .ok (.iconst 0, 1) := by decide +kernel
theorem dX9_adds_150 : decode cX9_adds 150 = .ok (.putfield 152, 3) := by decide +kernel
theorem dX9_adds_153 : decode cX9_adds 153 = .ok (.bipush (-4), 2) := by decide +kernel
theorem dX9_adds_155 : decode cX9_adds 155 = .ok (.ireturn, 1) := by decide +kernel
theorem dX9_adds_156 : decode cX9_adds 156 = .ok (.aload_n 0, 1) := by decide +kernel
theorem dX9_adds_157 : decode cX9_adds 157 = .ok (.aload_n 0, 1) := by decide +kernel
theorem dX9_adds_158 : decode cX9_adds 158 = .ok (.getfield 22, 3) := by decide +kernel
theorem dX9_adds_161 : decode cX9_adds 161 = .ok (.aload_n 0, 1) := by decide +kernel
theorem dX9_adds_162 : decode cX9_adds 162 = .ok (.getfield 145, 3) := by decide +kernel
theorem dX9_adds_165 : decode cX9_adds 165 = .ok (.aload_n 0, 1) := by decide +kernel
theorem dX9_adds_166 : decode cX9_adds 166 = .ok (.getfield 35, 3) := by decide +kernel
theorem dX9_adds_169 : decode cX9_adds 169 = .ok (.iload_n 2, 1) := by decide +kernel
theorem dX9_adds_170 : decode cX9_adds 170 = .ok (.iaload, 1) := by decide +kernel
theorem dX9_adds_171 : decode cX9_adds 171 = .ok (.aload_n 0, 1) := by decide +kernel
theorem dX9_adds_172 : decode cX9_adds 172 = .ok (.getfield 38, 3) := by decide +kernel
theorem dX9_adds_175 : decode cX9_adds 175 = .ok (.iload_n 2, 1) := by decide +kernel
theorem dX9_adds_176 : decode cX9_adds 176 = .ok (.iaload, 1) := by decide +kernel
theorem dX9_adds_177 : decode cX9_adds 177 = .ok (.invokevirtual 138, 3) := by decide +kernel
theorem dX9_adds_180 : decode cX9_adds 180 = .ok (.iinc 2 1, 3) := by decide +kernel
theorem dX9_adds_183 : decode cX9_adds 183 = .ok (.goto (-94), 3) := by decide +kernel
theorem dX9_adds_186 : decode cX9_adds 186 = .ok (.aload_n 0, 1) := by decide +kernel
theorem dX9_adds_187 : decode cX9_adds 187 = .ok (.invokevirtual 227, 3) := by decide +kernel
theorem dX9_adds_190 : decode cX9_adds 190 = .ok (.aload_n 0, 1) := by decide +kernel
theorem dX9_adds_191 : decode cX9_adds 191 = .ok (.iconst 0, 1) := by decide +kernel
theorem dX9_adds_192 : decode cX9_adds 192 = .ok (.putfield 152, 3) := by decide +kernel
theorem dX9_adds_195 : decode cX9_adds 195 = .ok (.aload_n 0, 1) := by decide +kernel
theorem dX9_adds_196 : decode cX9_adds 196 = .ok (.aload_n 0, 1) := by decide +kernel
theorem dX9_adds_197 : decode cX9_adds 197 = .ok (.getfield 22, 3) := by decide +kernel
theorem dX9_adds_200 : decode cX9_adds 200 = .ok (.aload_n 0, 1) := by decide +kernel
theorem dX9_adds_201 : decode cX9_adds 201 = .ok (.getfield 16, 3) := by decide +kernel
theorem dX9_adds_204 : decode cX9_adds 204 = .ok (.invokevirtual 178, 3) := by decide +kernel
theorem dX9_adds_207 : decode cX9_adds 207 = .ok (.invokestatic 194, 3) := by decide +kernel
theorem dX9_adds_210 : decode cX9_adds 210 = .ok (.istore_n 2, 1) := by decide +kernel
theorem dX9_adds_211 : decode cX9_adds 211 = .ok (.aload_n 0, 1) := by decide +kernel
theorem dX9_adds_212 : decode cX9_adds 212 = .ok (.getfield 22, 3) := by decide +kernel
theorem dX9_adds_215 : decode cX9_adds 215 = .ok (.aload_n 0, 1) := by decide +kernel
theorem dX9_adds_216 : decode cX9_adds 216 = .ok (.getfield 16, 3) := by decide +kernel
theorem dX9_adds_219 : decode cX9_adds 219 = .ok (.invokestatic 148, 3) := by decide +kernel
theorem dX9_adds_222 : decode cX9_adds 222 = .ok (.iload_n 2, 1) := by decide +kernel
theorem dX9_adds_223 : decode cX9_adds 223 = .ok (.ireturn, 1) := by decide +kernel
set_option maxRecDepth 20000 in
theorem ggX9_cuts_X9_isTwo : GoodIn wsX9_cuts wsX9_isTwo := goodIn_r _ [7, 8, 9, 10, 6, 11, 12, 13, 14, 15, 32, 33, 34, 35, 36, 37, 38, 39, 40, 41, 42, 43, 44, 45, 46, 47, 48, 49, 50, 51, 52, 53, 54, 55, 56, 57, 58, 59, 60, 61, 62, 63, 64, 65, 66, 67] (by decide +kernel) (by decide +kernel)
set_option maxRecDepth 20000 in
theorem gX9_cuts_X9_isTwo : GoodIn wsX9_cuts (wsV RX9 220 RX9 yX9_isTwo wsX9_isTwo) := goodIn_app (goodIn_of _ (by decide +kernel)) ggX9_cuts_X9_isTwo
set_option maxRecDepth 20000 in
theorem ggX9_cuts_X9_has : GoodIn wsX9_cuts wsX9_has := goodIn_r _ [18] (by decide +kernel) (by decide +kernel)
set_option maxRecDepth 20000 in
theorem gX9_cuts_X9_has : GoodIn wsX9_cuts (va_wsS RX9 119 yX9_has wsX9_has) := goodIn_app (goodIn_of _ (by decide +kernel)) ggX9_cuts_X9_has
set_option maxRecDepth 20000 in
theorem ggX9_cuts_X9_notes : GoodIn wsX9_cuts wsX9_notes := goodIn_r _ [22, 23, 24, 2, 32, 33, 34, 35, 36, 37, 38, 39, 40, 41, 42, 43, 44, 45, 46, 47, 48, 49, 50, 51, 52, 53, 54, 55, 56, 57, 58, 59, 60, 61, 62, 63, 64, 65, 66, 67] (by decide +kernel) (by decide +kernel)
set_option maxRecDepth 20000 in
theorem gX9_cuts_X9_notes : GoodIn wsX9_cuts (wsV RX9 227 RX9 yX9_notes wsX9_notes) := goodIn_app (goodIn_of _ (by decide +kernel)) ggX9_cuts_X9_notes
set_option maxRecDepth 20000 in
theorem ggX9_cuts_X9_arcs : GoodIn wsX9_cuts wsX9_arcs := goodIn_r _ [28, 12, 2, 29, 30, 6, 31, 32, 33, 34, 35, 36, 37, 38, 39, 40, 41, 42, 43, 44, 45, 46, 47, 48, 49, 50, 51, 52, 53, 54, 55, 56, 57, 58, 59, 60, 61, 62, 63, 64, 65, 66, 67] (by decide +kernel) (by decide +kernel)
set_option maxRecDepth 20000 in
theorem gX9_cuts_X9_arcs : GoodIn wsX9_cuts (wsV RX9 204 RX9 yX9_arcs wsX9_arcs) := goodIn_app (goodIn_of _ (by decide +kernel)) ggX9_cuts_X9_arcs
theorem dX9_cuts_0 : decode cX9_cuts 0 = .ok (.aload_n 0, 1) := by decide +kernel
theorem dX9_cuts_1 : decode cX9_cuts 1 = .ok (.iconst 0, 1) := by decide +kernel
theorem dX9_cuts_2 : decode cX9_cuts 2 = .ok (.putfield 75, 3) := by decide +kernel
theorem dX9_cuts_5 : decode cX9_cuts 5 = .ok (.aload_n 0, 1) := by decide +kernel
theorem dX9_cuts_6 : decode cX9_cuts 6 = .ok (.iload_n 1, 1) := by decide +kernel
theorem dX9_cuts_7 : decode cX9_cuts 7 = .ok (.iload_n 2, 1) := by decide +kernel
theorem dX9_cuts_8 : decode cX9_cuts 8 = .ok (.invokevirtual 220, 3) := by decide +kernel
theorem dX9_cuts_11 : decode cX9_cuts 11 = .ok (.ifCond .ne 5, 3) := by decide +kernel
theorem dX9_cuts_14 : decode cX9_cuts 14 = .ok (.iconst (-1), 1) := by decide +kernel
theorem dX9_cuts_15 : decode cX9_cuts 15 = .ok (.ireturn, 1) := by decide +kernel
theorem dX9_cuts_16 : decode cX9_cuts 16 = .ok (.aload_n 0, 1) := by decide +kernel
theorem dX9_cuts_17 : decode cX9_cuts 17 = .ok (.getfield 16, 3) := by decide +kernel
theorem dX9_cuts_20 : decode cX9_cuts 20 = .ok (.iconst 0, 1) := by decide +kernel
theorem dX9_cuts_21 : decode cX9_cuts 21 = .ok (.iload_n 1, 1) := by decide +kernel
theorem dX9_cuts_22 : decode cX9_cuts 22 = .ok (.iadd, 1) := by decide +kernel
theorem dX9_cuts_23 : decode cX9_cuts 23 = .ok (.iaload, 1) := by decide +kernel
theorem dX9_cuts_24 : decode cX9_cuts 24 = .ok (.iload_n 2, 1) := by decide +kernel
theorem dX9_cuts_25 : decode cX9_cuts 25 = .ok (.invokestatic 119, 3) := by decide +kernel
theorem dX9_cuts_28 : decode cX9_cuts 28 = .ok (.ifCond .ne 6, 3) := by decide +kernel
theorem dX9_cuts_31 : decode cX9_cuts 31 = .ok (.bipush (-2), 2) := by decide +kernel
theorem dX9_cuts_33 : decode cX9_cuts 33 = .ok (.ireturn, 1) := by decide +kernel
theorem dX9_cuts_34 : decode cX9_cuts 34 = .ok (.aload_n 0, 1) := by decide +kernel
theorem dX9_cuts_35 : decode cX9_cuts 35 = .ok (.invokevirtual 227, 3) := by decide +kernel
theorem dX9_cuts_38 : decode cX9_cuts 38 = .ok (.aload_n 0, 1) := by decide +kernel
theorem dX9_cuts_39 : decode cX9_cuts 39 = .ok (.getfield 16, 3) := by decide +kernel
theorem dX9_cuts_42 : decode cX9_cuts 42 = .ok (.iconst 0, 1) := by decide +kernel
theorem dX9_cuts_43 : decode cX9_cuts 43 = .ok (.iload_n 1, 1) := by decide +kernel
theorem dX9_cuts_44 : decode cX9_cuts 44 = .ok (.iadd, 1) := by decide +kernel
theorem dX9_cuts_45 : decode cX9_cuts 45 = .ok (.dup2, 1) := by decide +kernel
theorem dX9_cuts_46 : decode cX9_cuts 46 = .ok (.iaload, 1) := by decide +kernel
theorem dX9_cuts_47 : decode cX9_cuts 47 = .ok (.iconst 1, 1) := by decide +kernel
theorem dX9_cuts_48 : decode cX9_cuts 48 = .ok (.iload_n 2, 1) := by decide +kernel
theorem dX9_cuts_49 : decode cX9_cuts 49 = .ok (.ishl, 1) := by decide +kernel
theorem dX9_cuts_50 : decode cX9_cuts 50 = .ok (.ixor, 1) := by decide +kernel
theorem dX9_cuts_51 : decode cX9_cuts 51 = .ok (.iastore, 1) := by decide +kernel
theorem dX9_cuts_52 : decode cX9_cuts 52 = .ok (.aload_n 0, 1) := by decide +kernel
theorem dX9_cuts_53 : decode cX9_cuts 53 = .ok (.invokevirtual 204, 3) := by decide +kernel
theorem dX9_cuts_56 : decode cX9_cuts 56 = .ok (.ireturn, 1) := by decide +kernel
set_option maxRecDepth 20000 in
theorem ggX9_sorts_X9_notes : GoodIn wsX9_sorts wsX9_notes := goodIn_r _ [10, 11, 12, 2, 43, 44, 45, 46, 47, 48, 49, 50, 51, 52, 53, 54, 55, 56, 57, 58, 59, 60, 61, 62, 63, 64, 65, 66, 67, 68, 69, 70, 71, 72, 73, 74, 75, 76, 77, 78] (by decide +kernel) (by decide +kernel)
set_option maxRecDepth 20000 in
theorem gX9_sorts_X9_notes : GoodIn wsX9_sorts (wsV RX9 227 RX9 yX9_notes wsX9_notes) := goodIn_app (goodIn_of _ (by decide +kernel)) ggX9_sorts_X9_notes
set_option maxRecDepth 20000 in
theorem ggX9_sorts_X9_copies : GoodIn wsX9_sorts wsX9_copies := goodIn_r _ [15] (by decide +kernel) (by decide +kernel)
set_option maxRecDepth 20000 in
theorem gX9_sorts_X9_copies : GoodIn wsX9_sorts (va_wsS RX9 148 yX9_copies wsX9_copies) := goodIn_app (goodIn_of _ (by decide +kernel)) ggX9_sorts_X9_copies
set_option maxRecDepth 20000 in
theorem ggX9_sorts_X9_counts : GoodIn wsX9_sorts wsX9_counts := goodIn_r _ [19, 4, 20, 21, 22, 23, 9, 24, 25, 26, 27, 28, 29, 30, 31, 2, 43, 44, 45, 46, 47, 48, 49, 50, 51, 52, 53, 54, 55, 56, 57, 58, 59, 60, 61, 62, 63, 64, 65, 66, 67, 68, 69, 70, 71, 72, 73, 74, 75, 76, 77, 78] (by decide +kernel) (by decide +kernel)
set_option maxRecDepth 20000 in
theorem gX9_sorts_X9_counts : GoodIn wsX9_sorts (wsV RX9 230 RX9 yX9_counts wsX9_counts) := goodIn_app (goodIn_of _ (by decide +kernel)) ggX9_sorts_X9_counts
set_option maxRecDepth 20000 in
theorem ggX9_sorts_X9_orderOf : GoodIn wsX9_sorts wsX9_orderOf := goodIn_r _ [35, 4, 20, 5, 21, 22, 23, 9, 24, 25, 26, 27, 28, 29, 30, 31, 2, 43, 44, 45, 46, 47, 48, 49, 50, 51, 52, 53, 54, 55, 56, 57, 58, 59, 60, 61, 62, 63, 64, 65, 66, 67, 68, 69, 70, 71, 72, 73, 74, 75, 76, 77, 78] (by decide +kernel) (by decide +kernel)
set_option maxRecDepth 20000 in
theorem gX9_sorts_X9_orderOf : GoodIn wsX9_sorts (wsV RX9 233 RX9 yX9_orderOf wsX9_orderOf) := goodIn_app (goodIn_of _ (by decide +kernel)) ggX9_sorts_X9_orderOf
set_option maxRecDepth 20000 in
theorem ggX9_sorts_X9_moved : GoodIn wsX9_sorts wsX9_moved := goodIn_r _ [39, 4, 43, 44, 45, 46, 47, 48, 49, 50, 51, 52, 53, 54, 55, 56, 57, 58, 59, 60, 61, 62, 63, 64, 65, 66, 67, 68, 69, 70, 71, 72, 73, 74, 75, 76, 77, 78] (by decide +kernel) (by decide +kernel)
set_option maxRecDepth 20000 in
theorem gX9_sorts_X9_moved : GoodIn wsX9_sorts (wsV RX9 178 RX9 yX9_moved wsX9_moved) := goodIn_app (goodIn_of _ (by decide +kernel)) ggX9_sorts_X9_moved
set_option maxRecDepth 20000 in
theorem ggX9_sorts_X9_ones : GoodIn wsX9_sorts wsX9_ones := goodIn_r _ [42] (by decide +kernel) (by decide +kernel)
set_option maxRecDepth 20000 in
theorem gX9_sorts_X9_ones : GoodIn wsX9_sorts (va_wsS RX9 194 yX9_ones wsX9_ones) := goodIn_app (goodIn_of _ (by decide +kernel)) ggX9_sorts_X9_ones
theorem dX9_sorts_0 : decode cX9_sorts 0 = .ok (.aload_n 0, 1) := by decide +kernel
theorem dX9_sorts_1 : decode cX9_sorts 1 = .ok (.iconst 0, 1) := by decide +kernel
theorem dX9_sorts_2 : decode cX9_sorts 2 = .ok (.putfield 75, 3) := by decide +kernel
theorem dX9_sorts_5 : decode cX9_sorts 5 = .ok (.aload_n 0, 1) := by decide +kernel
theorem dX9_sorts_6 : decode cX9_sorts 6 = .ok (.invokevirtual 227, 3) := by decide +kernel
theorem dX9_sorts_9 : decode cX9_sorts 9 = .ok (.aload_n 0, 1) := by decide +kernel
theorem dX9_sorts_10 : decode cX9_sorts 10 = .ok (.getfield 16, 3) := by decide +kernel
theorem dX9_sorts_13 : decode cX9_sorts 13 = .ok (.aload_n 0, 1) := by decide +kernel
theorem dX9_sorts_14 : decode cX9_sorts 14 = .ok (.getfield 22, 3) := by decide +kernel
theorem dX9_sorts_17 : decode cX9_sorts 17 = .ok (.invokestatic 148, 3) := by decide +kernel
theorem dX9_sorts_20 : decode cX9_sorts 20 = .ok (.aload_n 0, 1) := by decide +kernel
theorem dX9_sorts_21 : decode cX9_sorts 21 = .ok (.invokevirtual 230, 3) := by decide +kernel
theorem dX9_sorts_24 : decode cX9_sorts 24 = .ok (.aload_n 0, 1) := by decide +kernel
theorem dX9_sorts_25 : decode cX9_sorts 25 = .ok (.lconst 0, 1) := by decide +kernel
theorem dX9_sorts_26 : decode cX9_sorts 26 = .ok (.invokevirtual 233, 3) := by decide +kernel
theorem dX9_sorts_29 : decode cX9_sorts 29 = .ok (.iconst 0, 1) := by decide +kernel
theorem dX9_sorts_30 : decode cX9_sorts 30 = .ok (.istore_n 1, 1) := by decide +kernel
theorem dX9_sorts_31 : decode cX9_sorts 31 = .ok (.iload_n 1, 1) := by decide +kernel
theorem dX9_sorts_32 : decode cX9_sorts 32 = .ok (.aload_n 0, 1) := by decide +kernel
theorem dX9_sorts_33 : decode cX9_sorts 33 = .ok (.getfield 145, 3) := by decide +kernel
theorem dX9_sorts_36 : decode cX9_sorts 36 = .ok (.if_icmp .ge 24, 3) := by decide +kernel
theorem dX9_sorts_39 : decode cX9_sorts 39 = .ok (.aload_n 0, 1) := by decide +kernel
theorem dX9_sorts_40 : decode cX9_sorts 40 = .ok (.getfield 16, 3) := by decide +kernel
theorem dX9_sorts_43 : decode cX9_sorts 43 = .ok (.bipush 12, 2) := by decide +kernel
theorem dX9_sorts_45 : decode cX9_sorts 45 = .ok (.aload_n 0, 1) := by decide +kernel
theorem dX9_sorts_46 : decode cX9_sorts 46 = .ok (.getfield 60, 3) := by decide +kernel
theorem dX9_sorts_49 : decode cX9_sorts 49 = .ok (.iload_n 1, 1) := by decide +kernel
theorem dX9_sorts_50 : decode cX9_sorts 50 = .ok (.iaload, 1) := by decide +kernel
theorem dX9_sorts_51 : decode cX9_sorts 51 = .ok (.iadd, 1) := by decide +kernel
theorem dX9_sorts_52 : decode cX9_sorts 52 = .ok (.iload_n 1, 1) := by decide +kernel
theorem dX9_sorts_53 : decode cX9_sorts 53 = .ok (.iastore, 1) := by decide +kernel
theorem dX9_sorts_54 : decode cX9_sorts 54 = .ok (.iinc 1 1, 3) := by decide +kernel
theorem dX9_sorts_57 : decode cX9_sorts 57 = .ok (.goto (-26), 3) := by decide +kernel
theorem dX9_sorts_60 : decode cX9_sorts 60 = .ok (.aload_n 0, 1) := by decide +kernel
theorem dX9_sorts_61 : decode cX9_sorts 61 = .ok (.aload_n 0, 1) := by decide +kernel
theorem dX9_sorts_62 : decode cX9_sorts 62 = .ok (.getfield 22, 3) := by decide +kernel
theorem dX9_sorts_65 : decode cX9_sorts 65 = .ok (.aload_n 0, 1) := by decide +kernel
theorem dX9_sorts_66 : decode cX9_sorts 66 = .ok (.getfield 16, 3) := by decide +kernel
theorem dX9_sorts_69 : decode cX9_sorts 69 = .ok (.invokevirtual 178, 3) := by decide +kernel
theorem dX9_sorts_72 : decode cX9_sorts 72 = .ok (.invokestatic 194, 3) := by decide +kernel
theorem dX9_sorts_75 : decode cX9_sorts 75 = .ok (.ireturn, 1) := by decide +kernel
theorem dX9_undo_0 : decode cX9_undo 0 = .ok (.aload_n 0, 1) := by decide +kernel
theorem dX9_undo_1 : decode cX9_undo 1 = .ok (.iconst 0, 1) := by decide +kernel
theorem dX9_undo_2 : decode cX9_undo 2 = .ok (.putfield 75, 3) := by decide +kernel
theorem dX9_undo_5 : decode cX9_undo 5 = .ok (.aload_n 0, 1) := by decide +kernel
theorem dX9_undo_6 : decode cX9_undo 6 = .ok (.getfield 158, 3) := by decide +kernel
theorem dX9_undo_9 : decode cX9_undo 9 = .ok (.ifCond .ne 6, 3) := by decide +kernel
theorem dX9_undo_12 : decode cX9_undo 12 = .ok (.bipush (-2), 2) := by decide +kernel
theorem dX9_undo_14 : decode cX9_undo 14 = .ok (.ireturn, 1) := by decide +kernel
theorem dX9_undo_15 : decode cX9_undo 15 = .ok (.aload_n 0, 1) := by decide +kernel
theorem dX9_undo_16 : decode cX9_undo 16 = .ok (.dup, 1) := by decide +kernel
theorem dX9_undo_17 : decode cX9_undo 17 = .ok (.getfield 158, 3) := by decide +kernel
theorem dX9_undo_20 : decode cX9_undo 20 = .ok (.iconst 1, 1) := by decide +kernel
theorem dX9_undo_21 : decode cX9_undo 21 = .ok (.isub, 1) := by decide +kernel
theorem dX9_undo_22 : decode cX9_undo 22 = .ok (.putfield 158, 3) := by decide +kernel
theorem dX9_undo_25 : decode cX9_undo 25 = .ok (.iconst 0, 1) := by decide +kernel
theorem dX9_undo_26 : decode cX9_undo 26 = .ok (.istore_n 1, 1) := by decide +kernel
theorem dX9_undo_27 : decode cX9_undo 27 = .ok (.iload_n 1, 1) := by decide +kernel
theorem dX9_undo_28 : decode cX9_undo 28 = .ok (.bipush 24, 2) := by decide +kernel
theorem dX9_undo_30 : decode cX9_undo 30 = .ok (.if_icmp .ge 29, 3) := by decide +kernel
theorem dX9_undo_33 : decode cX9_undo 33 = .ok (.aload_n 0, 1) := by decide +kernel
theorem dX9_undo_34 : decode cX9_undo 34 = .ok (.getfield 16, 3) := by decide +kernel
theorem dX9_undo_37 : decode cX9_undo 37 = .ok (.iload_n 1, 1) := by decide +kernel
theorem dX9_undo_38 : decode cX9_undo 38 = .ok (.aload_n 0, 1) := by decide +kernel
theorem dX9_undo_39 : decode cX9_undo 39 = .ok (.getfield 32, 3) := by decide +kernel
theorem dX9_undo_42 : decode cX9_undo 42 = .ok (.bipush 24, 2) := by decide +kernel
theorem dX9_undo_44 : decode cX9_undo 44 = .ok (.aload_n 0, 1) := by decide +kernel
theorem dX9_undo_45 : decode cX9_undo 45 = .ok (.getfield 158, 3) := by decide +kernel
theorem dX9_undo_48 : decode cX9_undo 48 = .ok (.imul, 1) := by decide +kernel
theorem dX9_undo_49 : decode cX9_undo 49 = .ok (.iload_n 1, 1) := by decide +kernel
theorem dX9_undo_50 : decode cX9_undo 50 = .ok (.iadd, 1) := by decide +kernel
theorem dX9_undo_51 : decode cX9_undo 51 = .ok (.iaload, 1) := by decide +kernel
theorem dX9_undo_52 : decode cX9_undo 52 = .ok (.iastore, 1) := by decide +kernel
theorem dX9_undo_53 : decode cX9_undo 53 = .ok (.iinc 1 1, 3) := by decide +kernel
theorem dX9_undo_56 : decode cX9_undo 56 = .ok (.goto (-29), 3) := by decide +kernel
theorem dX9_undo_59 : decode cX9_undo 59 = .ok (.aload_n 0, 1) := by decide +kernel
theorem dX9_undo_60 : decode cX9_undo 60 = .ok (.getfield 158, 3) := by decide +kernel
theorem dX9_undo_63 : decode cX9_undo 63 = .ok (.ireturn, 1) := by decide +kernel
set_option maxRecDepth 20000 in
theorem ggX9_arc_X9_isTwo : GoodIn wsX9_arc wsX9_isTwo := goodIn_r _ [10, 11, 12, 13, 9, 14, 15, 16, 17, 18, 47, 48, 49, 50, 51, 52, 53, 54, 55, 56, 57, 58, 59, 60, 61, 62, 63, 64, 65, 66, 67, 68, 69, 70, 71, 72, 73, 74, 75, 76, 77, 78, 79, 80, 81, 82] (by decide +kernel) (by decide +kernel)
set_option maxRecDepth 20000 in
theorem gX9_arc_X9_isTwo : GoodIn wsX9_arc (wsV RX9 220 RX9 yX9_isTwo wsX9_isTwo) := goodIn_app (goodIn_of _ (by decide +kernel)) ggX9_arc_X9_isTwo
set_option maxRecDepth 20000 in
theorem ggX9_arc_X9_in : GoodIn wsX9_arc wsX9_in := goodIn_r _ [18] (by decide +kernel) (by decide +kernel)
set_option maxRecDepth 20000 in
theorem gX9_arc_X9_in : GoodIn wsX9_arc (va_wsS RX9 79 yX9_in wsX9_in) := goodIn_app (goodIn_of _ (by decide +kernel)) ggX9_arc_X9_in
set_option maxRecDepth 20000 in
theorem ggX9_arc_X9_has : GoodIn wsX9_arc wsX9_has := goodIn_r _ [21] (by decide +kernel) (by decide +kernel)
set_option maxRecDepth 20000 in
theorem gX9_arc_X9_has : GoodIn wsX9_arc (va_wsS RX9 119 yX9_has wsX9_has) := goodIn_app (goodIn_of _ (by decide +kernel)) ggX9_arc_X9_has
set_option maxRecDepth 20000 in
theorem ggX9_arc_X9_movedBy : GoodIn wsX9_arc wsX9_movedBy := goodIn_r _ [25, 2, 15, 3, 4, 26, 27, 28, 29, 9, 30, 5, 16, 17, 18, 19, 20, 21, 31, 32, 33, 34, 35, 36, 37, 38, 39, 40, 41, 42, 43, 44, 45, 46, 47, 48, 49, 50, 51, 52, 53, 54, 55, 56, 57, 58, 59, 60, 61, 62, 63, 64, 65, 66, 67, 68, 69, 70, 71, 72, 73, 74, 75, 76, 77, 78, 79, 80, 81, 82] (by decide +kernel) (by decide +kernel)
set_option maxRecDepth 20000 in
theorem gX9_arc_X9_movedBy : GoodIn wsX9_arc (wsV RX9 197 RX9 yX9_movedBy wsX9_movedBy) := goodIn_app (goodIn_of _ (by decide +kernel)) ggX9_arc_X9_movedBy
theorem dX9_arc_0 : decode cX9_arc 0 = .ok (.aload_n 0, 1) := by decide +kernel
theorem dX9_arc_1 : decode cX9_arc 1 = .ok (.iconst 0, 1) := by decide +kernel
theorem dX9_arc_2 : decode cX9_arc 2 = .ok (.putfield 75, 3) := by decide +kernel
theorem dX9_arc_5 : decode cX9_arc 5 = .ok (.aload_n 0, 1) := by decide +kernel
theorem dX9_arc_6 : decode cX9_arc 6 = .ok (.iload_n 1, 1) := by decide +kernel
theorem dX9_arc_7 : decode cX9_arc 7 = .ok (.iload_n 2, 1) := by decide +kernel
theorem dX9_arc_8 : decode cX9_arc 8 = .ok (.invokevirtual 220, 3) := by decide +kernel
theorem dX9_arc_11 : decode cX9_arc 11 = .ok (.ifCond .eq 12, 3) := by decide +kernel
theorem dX9_arc_14 : decode cX9_arc 14 = .ok (.iload_n 3, 1) := by decide +kernel
theorem dX9_arc_15 : decode cX9_arc 15 = .ok (.iconst 0, 1) := by decide +kernel
theorem dX9_arc_16 : decode cX9_arc 16 = .ok (.iconst 3, 1) := by decide +kernel
theorem dX9_arc_17 : decode cX9_arc 17 = .ok (.invokestatic 79, 3) := by decide +kernel
theorem dX9_arc_20 : decode cX9_arc 20 = .ok (.ifCond .ne 5, 3) := by decide +kernel
theorem dX9_arc_23 : decode cX9_arc 23 = .ok (.iconst (-1), 1) := by decide +kernel
theorem dX9_arc_24 : decode cX9_arc 24 = .ok (.ireturn, 1) := by decide +kernel
theorem dX9_arc_25 : decode cX9_arc 25 = .ok (.aload_n 0, 1) := by decide +kernel
theorem dX9_arc_26 : decode cX9_arc 26 = .ok (.getfield 16, 3) := by decide +kernel
theorem dX9_arc_29 : decode cX9_arc 29 = .ok (.iconst 0, 1) := by decide +kernel
theorem dX9_arc_30 : decode cX9_arc 30 = .ok (.iload_n 1, 1) := by decide +kernel
theorem dX9_arc_31 : decode cX9_arc 31 = .ok (.iadd, 1) := by decide +kernel
theorem dX9_arc_32 : decode cX9_arc 32 = .ok (.iaload, 1) := by decide +kernel
theorem dX9_arc_33 : decode cX9_arc 33 = .ok (.iload_n 2, 1) := by decide +kernel
theorem dX9_arc_34 : decode cX9_arc 34 = .ok (.invokestatic 119, 3) := by decide +kernel
theorem dX9_arc_37 : decode cX9_arc 37 = .ok (.ifCond .eq 6, 3) := by decide +kernel
theorem dX9_arc_40 : decode cX9_arc 40 = .ok (.bipush (-2), 2) := by decide +kernel
theorem dX9_arc_42 : decode cX9_arc 42 = .ok (.ireturn, 1) := by decide +kernel
theorem dX9_arc_43 : decode cX9_arc 43 = .ok (.aload_n 0, 1) := by decide +kernel
theorem dX9_arc_44 : decode cX9_arc 44 = .ok (.iload_n 1, 1) := by decide +kernel
theorem dX9_arc_45 : decode cX9_arc 45 = .ok (.iload_n 2, 1) := by decide +kernel
theorem dX9_arc_46 : decode cX9_arc 46 = .ok (.invokevirtual 197, 3) := by decide +kernel
theorem dX9_arc_49 : decode cX9_arc 49 = .ok (.istore 4, 2) := by decide +kernel
theorem dX9_arc_51 : decode cX9_arc 51 = .ok (.iload_n 3, 1) := by decide +kernel
theorem dX9_arc_52 : decode cX9_arc 52 = .ok (.ifCond .ne 8, 3) := by decide +kernel
theorem dX9_arc_55 : decode cX9_arc 55 = .ok (.iload 4, 2) := by decide +kernel
theorem dX9_arc_57 : decode cX9_arc 57 = .ok (.goto 39, 3) := by decide +kernel
theorem dX9_arc_60 : decode cX9_arc 60 = .ok (.iload_n 3, 1) := by decide +kernel
theorem dX9_arc_61 : decode cX9_arc 61 = .ok (.iconst 1, 1) := by decide +kernel
theorem dX9_arc_62 : decode cX9_arc 62 = .ok (.if_icmp .ne 18, 3) := by decide +kernel
theorem dX9_arc_65 : decode cX9_arc 65 = .ok (.aload_n 0, 1) := by decide +kernel
theorem dX9_arc_66 : decode cX9_arc 66 = .ok (.getfield 126, 3) := by decide +kernel
theorem dX9_arc_69 : decode cX9_arc 69 = .ok (.ifCond .eq 7, 3) := by decide +kernel
theorem dX9_arc_72 : decode cX9_arc 72 = .ok (.iconst 1, 1) := by decide +kernel
theorem dX9_arc_73 : decode cX9_arc 73 = .ok (.goto 23, 3) := by decide +kernel
theorem dX9_arc_76 : decode cX9_arc 76 = .ok (.iconst 0, 1) := by decide +kernel
theorem dX9_arc_77 : decode cX9_arc 77 = .ok (.goto 19, 3) := by decide +kernel
theorem dX9_arc_80 : decode cX9_arc 80 = .ok (.iload_n 3, 1) := by decide +kernel
theorem dX9_arc_81 : decode cX9_arc 81 = .ok (.iconst 2, 1) := by decide +kernel
theorem dX9_arc_82 : decode cX9_arc 82 = .ok (.if_icmp .ne 10, 3) := by decide +kernel
theorem dX9_arc_85 : decode cX9_arc 85 = .ok (.aload_n 0, 1) := by decide +kernel
theorem dX9_arc_86 : decode cX9_arc 86 = .ok (.getfield 164, 3) := by decide +kernel
theorem dX9_arc_89 : decode cX9_arc 89 = .ok (.goto 7, 3) := by decide +kernel
theorem dX9_arc_92 : decode cX9_arc 92 = .ok (.aload_n 0, 1) := by decide +kernel
theorem dX9_arc_93 : decode cX9_arc 93 = .ok (.getfield 167, 3) := by decide +kernel
theorem dX9_arc_96 : decode cX9_arc 96 = .ok (.ireturn, 1) := by decide +kernel
set_option maxRecDepth 20000 in
theorem ggX9_canNext_X9_has : GoodIn wsX9_canNext wsX9_has := goodIn_r _ [4] (by decide +kernel) (by decide +kernel)
set_option maxRecDepth 20000 in
theorem gX9_canNext_X9_has : GoodIn wsX9_canNext (va_wsS RX9 119 yX9_has wsX9_has) := goodIn_app (goodIn_of _ (by decide +kernel)) ggX9_canNext_X9_has
set_option maxRecDepth 20000 in
theorem ggX9_canNext_X9_into : GoodIn wsX9_canNext wsX9_into := goodIn_r _ [8, 9, 10, 1, 2, 3, 4, 11, 12, 13, 14, 15, 16, 17, 18, 19, 20, 21, 22, 23, 24, 25, 26, 27, 28, 29, 30, 31, 32, 33, 34, 35, 36, 37, 38, 39, 40, 41, 42, 43, 44, 45, 46] (by decide +kernel) (by decide +kernel)
set_option maxRecDepth 20000 in
theorem gX9_canNext_X9_into : GoodIn wsX9_canNext (wsV RX9 188 RX9 yX9_into wsX9_into) := goodIn_app (goodIn_of _ (by decide +kernel)) ggX9_canNext_X9_into
theorem dX9_canNext_0 : decode cX9_canNext 0 = .ok (.iload_n 1, 1) := by decide +kernel
theorem dX9_canNext_1 : decode cX9_canNext 1 = .ok (.iload_n 2, 1) := by decide +kernel
theorem dX9_canNext_2 : decode cX9_canNext 2 = .ok (.invokestatic 119, 3) := by decide +kernel
theorem dX9_canNext_5 : decode cX9_canNext 5 = .ok (.ifCond .ne 19, 3) := by decide +kernel
theorem dX9_canNext_8 : decode cX9_canNext 8 = .ok (.aload_n 0, 1) := by decide +kernel
theorem dX9_canNext_9 : decode cX9_canNext 9 = .ok (.iload_n 2, 1) := by decide +kernel
theorem dX9_canNext_10 : decode cX9_canNext 10 = .ok (.invokevirtual 188, 3) := by decide +kernel
theorem dX9_canNext_13 : decode cX9_canNext 13 = .ok (.iload_n 1, 1) := by decide +kernel
theorem dX9_canNext_14 : decode cX9_canNext 14 = .ok (.iconst (-1), 1) := by decide +kernel
theorem dX9_canNext_15 : decode cX9_canNext 15 = .ok (.ixor, 1) := by decide +kernel
theorem dX9_canNext_16 : decode cX9_canNext 16 = .ok (.iand, 1) := by decide +kernel
theorem dX9_canNext_17 : decode cX9_canNext 17 = .ok (.ifCond .ne 7, 3) := by decide +kernel
theorem dX9_canNext_20 : decode cX9_canNext 20 = .ok (.iconst 1, 1) := by decide +kernel
theorem dX9_canNext_21 : decode cX9_canNext 21 = .ok (.goto 4, 3) := by decide +kernel
theorem dX9_canNext_24 : decode cX9_canNext 24 = .ok (.iconst 0, 1) := by decide +kernel
theorem dX9_canNext_25 : decode cX9_canNext 25 = .ok (.ireturn, 1) := by decide +kernel
set_option maxRecDepth 20000 in
theorem ggX9_counts_X9_canNext : GoodIn wsX9_counts wsX9_canNext := goodIn_r _ [7, 8, 9, 6, 10, 11, 12, 13, 14, 1, 15, 16, 17, 18, 19, 20, 21, 22, 23, 24, 25, 26, 27, 28, 29, 30, 31, 32, 33, 34, 35, 36, 37, 38, 39, 40, 41, 42, 43, 44, 45, 46, 47, 48, 49, 50, 51] (by decide +kernel) (by decide +kernel)
set_option maxRecDepth 20000 in
theorem gX9_counts_X9_canNext : GoodIn wsX9_counts (wsV RX9 237 RX9 yX9_canNext wsX9_canNext) := goodIn_app (goodIn_of _ (by decide +kernel)) ggX9_counts_X9_canNext
theorem dX9_counts_0 : decode cX9_counts 0 = .ok (.iconst 1, 1) := by decide +kernel
theorem dX9_counts_1 : decode cX9_counts 1 = .ok (.aload_n 0, 1) := by decide +kernel
theorem dX9_counts_2 : decode cX9_counts 2 = .ok (.getfield 145, 3) := by decide +kernel
theorem dX9_counts_5 : decode cX9_counts 5 = .ok (.ishl, 1) := by decide +kernel
theorem dX9_counts_6 : decode cX9_counts 6 = .ok (.iconst 1, 1) := by decide +kernel
theorem dX9_counts_7 : decode cX9_counts 7 = .ok (.isub, 1) := by decide +kernel
theorem dX9_counts_8 : decode cX9_counts 8 = .ok (.istore_n 1, 1) := by decide +kernel
theorem dX9_counts_9 : decode cX9_counts 9 = .ok (.iload_n 1, 1) := by decide +kernel
theorem dX9_counts_10 : decode cX9_counts 10 = .ok (.istore_n 2, 1) := by decide +kernel
theorem dX9_counts_11 : decode cX9_counts 11 = .ok (.iload_n 2, 1) := by decide +kernel
theorem dX9_counts_12 : decode cX9_counts 12 = .ok (.ifCond .lt 73, 3) := by decide +kernel
theorem dX9_counts_15 : decode cX9_counts 15 = .ok (.aload_n 0, 1) := by decide +kernel
theorem dX9_counts_16 : decode cX9_counts 16 = .ok (.getfield 53, 3) := by decide +kernel
theorem dX9_counts_19 : decode cX9_counts 19 = .ok (.iload_n 2, 1) := by decide +kernel
theorem dX9_counts_20 : decode cX9_counts 20 = .ok (.iload_n 2, 1) := by decide +kernel
theorem dX9_counts_21 : decode cX9_counts 21 = .ok (.iload_n 1, 1) := by decide +kernel
theorem dX9_counts_22 : decode cX9_counts 22 = .ok (.if_icmp .ne 7, 3) := by decide +kernel
theorem dX9_counts_25 : decode cX9_counts 25 = .ok (.lconst 1, 1) := by decide +kernel
theorem dX9_counts_26 : decode cX9_counts 26 = .ok (.goto 4, 3) := by decide +kernel
theorem dX9_counts_29 : decode cX9_counts 29 = .ok (.lconst 0, 1) := by decide +kernel
theorem dX9_counts_30 : decode cX9_counts 30 = .ok (.lastore, 1) := by decide +kernel
theorem dX9_counts_31 : decode cX9_counts 31 = .ok (.iconst 0, 1) := by decide +kernel
theorem dX9_counts_32 : decode cX9_counts 32 = .ok (.istore_n 3, 1) := by decide +kernel
theorem dX9_counts_33 : decode cX9_counts 33 = .ok (.iload_n 3, 1) := by decide +kernel
theorem dX9_counts_34 : decode cX9_counts 34 = .ok (.aload_n 0, 1) := by decide +kernel
theorem dX9_counts_35 : decode cX9_counts 35 = .ok (.getfield 145, 3) := by decide +kernel
theorem dX9_counts_38 : decode cX9_counts 38 = .ok (.if_icmp .ge 41, 3) := by decide +kernel
theorem dX9_counts_41 : decode cX9_counts 41 = .ok (.aload_n 0, 1) := by decide +kernel
theorem dX9_counts_42 : decode cX9_counts 42 = .ok (.getfield 53, 3) := by decide +kernel
theorem dX9_counts_45 : decode cX9_counts 45 = .ok (.iload_n 2, 1) := by decide +kernel
theorem dX9_counts_46 : decode cX9_counts 46 = .ok (.dup2, 1) := by decide +kernel
theorem dX9_counts_47 : decode cX9_counts 47 = .ok (.laload, 1) := by decide +kernel
theorem dX9_counts_48 : decode cX9_counts 48 = .ok (.aload_n 0, 1) := by decide +kernel
theorem dX9_counts_49 : decode cX9_counts 49 = .ok (.iload_n 2, 1) := by decide +kernel
theorem dX9_counts_50 : decode cX9_counts 50 = .ok (.iload_n 3, 1) := by decide +kernel
theorem dX9_counts_51 : decode cX9_counts 51 = .ok (.invokevirtual 237, 3) := by decide +kernel
theorem dX9_counts_54 : decode cX9_counts 54 = .ok (.ifCond .eq 16, 3) := by decide +kernel
theorem dX9_counts_57 : decode cX9_counts 57 = .ok (.aload_n 0, 1) := by decide +kernel
theorem dX9_counts_58 : decode cX9_counts 58 = .ok (.getfield 53, 3) := by decide +kernel
theorem dX9_counts_61 : decode cX9_counts 61 = .ok (.iload_n 2, 1) := by decide +kernel
theorem dX9_counts_62 : decode cX9_counts 62 = .ok (.iconst 1, 1) := by decide +kernel
theorem dX9_counts_63 : decode cX9_counts 63 = .ok (.iload_n 3, 1) := by decide +kernel
theorem dX9_counts_64 : decode cX9_counts 64 = .ok (.ishl, 1) := by decide +kernel
theorem dX9_counts_65 : decode cX9_counts 65 = .ok (.ior, 1) := by decide +kernel
theorem dX9_counts_66 : decode cX9_counts 66 = .ok (.laload, 1) := by decide +kernel
theorem dX9_counts_67 : decode cX9_counts 67 = .ok (.goto 4, 3) := by decide +kernel
theorem dX9_counts_70 : decode cX9_counts 70 = .ok (.lconst 0, 1) := by decide +kernel
theorem dX9_counts_71 : decode cX9_counts 71 = .ok (.ladd, 1) := by decide +kernel
theorem dX9_counts_72 : decode cX9_counts 72 = .ok (.lastore, 1) := by decide +kernel
theorem dX9_counts_73 : decode cX9_counts 73 = .ok (.iinc 3 1, 3) := by decide +kernel
theorem dX9_counts_76 : decode cX9_counts 76 = .ok (.goto (-43), 3) := by decide +kernel
theorem dX9_counts_79 : decode cX9_counts 79 = .ok (.iinc 2 (-1), 3) := by decide +kernel
theorem dX9_counts_82 : decode cX9_counts 82 = .ok (.goto (-71), 3) := by decide +kernel
theorem dX9_counts_85 : decode cX9_counts 85 = .ok (.return_, 1) := by decide +kernel
set_option maxRecDepth 20000 in
theorem ggX9_orderOf_X9_canNext : GoodIn wsX9_orderOf wsX9_canNext := goodIn_r _ [8, 9, 10, 7, 11, 12, 13, 14, 15, 1, 16, 17, 18, 19, 20, 21, 22, 23, 24, 25, 26, 27, 28, 29, 30, 31, 32, 33, 34, 35, 36, 37, 38, 39, 40, 41, 42, 43, 44, 45, 46, 47, 48, 49, 50, 51, 52] (by decide +kernel) (by decide +kernel)
set_option maxRecDepth 20000 in
theorem gX9_orderOf_X9_canNext : GoodIn wsX9_orderOf (wsV RX9 237 RX9 yX9_canNext wsX9_canNext) := goodIn_app (goodIn_of _ (by decide +kernel)) ggX9_orderOf_X9_canNext
theorem dX9_orderOf_0 : decode cX9_orderOf 0 = .ok (.lload_n 1, 1) := by decide +kernel
theorem dX9_orderOf_1 : decode cX9_orderOf 1 = .ok (.lstore_n 3, 1) := by decide +kernel
theorem dX9_orderOf_2 : decode cX9_orderOf 2 = .ok (.iconst 0, 1) := by decide +kernel
theorem dX9_orderOf_3 : decode cX9_orderOf 3 = .ok (.istore 5, 2) := by decide +kernel
theorem dX9_orderOf_5 : decode cX9_orderOf 5 = .ok (.iconst 0, 1) := by decide +kernel
theorem dX9_orderOf_6 : decode cX9_orderOf 6 = .ok (.istore 6, 2) := by decide +kernel
theorem dX9_orderOf_8 : decode cX9_orderOf 8 = .ok (.iload 6, 2) := by decide +kernel
theorem dX9_orderOf_10 : decode cX9_orderOf 10 = .ok (.aload_n 0, 1) := by decide +kernel
theorem dX9_orderOf_11 : decode cX9_orderOf 11 = .ok (.getfield 145, 3) := by decide +kernel
theorem dX9_orderOf_14 : decode cX9_orderOf 14 = .ok (.if_icmp .ge 94, 3) := by decide +kernel
theorem dX9_orderOf_17 : decode cX9_orderOf 17 = .ok (.iconst 0, 1) := by decide +kernel
theorem dX9_orderOf_18 : decode cX9_orderOf 18 = .ok (.istore 7, 2) := by decide +kernel
theorem dX9_orderOf_20 : decode cX9_orderOf 20 = .ok (.aload_n 0, 1) := by decide +kernel
theorem dX9_orderOf_21 : decode cX9_orderOf 21 = .ok (.iload 5, 2) := by decide +kernel
theorem dX9_orderOf_23 : decode cX9_orderOf 23 = .ok (.iload 7, 2) := by decide +kernel
theorem dX9_orderOf_25 : decode cX9_orderOf 25 = .ok (.invokevirtual 237, 3) := by decide +kernel
theorem dX9_orderOf_28 : decode cX9_orderOf 28 = .ok (.ifCond .eq 20, 3) := by decide +kernel
theorem dX9_orderOf_31 : decode cX9_orderOf 31 = .ok (.lload_n 3, 1) := by decide +kernel
theorem dX9_orderOf_32 : decode cX9_orderOf 32 = .ok (.aload_n 0, 1) := by decide +kernel
theorem dX9_orderOf_33 : decode cX9_orderOf 33 = .ok (.getfield 53, 3) := by decide +kernel
theorem dX9_orderOf_36 : decode cX9_orderOf 36 = .ok (.iload 5, 2) := by decide +kernel
theorem dX9_orderOf_38 : decode cX9_orderOf 38 = .ok (.iconst 1, 1) := by decide +kernel
theorem dX9_orderOf_39 : decode cX9_orderOf 39 = .ok (.iload 7, 2) := by decide +kernel
theorem dX9_orderOf_41 : decode cX9_orderOf 41 = .ok (.ishl, 1) := by decide +kernel
theorem dX9_orderOf_42 : decode cX9_orderOf 42 = .ok (.ior, 1) := by decide +kernel
theorem dX9_orderOf_43 : decode cX9_orderOf 43 = .ok (.laload, 1) := by decide +kernel
theorem dX9_orderOf_44 : decode cX9_orderOf 44 = .ok (.lcmp, 1) := by decide +kernel
theorem dX9_orderOf_45 : decode cX9_orderOf 45 = .ok (.ifCond .lt 39, 3) := by decide +kernel
theorem dX9_orderOf_48 : decode cX9_orderOf 48 = .ok (.lload_n 3, 1) := by decide +kernel
theorem dX9_orderOf_49 : decode cX9_orderOf 49 = .ok (.aload_n 0, 1) := by decide +kernel
theorem dX9_orderOf_50 : decode cX9_orderOf 50 = .ok (.iload 5, 2) := by decide +kernel
theorem dX9_orderOf_52 : decode cX9_orderOf 52 = .ok (.iload 7, 2) := by decide +kernel
theorem dX9_orderOf_54 : decode cX9_orderOf 54 = .ok (.invokevirtual 237, 3) := by decide +kernel
theorem dX9_orderOf_57 : decode cX9_orderOf 57 = .ok (.ifCond .eq 18, 3) := by decide +kernel
theorem dX9_orderOf_60 : decode cX9_orderOf 60 = .ok (.aload_n 0, 1) := by decide +kernel
theorem dX9_orderOf_61 : decode cX9_orderOf 61 = .ok (.getfield 53, 3) := by decide +kernel
theorem dX9_orderOf_64 : decode cX9_orderOf 64 = .ok (.iload 5, 2) := by decide +kernel
theorem dX9_orderOf_66 : decode cX9_orderOf 66 = .ok (.iconst 1, 1) := by decide +kernel
theorem dX9_orderOf_67 : decode cX9_orderOf 67 = .ok (.iload 7, 2) := by decide +kernel
theorem dX9_orderOf_69 : decode cX9_orderOf 69 = .ok (.ishl, 1) := by decide +kernel
theorem dX9_orderOf_70 : decode cX9_orderOf 70 = .ok (.ior, 1) := by decide +kernel
theorem dX9_orderOf_71 : decode cX9_orderOf 71 = .ok (.laload, 1) := by decide +kernel
theorem dX9_orderOf_72 : decode cX9_orderOf 72 = .ok (.goto 4, 3) := by decide +kernel
theorem dX9_orderOf_75 : decode cX9_orderOf 75 = .ok (.lconst 0, 1) := by decide +kernel
theorem dX9_orderOf_76 : decode cX9_orderOf 76 = .ok (.lsub, 1) := by decide +kernel
theorem dX9_orderOf_77 : decode cX9_orderOf 77 = .ok (.lstore_n 3, 1) := by decide +kernel
theorem dX9_orderOf_78 : decode cX9_orderOf 78 = .ok (.iinc 7 1, 3) := by decide +kernel
theorem dX9_orderOf_81 : decode cX9_orderOf 81 = .ok (.goto (-61), 3) := by decide +kernel
theorem dX9_orderOf_84 : decode cX9_orderOf 84 = .ok (.aload_n 0, 1) := by decide +kernel
theorem dX9_orderOf_85 : decode cX9_orderOf 85 = .ok (.getfield 60, 3) := by decide +kernel
theorem dX9_orderOf_88 : decode cX9_orderOf 88 = .ok (.iload 6, 2) := by decide +kernel
theorem dX9_orderOf_90 : decode cX9_orderOf 90 = .ok (.iload 7, 2) := by decide +kernel
theorem dX9_orderOf_92 : decode cX9_orderOf 92 = .ok (.iastore, 1) := by decide +kernel
theorem dX9_orderOf_93 : decode cX9_orderOf 93 = .ok (.iload 5, 2) := by decide +kernel
theorem dX9_orderOf_95 : decode cX9_orderOf 95 = .ok (.iconst 1, 1) := by decide +kernel
theorem dX9_orderOf_96 : decode cX9_orderOf 96 = .ok (.iload 7, 2) := by decide +kernel
theorem dX9_orderOf_98 : decode cX9_orderOf 98 = .ok (.ishl, 1) := by decide +kernel
theorem dX9_orderOf_99 : decode cX9_orderOf 99 = .ok (.ior, 1) := by decide +kernel
theorem dX9_orderOf_100 : decode cX9_orderOf 100 = .ok (.istore 5, 2) := by decide +kernel
theorem dX9_orderOf_102 : decode cX9_orderOf 102 = .ok (.iinc 6 1, 3) := by decide +kernel
theorem dX9_orderOf_105 : decode cX9_orderOf 105 = .ok (.goto (-97), 3) := by decide +kernel
theorem dX9_orderOf_108 : decode cX9_orderOf 108 = .ok (.return_, 1) := by decide +kernel
set_option maxRecDepth 20000 in
theorem ggX9_orders_X9_counts : GoodIn wsX9_orders wsX9_counts := goodIn_r _ [7, 8, 2, 9, 10, 11, 6, 12, 13, 14, 15, 16, 17, 18, 19, 20, 21, 22, 23, 24, 25, 26, 27, 28, 29, 30, 31, 32, 33, 34, 35, 36, 37, 38, 39, 40, 41, 42, 43, 44, 45, 46, 47, 48, 49, 50, 51, 52, 53, 54, 55, 56] (by decide +kernel) (by decide +kernel)
set_option maxRecDepth 20000 in
theorem gX9_orders_X9_counts : GoodIn wsX9_orders (wsV RX9 230 RX9 yX9_counts wsX9_counts) := goodIn_app (goodIn_of _ (by decide +kernel)) ggX9_orders_X9_counts
theorem dX9_orders_0 : decode cX9_orders 0 = .ok (.aload_n 0, 1) := by decide +kernel
theorem dX9_orders_1 : decode cX9_orders 1 = .ok (.iconst 0, 1) := by decide +kernel
theorem dX9_orders_2 : decode cX9_orders 2 = .ok (.putfield 75, 3) := by decide +kernel
theorem dX9_orders_5 : decode cX9_orders 5 = .ok (.aload_n 0, 1) := by decide +kernel
theorem dX9_orders_6 : decode cX9_orders 6 = .ok (.invokevirtual 230, 3) := by decide +kernel
theorem dX9_orders_9 : decode cX9_orders 9 = .ok (.aload_n 0, 1) := by decide +kernel
theorem dX9_orders_10 : decode cX9_orders 10 = .ok (.getfield 53, 3) := by decide +kernel
theorem dX9_orders_13 : decode cX9_orders 13 = .ok (.iconst 0, 1) := by decide +kernel
theorem dX9_orders_14 : decode cX9_orders 14 = .ok (.laload, 1) := by decide +kernel
theorem dX9_orders_15 : decode cX9_orders 15 = .ok (.lreturn, 1) := by decide +kernel
set_option maxRecDepth 20000 in
theorem ggX9_number_X9_counts : GoodIn wsX9_number wsX9_counts := goodIn_r _ [9, 2, 4, 10, 11, 12, 8, 13, 14, 15, 16, 17, 18, 19, 20, 3, 24, 25, 26, 27, 28, 29, 30, 31, 32, 33, 34, 35, 36, 37, 38, 39, 40, 41, 42, 43, 44, 45, 46, 47, 48, 49, 50, 51, 52, 53, 54, 55, 56, 57, 58, 59] (by decide +kernel) (by decide +kernel)
set_option maxRecDepth 20000 in
theorem gX9_number_X9_counts : GoodIn wsX9_number (wsV RX9 230 RX9 yX9_counts wsX9_counts) := goodIn_app (goodIn_of _ (by decide +kernel)) ggX9_number_X9_counts
set_option maxRecDepth 20000 in
theorem ggX9_number_X9_itemAt : GoodIn wsX9_number wsX9_itemAt := goodIn_r _ [23] (by decide +kernel) (by decide +kernel)
set_option maxRecDepth 20000 in
theorem gX9_number_X9_itemAt : GoodIn wsX9_number (va_wsS RX9 170 yX9_itemAt wsX9_itemAt) := goodIn_app (goodIn_of _ (by decide +kernel)) ggX9_number_X9_itemAt
set_option maxRecDepth 20000 in
theorem ggX9_number_X9_canNext : GoodIn wsX9_number wsX9_canNext := goodIn_r _ [13, 14, 15, 8, 16, 17, 18, 19, 20, 2, 3, 24, 25, 26, 27, 28, 29, 30, 31, 32, 33, 34, 35, 36, 37, 38, 39, 40, 41, 42, 43, 44, 45, 46, 47, 48, 49, 50, 51, 52, 53, 54, 55, 56, 57, 58, 59] (by decide +kernel) (by decide +kernel)
set_option maxRecDepth 20000 in
theorem gX9_number_X9_canNext : GoodIn wsX9_number (wsV RX9 237 RX9 yX9_canNext wsX9_canNext) := goodIn_app (goodIn_of _ (by decide +kernel)) ggX9_number_X9_canNext
theorem dX9_number_0 : decode cX9_number 0 = .ok (.aload_n 0, 1) := by decide +kernel
theorem dX9_number_1 : decode cX9_number 1 = .ok (.iconst 0, 1) := by decide +kernel
theorem dX9_number_2 : decode cX9_number 2 = .ok (.putfield 75, 3) := by decide +kernel
theorem dX9_number_5 : decode cX9_number 5 = .ok (.aload_n 0, 1) := by decide +kernel
theorem dX9_number_6 : decode cX9_number 6 = .ok (.invokevirtual 230, 3) := by decide +kernel
theorem dX9_number_9 : decode cX9_number 9 = .ok (.lconst 0, 1) := by decide +kernel
theorem dX9_number_10 : decode cX9_number 10 = .ok (.lstore_n 1, 1) := by decide +kernel
theorem dX9_number_11 : decode cX9_number 11 = .ok (.iconst 0, 1) := by decide +kernel
theorem dX9_number_12 : decode cX9_number 12 = .ok (.istore_n 3, 1) := by decide +kernel
theorem dX9_number_13 : decode cX9_number 13 = .ok (.iconst 0, 1) := by decide +kernel
theorem dX9_number_14 : decode cX9_number 14 = .ok (.istore 4, 2) := by decide +kernel
theorem dX9_number_16 : decode cX9_number 16 = .ok (.iload 4, 2) := by decide +kernel
theorem dX9_number_18 : decode cX9_number 18 = .ok (.aload_n 0, 1) := by decide +kernel
theorem dX9_number_19 : decode cX9_number 19 = .ok (.getfield 145, 3) := by decide +kernel
theorem dX9_number_22 : decode cX9_number 22 = .ok (.if_icmp .ge 75, 3) := by decide +kernel
theorem dX9_number_25 : decode cX9_number 25 = .ok (.aload_n 0, 1) := by decide +kernel
theorem dX9_number_26 : decode cX9_number 26 = .ok (.getfield 16, 3) := by decide +kernel
theorem dX9_number_29 : decode cX9_number 29 = .ok (.aload_n 0, 1) := by decide +kernel
theorem dX9_number_30 : decode cX9_number 30 = .ok (.getfield 145, 3) := by decide +kernel
theorem dX9_number_33 : decode cX9_number 33 = .ok (.iload 4, 2) := by decide +kernel
theorem dX9_number_35 : decode cX9_number 35 = .ok (.invokestatic 170, 3) := by decide +kernel
theorem dX9_number_38 : decode cX9_number 38 = .ok (.istore 5, 2) := by decide +kernel
theorem dX9_number_40 : decode cX9_number 40 = .ok (.iconst 0, 1) := by decide +kernel
theorem dX9_number_41 : decode cX9_number 41 = .ok (.istore 6, 2) := by decide +kernel
theorem dX9_number_43 : decode cX9_number 43 = .ok (.iload 6, 2) := by decide +kernel
theorem dX9_number_45 : decode cX9_number 45 = .ok (.iload 5, 2) := by decide +kernel
theorem dX9_number_47 : decode cX9_number 47 = .ok (.if_icmp .ge 37, 3) := by decide +kernel
theorem dX9_number_50 : decode cX9_number 50 = .ok (.lload_n 1, 1) := by decide +kernel
theorem dX9_number_51 : decode cX9_number 51 = .ok (.aload_n 0, 1) := by decide +kernel
theorem dX9_number_52 : decode cX9_number 52 = .ok (.iload_n 3, 1) := by decide +kernel
theorem dX9_number_53 : decode cX9_number 53 = .ok (.iload 6, 2) := by decide +kernel
theorem dX9_number_55 : decode cX9_number 55 = .ok (.invokevirtual 237, 3) := by decide +kernel
theorem dX9_number_58 : decode cX9_number 58 = .ok (.ifCond .eq 17, 3) := by decide +kernel
theorem dX9_number_61 : decode cX9_number 61 = .ok (.aload_n 0, 1) := by decide +kernel
theorem dX9_number_62 : decode cX9_number 62 = .ok (.getfield 53, 3) := by decide +kernel
theorem dX9_number_65 : decode cX9_number 65 = .ok (.iload_n 3, 1) := by decide +kernel
theorem dX9_number_66 : decode cX9_number 66 = .ok (.iconst 1, 1) := by decide +kernel
theorem dX9_number_67 : decode cX9_number 67 = .ok (.iload 6, 2) := by decide +kernel
theorem dX9_number_69 : decode cX9_number 69 = .ok (.ishl, 1) := by decide +kernel
theorem dX9_number_70 : decode cX9_number 70 = .ok (.ior, 1) := by decide +kernel
theorem dX9_number_71 : decode cX9_number 71 = .ok (.laload, 1) := by decide +kernel
theorem dX9_number_72 : decode cX9_number 72 = .ok (.goto 4, 3) := by decide +kernel
theorem dX9_number_75 : decode cX9_number 75 = .ok (.lconst 0, 1) := by decide +kernel
theorem dX9_number_76 : decode cX9_number 76 = .ok (.ladd, 1) := by decide +kernel
theorem dX9_number_77 : decode cX9_number 77 = .ok (.lstore_n 1, 1) := by decide +kernel
theorem dX9_number_78 : decode cX9_number 78 = .ok (.iinc 6 1, 3) := by decide +kernel
theorem dX9_number_81 : decode cX9_number 81 = .ok (.goto (-38), 3) := by decide +kernel
theorem dX9_number_84 : decode cX9_number 84 = .ok (.iload_n 3, 1) := by decide +kernel
theorem dX9_number_85 : decode cX9_number 85 = .ok (.iconst 1, 1) := by decide +kernel
theorem dX9_number_86 : decode cX9_number 86 = .ok (.iload 5, 2) := by decide +kernel
theorem dX9_number_88 : decode cX9_number 88 = .ok (.ishl, 1) := by decide +kernel
theorem dX9_number_89 : decode cX9_number 89 = .ok (.ior, 1) := by decide +kernel
theorem dX9_number_90 : decode cX9_number 90 = .ok (.istore_n 3, 1) := by decide +kernel
theorem dX9_number_91 : decode cX9_number 91 = .ok (.iinc 4 1, 3) := by decide +kernel
theorem dX9_number_94 : decode cX9_number 94 = .ok (.goto (-78), 3) := by decide +kernel
theorem dX9_number_97 : decode cX9_number 97 = .ok (.lload_n 1, 1) := by decide +kernel
theorem dX9_number_98 : decode cX9_number 98 = .ok (.lreturn, 1) := by decide +kernel
set_option maxRecDepth 20000 in
theorem ggX9_kth_X9_isItem : GoodIn wsX9_kth wsX9_isItem := goodIn_r _ [8, 9, 10, 11, 7, 12, 33, 34, 35, 36, 37, 38, 39, 40, 41, 42, 43, 44, 45, 46, 47, 48, 49, 50, 51, 52, 53, 54, 55, 56, 57, 58, 59, 60, 61, 62, 63, 64, 65, 66, 67, 68] (by decide +kernel) (by decide +kernel)
set_option maxRecDepth 20000 in
theorem gX9_kth_X9_isItem : GoodIn wsX9_kth (wsV RX9 161 RX9 yX9_isItem wsX9_isItem) := goodIn_app (goodIn_of _ (by decide +kernel)) ggX9_kth_X9_isItem
set_option maxRecDepth 20000 in
theorem ggX9_kth_X9_counts : GoodIn wsX9_kth wsX9_counts := goodIn_r _ [16, 9, 2, 17, 18, 19, 7, 20, 21, 22, 23, 24, 25, 26, 27, 28, 33, 34, 35, 36, 37, 38, 39, 40, 41, 42, 43, 44, 45, 46, 47, 48, 49, 50, 51, 52, 53, 54, 55, 56, 57, 58, 59, 60, 61, 62, 63, 64, 65, 66, 67, 68] (by decide +kernel) (by decide +kernel)
set_option maxRecDepth 20000 in
theorem gX9_kth_X9_counts : GoodIn wsX9_kth (wsV RX9 230 RX9 yX9_counts wsX9_counts) := goodIn_app (goodIn_of _ (by decide +kernel)) ggX9_kth_X9_counts
set_option maxRecDepth 20000 in
theorem ggX9_kth_X9_orderOf : GoodIn wsX9_kth wsX9_orderOf := goodIn_r _ [32, 9, 2, 3, 17, 18, 19, 7, 20, 21, 22, 23, 24, 25, 26, 27, 28, 33, 34, 35, 36, 37, 38, 39, 40, 41, 42, 43, 44, 45, 46, 47, 48, 49, 50, 51, 52, 53, 54, 55, 56, 57, 58, 59, 60, 61, 62, 63, 64, 65, 66, 67, 68] (by decide +kernel) (by decide +kernel)
set_option maxRecDepth 20000 in
theorem gX9_kth_X9_orderOf : GoodIn wsX9_kth (wsV RX9 233 RX9 yX9_orderOf wsX9_orderOf) := goodIn_app (goodIn_of _ (by decide +kernel)) ggX9_kth_X9_orderOf
theorem dX9_kth_0 : decode cX9_kth 0 = .ok (.aload_n 0, 1) := by decide +kernel
theorem dX9_kth_1 : decode cX9_kth 1 = .ok (.iconst 0, 1) := by decide +kernel
theorem dX9_kth_2 : decode cX9_kth 2 = .ok (.putfield 75, 3) := by decide +kernel
theorem dX9_kth_5 : decode cX9_kth 5 = .ok (.lload_n 1, 1) := by decide +kernel
theorem dX9_kth_6 : decode cX9_kth 6 = .ok (.lconst 0, 1) := by decide +kernel
theorem dX9_kth_7 : decode cX9_kth 7 = .ok (.lcmp, 1) := by decide +kernel
theorem dX9_kth_8 : decode cX9_kth 8 = .ok (.ifCond .lt 11, 3) := by decide +kernel
theorem dX9_kth_11 : decode cX9_kth 11 = .ok (.aload_n 0, 1) := by decide +kernel
theorem dX9_kth_12 : decode cX9_kth 12 = .ok (.iload_n 3, 1) := by decide +kernel
theorem dX9_kth_13 : decode cX9_kth 13 = .ok (.invokevirtual 161, 3) := by decide +kernel
theorem dX9_kth_16 : decode cX9_kth 16 = .ok (.ifCond .ne 5, 3) := by decide +kernel
theorem dX9_kth_19 : decode cX9_kth 19 = .ok (.iconst (-1), 1) := by decide +kernel
theorem dX9_kth_20 : decode cX9_kth 20 = .ok (.ireturn, 1) := by decide +kernel
theorem dX9_kth_21 : decode cX9_kth 21 = .ok (.aload_n 0, 1) := by decide +kernel
theorem dX9_kth_22 : decode cX9_kth 22 = .ok (.invokevirtual 230, 3) := by decide +kernel
theorem dX9_kth_25 : decode cX9_kth 25 = .ok (.lload_n 1, 1) := by decide +kernel
theorem dX9_kth_26 : decode cX9_kth 26 = .ok (.aload_n 0, 1) := by decide +kernel
theorem dX9_kth_27 : decode cX9_kth 27 = .ok (.getfield 53, 3) := by decide +kernel
theorem dX9_kth_30 : decode cX9_kth 30 = .ok (.iconst 0, 1) := by decide +kernel
theorem dX9_kth_31 : decode cX9_kth 31 = .ok (.laload, 1) := by decide +kernel
theorem dX9_kth_32 : decode cX9_kth 32 = .ok (.lcmp, 1) := by decide +kernel
theorem dX9_kth_33 : decode cX9_kth 33 = .ok (.ifCond .lt 6, 3) := by decide +kernel
theorem dX9_kth_36 : decode cX9_kth 36 = .ok (.bipush (-9), 2) := by decide +kernel
theorem dX9_kth_38 : decode cX9_kth 38 = .ok (.ireturn, 1) := by decide +kernel
theorem dX9_kth_39 : decode cX9_kth 39 = .ok (.aload_n 0, 1) := by decide +kernel
theorem dX9_kth_40 : decode cX9_kth 40 = .ok (.lload_n 1, 1) := by decide +kernel
theorem dX9_kth_41 : decode cX9_kth 41 = .ok (.invokevirtual 233, 3) := by decide +kernel
theorem dX9_kth_44 : decode cX9_kth 44 = .ok (.aload_n 0, 1) := by decide +kernel
theorem dX9_kth_45 : decode cX9_kth 45 = .ok (.getfield 60, 3) := by decide +kernel
theorem dX9_kth_48 : decode cX9_kth 48 = .ok (.iload_n 3, 1) := by decide +kernel
theorem dX9_kth_49 : decode cX9_kth 49 = .ok (.iaload, 1) := by decide +kernel
theorem dX9_kth_50 : decode cX9_kth 50 = .ok (.ireturn, 1) := by decide +kernel
set_option maxRecDepth 20000 in
theorem ggX9_makes_X9_ones : GoodIn wsX9_makes wsX9_ones := goodIn_r _ [5] (by decide +kernel) (by decide +kernel)
set_option maxRecDepth 20000 in
theorem gX9_makes_X9_ones : GoodIn wsX9_makes (va_wsS RX9 194 yX9_ones wsX9_ones) := goodIn_app (goodIn_of _ (by decide +kernel)) ggX9_makes_X9_ones
theorem dX9_makes_0 : decode cX9_makes 0 = .ok (.iload_n 2, 1) := by decide +kernel
theorem dX9_makes_1 : decode cX9_makes 1 = .ok (.istore 4, 2) := by decide +kernel
theorem dX9_makes_3 : decode cX9_makes 3 = .ok (.iload 4, 2) := by decide +kernel
theorem dX9_makes_5 : decode cX9_makes 5 = .ok (.ifCond .eq 62, 3) := by decide +kernel
theorem dX9_makes_8 : decode cX9_makes 8 = .ok (.iload_n 1, 1) := by decide +kernel
theorem dX9_makes_9 : decode cX9_makes 9 = .ok (.iload 4, 2) := by decide +kernel
theorem dX9_makes_11 : decode cX9_makes 11 = .ok (.ior, 1) := by decide +kernel
theorem dX9_makes_12 : decode cX9_makes 12 = .ok (.istore 5, 2) := by decide +kernel
theorem dX9_makes_14 : decode cX9_makes 14 = .ok (.iload 4, 2) := by decide +kernel
theorem dX9_makes_16 : decode cX9_makes 16 = .ok (.invokestatic 194, 3) := by decide +kernel
theorem dX9_makes_19 : decode cX9_makes 19 = .ok (.iload_n 3, 1) := by decide +kernel
theorem dX9_makes_20 : decode cX9_makes 20 = .ok (.if_icmp .gt 36, 3) := by decide +kernel
theorem dX9_makes_23 : decode cX9_makes 23 = .ok (.aload_n 0, 1) := by decide +kernel
theorem dX9_makes_24 : decode cX9_makes 24 = .ok (.getfield 57, 3) := by decide +kernel
theorem dX9_makes_27 : decode cX9_makes 27 = .ok (.iload 5, 2) := by decide +kernel
theorem dX9_makes_29 : decode cX9_makes 29 = .ok (.iaload, 1) := by decide +kernel
theorem dX9_makes_30 : decode cX9_makes 30 = .ok (.aload_n 0, 1) := by decide +kernel
theorem dX9_makes_31 : decode cX9_makes 31 = .ok (.getfield 57, 3) := by decide +kernel
theorem dX9_makes_34 : decode cX9_makes 34 = .ok (.iload_n 1, 1) := by decide +kernel
theorem dX9_makes_35 : decode cX9_makes 35 = .ok (.iaload, 1) := by decide +kernel
theorem dX9_makes_36 : decode cX9_makes 36 = .ok (.iconst 1, 1) := by decide +kernel
theorem dX9_makes_37 : decode cX9_makes 37 = .ok (.iadd, 1) := by decide +kernel
theorem dX9_makes_38 : decode cX9_makes 38 = .ok (.if_icmp .le 18, 3) := by decide +kernel
theorem dX9_makes_41 : decode cX9_makes 41 = .ok (.aload_n 0, 1) := by decide +kernel
theorem dX9_makes_42 : decode cX9_makes 42 = .ok (.getfield 57, 3) := by decide +kernel
theorem dX9_makes_45 : decode cX9_makes 45 = .ok (.iload 5, 2) := by decide +kernel
theorem dX9_makes_47 : decode cX9_makes 47 = .ok (.aload_n 0, 1) := by decide +kernel
theorem dX9_makes_48 : decode cX9_makes 48 = .ok (.getfield 57, 3) := by decide +kernel
theorem dX9_makes_51 : decode cX9_makes 51 = .ok (.iload_n 1, 1) := by decide +kernel
theorem dX9_makes_52 : decode cX9_makes 52 = .ok (.iaload, 1) := by decide +kernel
theorem dX9_makes_53 : decode cX9_makes 53 = .ok (.iconst 1, 1) := by decide +kernel
theorem dX9_makes_54 : decode cX9_makes 54 = .ok (.iadd, 1) := by decide +kernel
theorem dX9_makes_55 : decode cX9_makes 55 = .ok (.iastore, 1) := by decide +kernel
theorem dX9_makes_56 : decode cX9_makes 56 = .ok (.iload 4, 2) := by decide +kernel
theorem dX9_makes_58 : decode cX9_makes 58 = .ok (.iconst 1, 1) := by decide +kernel
theorem dX9_makes_59 : decode cX9_makes 59 = .ok (.isub, 1) := by decide +kernel
theorem dX9_makes_60 : decode cX9_makes 60 = .ok (.iload_n 2, 1) := by decide +kernel
theorem dX9_makes_61 : decode cX9_makes 61 = .ok (.iand, 1) := by decide +kernel
theorem dX9_makes_62 : decode cX9_makes 62 = .ok (.istore 4, 2) := by decide +kernel
theorem dX9_makes_64 : decode cX9_makes 64 = .ok (.goto (-61), 3) := by decide +kernel
theorem dX9_makes_67 : decode cX9_makes 67 = .ok (.return_, 1) := by decide +kernel
set_option maxRecDepth 20000 in
theorem ggX9_days_X9_in : GoodIn wsX9_days wsX9_in := goodIn_r _ [7] (by decide +kernel) (by decide +kernel)
set_option maxRecDepth 20000 in
theorem gX9_days_X9_in : GoodIn wsX9_days (va_wsS RX9 79 yX9_in wsX9_in) := goodIn_app (goodIn_of _ (by decide +kernel)) ggX9_days_X9_in
set_option maxRecDepth 20000 in
theorem ggX9_days_X9_canNext : GoodIn wsX9_days wsX9_canNext := goodIn_r _ [11, 12, 13, 6, 14, 15, 16, 17, 18, 2, 19, 27, 28, 29, 30, 31, 32, 33, 34, 35, 36, 37, 38, 39, 40, 41, 42, 43, 44, 45, 46, 47, 48, 49, 50, 51, 52, 53, 54, 55, 56, 57, 58, 59, 60, 61, 62] (by decide +kernel) (by decide +kernel)
set_option maxRecDepth 20000 in
theorem gX9_days_X9_canNext : GoodIn wsX9_days (wsV RX9 237 RX9 yX9_canNext wsX9_canNext) := goodIn_app (goodIn_of _ (by decide +kernel)) ggX9_days_X9_canNext
set_option maxRecDepth 20000 in
theorem ggX9_days_X9_makes : GoodIn wsX9_days wsX9_makes := goodIn_r _ [23, 3, 24, 25, 6, 26, 27, 28, 29, 30, 31, 32, 33, 34, 35, 36, 37, 38, 39, 40, 41, 42, 43, 44, 45, 46, 47, 48, 49, 50, 51, 52, 53, 54, 55, 56, 57, 58, 59, 60, 61, 62] (by decide +kernel) (by decide +kernel)
set_option maxRecDepth 20000 in
theorem gX9_days_X9_makes : GoodIn wsX9_days (wsV RX9 240 RX9 yX9_makes wsX9_makes) := goodIn_app (goodIn_of _ (by decide +kernel)) ggX9_days_X9_makes
theorem dX9_days_0 : decode cX9_days 0 = .ok (.aload_n 0, 1) := by decide +kernel
theorem dX9_days_1 : decode cX9_days 1 = .ok (.iconst 0, 1) := by decide +kernel
theorem dX9_days_2 : decode cX9_days 2 = .ok (.putfield 75, 3) := by decide +kernel
theorem dX9_days_5 : decode cX9_days 5 = .ok (.iload_n 1, 1) := by decide +kernel
theorem dX9_days_6 : decode cX9_days 6 = .ok (.iconst 1, 1) := by decide +kernel
theorem dX9_days_7 : decode cX9_days 7 = .ok (.iconst 3, 1) := by decide +kernel
theorem dX9_days_8 : decode cX9_days 8 = .ok (.invokestatic 79, 3) := by decide +kernel
theorem dX9_days_11 : decode cX9_days 11 = .ok (.ifCond .ne 5, 3) := by decide +kernel
theorem dX9_days_14 : decode cX9_days 14 = .ok (.iconst (-1), 1) := by decide +kernel
theorem dX9_days_15 : decode cX9_days 15 = .ok (.ireturn, 1) := by decide +kernel
theorem dX9_days_16 : decode cX9_days 16 = .ok (.iconst 1, 1) := by decide +kernel
theorem dX9_days_17 : decode cX9_days 17 = .ok (.aload_n 0, 1) := by decide +kernel
theorem dX9_days_18 : decode cX9_days 18 = .ok (.getfield 145, 3) := by decide +kernel
theorem dX9_days_21 : decode cX9_days 21 = .ok (.ishl, 1) := by decide +kernel
theorem dX9_days_22 : decode cX9_days 22 = .ok (.iconst 1, 1) := by decide +kernel
theorem dX9_days_23 : decode cX9_days 23 = .ok (.isub, 1) := by decide +kernel
theorem dX9_days_24 : decode cX9_days 24 = .ok (.istore_n 2, 1) := by decide +kernel
theorem dX9_days_25 : decode cX9_days 25 = .ok (.iconst 0, 1) := by decide +kernel
theorem dX9_days_26 : decode cX9_days 26 = .ok (.istore_n 3, 1) := by decide +kernel
theorem dX9_days_27 : decode cX9_days 27 = .ok (.iload_n 3, 1) := by decide +kernel
theorem dX9_days_28 : decode cX9_days 28 = .ok (.iload_n 2, 1) := by decide +kernel
theorem dX9_days_29 : decode cX9_days 29 = .ok (.if_icmp .gt 25, 3) := by decide +kernel
theorem dX9_days_32 : decode cX9_days 32 = .ok (.aload_n 0, 1) := by decide +kernel
theorem dX9_days_33 : decode cX9_days 33 = .ok (.getfield 57, 3) := by decide +kernel
theorem dX9_days_36 : decode cX9_days 36 = .ok (.iload_n 3, 1) := by decide +kernel
theorem dX9_days_37 : decode cX9_days 37 = .ok (.iload_n 3, 1) := by decide +kernel
theorem dX9_days_38 : decode cX9_days 38 = .ok (.ifCond .ne 7, 3) := by decide +kernel
theorem dX9_days_41 : decode cX9_days 41 = .ok (.iconst 0, 1) := by decide +kernel
theorem dX9_days_42 : decode cX9_days 42 = .ok (.goto 5, 3) := by decide +kernel
theorem dX9_days_45 : decode cX9_days 45 = .ok (.bipush 99, 2) := by decide +kernel
theorem dX9_days_47 : decode cX9_days 47 = .ok (.iastore, 1) := by decide +kernel
theorem dX9_days_48 : decode cX9_days 48 = .ok (.iinc 3 1, 3) := by decide +kernel
theorem dX9_days_51 : decode cX9_days 51 = .ok (.goto (-24), 3) := by decide +kernel
theorem dX9_days_54 : decode cX9_days 54 = .ok (.iconst 0, 1) := by decide +kernel
theorem dX9_days_55 : decode cX9_days 55 = .ok (.istore_n 3, 1) := by decide +kernel
theorem dX9_days_56 : decode cX9_days 56 = .ok (.iload_n 3, 1) := by decide +kernel
theorem dX9_days_57 : decode cX9_days 57 = .ok (.iload_n 2, 1) := by decide +kernel
theorem dX9_days_58 : decode cX9_days 58 = .ok (.if_icmp .ge 72, 3) := by decide +kernel
theorem dX9_days_61 : decode cX9_days 61 = .ok (.iconst 0, 1) := by decide +kernel
theorem dX9_days_62 : decode cX9_days 62 = .ok (.istore 4, 2) := by decide +kernel
theorem dX9_days_64 : decode cX9_days 64 = .ok (.iconst 0, 1) := by decide +kernel
theorem dX9_days_65 : decode cX9_days 65 = .ok (.istore 5, 2) := by decide +kernel
theorem dX9_days_67 : decode cX9_days 67 = .ok (.iload 5, 2) := by decide +kernel
theorem dX9_days_69 : decode cX9_days 69 = .ok (.aload_n 0, 1) := by decide +kernel
theorem dX9_days_70 : decode cX9_days 70 = .ok (.getfield 145, 3) := by decide +kernel
theorem dX9_days_73 : decode cX9_days 73 = .ok (.if_icmp .ge 32, 3) := by decide +kernel
theorem dX9_days_76 : decode cX9_days 76 = .ok (.iload 4, 2) := by decide +kernel
theorem dX9_days_78 : decode cX9_days 78 = .ok (.aload_n 0, 1) := by decide +kernel
theorem dX9_days_79 : decode cX9_days 79 = .ok (.iload_n 3, 1) := by decide +kernel
theorem dX9_days_80 : decode cX9_days 80 = .ok (.iload 5, 2) := by decide +kernel
theorem dX9_days_82 : decode cX9_days 82 = .ok (.invokevirtual 237, 3) := by decide +kernel
theorem dX9_days_85 : decode cX9_days 85 = .ok (.ifCond .eq 10, 3) := by decide +kernel
theorem dX9_days_88 : decode cX9_days 88 = .ok (.iconst 1, 1) := by decide +kernel
theorem dX9_days_89 : decode cX9_days 89 = .ok (.iload 5, 2) := by decide +kernel
theorem dX9_days_91 : decode cX9_days 91 = .ok (.ishl, 1) := by decide +kernel
theorem dX9_days_92 : decode cX9_days 92 = .ok (.goto 4, 3) := by decide +kernel
theorem dX9_days_95 : decode cX9_days 95 = .ok (.iconst 0, 1) := by decide +kernel
theorem dX9_days_96 : decode cX9_days 96 = .ok (.ior, 1) := by decide +kernel
theorem dX9_days_97 : decode cX9_days 97 = .ok (.istore 4, 2) := by decide +kernel
theorem dX9_days_99 : decode cX9_days 99 = .ok (.iinc 5 1, 3) := by decide +kernel
theorem dX9_days_102 : decode cX9_days 102 = .ok (.goto (-35), 3) := by decide +kernel
theorem dX9_days_105 : decode cX9_days 105 = .ok (.aload_n 0, 1) := by decide +kernel
theorem dX9_days_106 : decode cX9_days 106 = .ok (.getfield 57, 3) := by decide +kernel
theorem dX9_days_109 : decode cX9_days 109 = .ok (.iload_n 3, 1) := by decide +kernel
theorem dX9_days_110 : decode cX9_days 110 = .ok (.iaload, 1) := by decide +kernel
theorem dX9_days_111 : decode cX9_days 111 = .ok (.bipush 99, 2) := by decide +kernel
theorem dX9_days_113 : decode cX9_days 113 = .ok (.if_icmp .ge 11, 3) := by decide +kernel
theorem dX9_days_116 : decode cX9_days 116 = .ok (.aload_n 0, 1) := by decide +kernel
theorem dX9_days_117 : decode cX9_days 117 = .ok (.iload_n 3, 1) := by decide +kernel
theorem dX9_days_118 : decode cX9_days 118 = .ok (.iload 4, 2) := by decide +kernel
theorem dX9_days_120 : decode cX9_days 120 = .ok (.iload_n 1, 1) := by decide +kernel
theorem dX9_days_121 : decode cX9_days 121 = .ok (.invokevirtual 240, 3) := by decide +kernel
theorem dX9_days_124 : decode cX9_days 124 = .ok (.iinc 3 1, 3) := by decide +kernel
theorem dX9_days_127 : decode cX9_days 127 = .ok (.goto (-71), 3) := by decide +kernel
theorem dX9_days_130 : decode cX9_days 130 = .ok (.aload_n 0, 1) := by decide +kernel
theorem dX9_days_131 : decode cX9_days 131 = .ok (.getfield 57, 3) := by decide +kernel
theorem dX9_days_134 : decode cX9_days 134 = .ok (.iload_n 2, 1) := by decide +kernel
theorem dX9_days_135 : decode cX9_days 135 = .ok (.iaload, 1) := by decide +kernel
theorem dX9_days_136 : decode cX9_days 136 = .ok (.ireturn, 1) := by decide +kernel
set_option maxRecDepth 20000 in
theorem ggX9_sees_X9_isItem : GoodIn wsX9_sees wsX9_isItem := goodIn_r _ [9, 10, 11, 12, 8, 13, 14, 15, 16, 17, 18, 19, 20, 21, 22, 23, 24, 25, 26, 27, 28, 29, 30, 31, 32, 33, 34, 35, 36, 37, 38, 39, 40, 41, 42, 43, 44, 45, 46, 47, 48, 49] (by decide +kernel) (by decide +kernel)
set_option maxRecDepth 20000 in
theorem gX9_sees_X9_isItem : GoodIn wsX9_sees (wsV RX9 161 RX9 yX9_isItem wsX9_isItem) := goodIn_app (goodIn_of _ (by decide +kernel)) ggX9_sees_X9_isItem
set_option maxRecDepth 20000 in
theorem ggX9_sees_X9_in : GoodIn wsX9_sees wsX9_in := goodIn_r _ [13] (by decide +kernel) (by decide +kernel)
set_option maxRecDepth 20000 in
theorem gX9_sees_X9_in : GoodIn wsX9_sees (va_wsS RX9 79 yX9_in wsX9_in) := goodIn_app (goodIn_of _ (by decide +kernel)) ggX9_sees_X9_in
theorem dX9_sees_0 : decode cX9_sees 0 = .ok (.aload_n 0, 1) := by decide +kernel
theorem dX9_sees_1 : decode cX9_sees 1 = .ok (.iconst 0, 1) := by decide +kernel
theorem dX9_sees_2 : decode cX9_sees 2 = .ok (.putfield 75, 3) := by decide +kernel
theorem dX9_sees_5 : decode cX9_sees 5 = .ok (.aload_n 0, 1) := by decide +kernel
theorem dX9_sees_6 : decode cX9_sees 6 = .ok (.iload_n 1, 1) := by decide +kernel
theorem dX9_sees_7 : decode cX9_sees 7 = .ok (.invokevirtual 161, 3) := by decide +kernel
theorem dX9_sees_10 : decode cX9_sees 10 = .ok (.ifCond .eq 12, 3) := by decide +kernel
theorem dX9_sees_13 : decode cX9_sees 13 = .ok (.iload_n 2, 1) := by decide +kernel
theorem dX9_sees_14 : decode cX9_sees 14 = .ok (.iconst 0, 1) := by decide +kernel
theorem dX9_sees_15 : decode cX9_sees 15 = .ok (.iconst 1, 1) := by decide +kernel
theorem dX9_sees_16 : decode cX9_sees 16 = .ok (.invokestatic 79, 3) := by decide +kernel
theorem dX9_sees_19 : decode cX9_sees 19 = .ok (.ifCond .ne 5, 3) := by decide +kernel
theorem dX9_sees_22 : decode cX9_sees 22 = .ok (.iconst (-1), 1) := by decide +kernel
theorem dX9_sees_23 : decode cX9_sees 23 = .ok (.ireturn, 1) := by decide +kernel
theorem dX9_sees_24 : decode cX9_sees 24 = .ok (.aload_n 0, 1) := by decide +kernel
theorem dX9_sees_25 : decode cX9_sees 25 = .ok (.getfield 155, 3) := by decide +kernel
theorem dX9_sees_28 : decode cX9_sees 28 = .ok (.bipush 6, 2) := by decide +kernel
theorem dX9_sees_30 : decode cX9_sees 30 = .ok (.if_icmp .ne 6, 3) := by decide +kernel
theorem dX9_sees_33 : decode cX9_sees 33 = .ok (.bipush (-3), 2) := by decide +kernel
theorem dX9_sees_35 : decode cX9_sees 35 = .ok (.ireturn, 1) := by decide +kernel
theorem dX9_sees_36 : decode cX9_sees 36 = .ok (.aload_n 0, 1) := by decide +kernel
theorem dX9_sees_37 : decode cX9_sees 37 = .ok (.getfield 44, 3) := by decide +kernel
theorem dX9_sees_40 : decode cX9_sees 40 = .ok (.aload_n 0, 1) := by decide +kernel
theorem dX9_sees_41 : decode cX9_sees 41 = .ok (.getfield 155, 3) := by decide +kernel
theorem dX9_sees_44 : decode cX9_sees 44 = .ok (.iload_n 1, 1) := by decide +kernel
theorem dX9_sees_45 : decode cX9_sees 45 = .ok (.iastore, 1) := by decide +kernel
theorem dX9_sees_46 : decode cX9_sees 46 = .ok (.aload_n 0, 1) := by decide +kernel
theorem dX9_sees_47 : decode cX9_sees 47 = .ok (.getfield 47, 3) := by decide +kernel
theorem dX9_sees_50 : decode cX9_sees 50 = .ok (.aload_n 0, 1) := by decide +kernel
theorem dX9_sees_51 : decode cX9_sees 51 = .ok (.getfield 155, 3) := by decide +kernel
theorem dX9_sees_54 : decode cX9_sees 54 = .ok (.iload_n 2, 1) := by decide +kernel
theorem dX9_sees_55 : decode cX9_sees 55 = .ok (.iastore, 1) := by decide +kernel
theorem dX9_sees_56 : decode cX9_sees 56 = .ok (.aload_n 0, 1) := by decide +kernel
theorem dX9_sees_57 : decode cX9_sees 57 = .ok (.dup, 1) := by decide +kernel
theorem dX9_sees_58 : decode cX9_sees 58 = .ok (.getfield 155, 3) := by decide +kernel
theorem dX9_sees_61 : decode cX9_sees 61 = .ok (.iconst 1, 1) := by decide +kernel
theorem dX9_sees_62 : decode cX9_sees 62 = .ok (.iadd, 1) := by decide +kernel
theorem dX9_sees_63 : decode cX9_sees 63 = .ok (.putfield 155, 3) := by decide +kernel
theorem dX9_sees_66 : decode cX9_sees 66 = .ok (.aload_n 0, 1) := by decide +kernel
theorem dX9_sees_67 : decode cX9_sees 67 = .ok (.getfield 155, 3) := by decide +kernel
theorem dX9_sees_70 : decode cX9_sees 70 = .ok (.ireturn, 1) := by decide +kernel
theorem dX9_forget_0 : decode cX9_forget 0 = .ok (.aload_n 0, 1) := by decide +kernel
theorem dX9_forget_1 : decode cX9_forget 1 = .ok (.iconst 0, 1) := by decide +kernel
theorem dX9_forget_2 : decode cX9_forget 2 = .ok (.putfield 75, 3) := by decide +kernel
theorem dX9_forget_5 : decode cX9_forget 5 = .ok (.aload_n 0, 1) := by decide +kernel
theorem dX9_forget_6 : decode cX9_forget 6 = .ok (.getfield 155, 3) := by decide +kernel
theorem dX9_forget_9 : decode cX9_forget 9 = .ok (.istore_n 1, 1) := by decide +kernel
theorem dX9_forget_10 : decode cX9_forget 10 = .ok (.aload_n 0, 1) := by decide +kernel
theorem dX9_forget_11 : decode cX9_forget 11 = .ok (.iconst 0, 1) := by decide +kernel
theorem dX9_forget_12 : decode cX9_forget 12 = .ok (.putfield 155, 3) := by decide +kernel
theorem dX9_forget_15 : decode cX9_forget 15 = .ok (.iload_n 1, 1) := by decide +kernel
theorem dX9_forget_16 : decode cX9_forget 16 = .ok (.ireturn, 1) := by decide +kernel
set_option maxRecDepth 20000 in
theorem ggX9_unseenMany_X9_has : GoodIn wsX9_unseenMany wsX9_has := goodIn_r _ [12] (by decide +kernel) (by decide +kernel)
set_option maxRecDepth 20000 in
theorem gX9_unseenMany_X9_has : GoodIn wsX9_unseenMany (va_wsS RX9 119 yX9_has wsX9_has) := goodIn_app (goodIn_of _ (by decide +kernel)) ggX9_unseenMany_X9_has
set_option maxRecDepth 20000 in
theorem ggX9_unseenMany_X9_movedBy : GoodIn wsX9_unseenMany wsX9_movedBy := goodIn_r _ [16, 4, 3, 5, 17, 18, 19, 20, 21, 11, 22, 23, 24, 25, 26, 9, 10, 12, 27, 28, 29, 30, 31, 32, 33, 34, 35, 36, 37, 38, 39, 40, 41, 42, 43, 44, 45, 46, 47, 48, 49, 50, 51, 52, 53, 54, 55, 56, 57, 58, 59, 60, 61, 62, 63, 64, 65, 66, 67, 68, 69, 70, 71, 72, 73, 74, 75, 76, 77, 78] (by decide +kernel) (by decide +kernel)
set_option maxRecDepth 20000 in
theorem gX9_unseenMany_X9_movedBy : GoodIn wsX9_unseenMany (wsV RX9 197 RX9 yX9_movedBy wsX9_movedBy) := goodIn_app (goodIn_of _ (by decide +kernel)) ggX9_unseenMany_X9_movedBy
theorem dX9_unseenMany_0 : decode cX9_unseenMany 0 = .ok (.aload_n 0, 1) := by decide +kernel
theorem dX9_unseenMany_1 : decode cX9_unseenMany 1 = .ok (.bipush (-9), 2) := by decide +kernel
theorem dX9_unseenMany_3 : decode cX9_unseenMany 3 = .ok (.putfield 244, 3) := by decide +kernel
theorem dX9_unseenMany_6 : decode cX9_unseenMany 6 = .ok (.iconst 0, 1) := by decide +kernel
theorem dX9_unseenMany_7 : decode cX9_unseenMany 7 = .ok (.istore_n 1, 1) := by decide +kernel
theorem dX9_unseenMany_8 : decode cX9_unseenMany 8 = .ok (.iload_n 1, 1) := by decide +kernel
theorem dX9_unseenMany_9 : decode cX9_unseenMany 9 = .ok (.bipush 12, 2) := by decide +kernel
theorem dX9_unseenMany_11 : decode cX9_unseenMany 11 = .ok (.if_icmp .ge 16, 3) := by decide +kernel
theorem dX9_unseenMany_14 : decode cX9_unseenMany 14 = .ok (.aload_n 0, 1) := by decide +kernel
theorem dX9_unseenMany_15 : decode cX9_unseenMany 15 = .ok (.getfield 66, 3) := by decide +kernel
theorem dX9_unseenMany_18 : decode cX9_unseenMany 18 = .ok (.iload_n 1, 1) := by decide +kernel
theorem dX9_unseenMany_19 : decode cX9_unseenMany 19 = .ok (.iconst 0, 1) := by decide +kernel
theorem dX9_unseenMany_20 : decode cX9_unseenMany 20 = .ok (.iastore, 1) := by decide +kernel
theorem dX9_unseenMany_21 : decode cX9_unseenMany 21 = .ok (.iinc 1 1, 3) := by decide +kernel
theorem dX9_unseenMany_24 : decode cX9_unseenMany 24 = .ok (.goto (-16), 3) := by decide +kernel
theorem dX9_unseenMany_27 : decode cX9_unseenMany 27 = .ok (.iconst 0, 1) := by decide +kernel
theorem dX9_unseenMany_28 : decode cX9_unseenMany 28 = .ok (.istore_n 1, 1) := by decide +kernel
theorem dX9_unseenMany_29 : decode cX9_unseenMany 29 = .ok (.iconst 0, 1) := by decide +kernel
theorem dX9_unseenMany_30 : decode cX9_unseenMany 30 = .ok (.istore_n 2, 1) := by decide +kernel
theorem dX9_unseenMany_31 : decode cX9_unseenMany 31 = .ok (.iload_n 2, 1) := by decide +kernel
theorem dX9_unseenMany_32 : decode cX9_unseenMany 32 = .ok (.aload_n 0, 1) := by decide +kernel
theorem dX9_unseenMany_33 : decode cX9_unseenMany 33 = .ok (.getfield 145, 3) := by decide +kernel
theorem dX9_unseenMany_36 : decode cX9_unseenMany 36 = .ok (.if_icmp .ge 183, 3) := by decide +kernel
theorem dX9_unseenMany_39 : decode cX9_unseenMany 39 = .ok (.iconst 0, 1) := by decide +kernel
theorem dX9_unseenMany_40 : decode cX9_unseenMany 40 = .ok (.istore_n 3, 1) := by decide +kernel
theorem dX9_unseenMany_41 : decode cX9_unseenMany 41 = .ok (.iload_n 3, 1) := by decide +kernel
theorem dX9_unseenMany_42 : decode cX9_unseenMany 42 = .ok (.aload_n 0, 1) := by decide +kernel
theorem dX9_unseenMany_43 : decode cX9_unseenMany 43 = .ok (.getfield 145, 3) := by decide +kernel
theorem dX9_unseenMany_46 : decode cX9_unseenMany 46 = .ok (.if_icmp .ge 167, 3) := by decide +kernel
theorem dX9_unseenMany_49 : decode cX9_unseenMany 49 = .ok (.iload_n 2, 1) := by decide +kernel
theorem dX9_unseenMany_50 : decode cX9_unseenMany 50 = .ok (.iload_n 3, 1) := by decide +kernel
theorem dX9_unseenMany_51 : decode cX9_unseenMany 51 = .ok (.if_icmp .eq 156, 3) := by decide +kernel
theorem dX9_unseenMany_54 : decode cX9_unseenMany 54 = .ok (.aload_n 0, 1) := by decide +kernel
theorem dX9_unseenMany_55 : decode cX9_unseenMany 55 = .ok (.getfield 16, 3) := by decide +kernel
theorem dX9_unseenMany_58 : decode cX9_unseenMany 58 = .ok (.iconst 0, 1) := by decide +kernel
theorem dX9_unseenMany_59 : decode cX9_unseenMany 59 = .ok (.iload_n 2, 1) := by decide +kernel
theorem dX9_unseenMany_60 : decode cX9_unseenMany 60 = .ok (.iadd, 1) := by decide +kernel
theorem dX9_unseenMany_61 : decode cX9_unseenMany 61 = .ok (.iaload, 1) := by decide +kernel
theorem dX9_unseenMany_62 : decode cX9_unseenMany 62 = .ok (.iload_n 3, 1) := by decide +kernel
theorem dX9_unseenMany_63 : decode cX9_unseenMany 63 = .ok (.invokestatic 119, 3) := by decide +kernel
theorem dX9_unseenMany_66 : decode cX9_unseenMany 66 = .ok (.ifCond .ne 141, 3) := by decide +kernel
theorem dX9_unseenMany_69 : decode cX9_unseenMany 69 = .ok (.aload_n 0, 1) := by decide +kernel
theorem dX9_unseenMany_70 : decode cX9_unseenMany 70 = .ok (.iload_n 2, 1) := by decide +kernel
theorem dX9_unseenMany_71 : decode cX9_unseenMany 71 = .ok (.iload_n 3, 1) := by decide +kernel
theorem dX9_unseenMany_72 : decode cX9_unseenMany 72 = .ok (.invokevirtual 197, 3) := by decide +kernel
theorem dX9_unseenMany_75 : decode cX9_unseenMany 75 = .ok (.istore 4, 2) := by decide +kernel
theorem dX9_unseenMany_77 : decode cX9_unseenMany 77 = .ok (.aload_n 0, 1) := by decide +kernel
theorem dX9_unseenMany_78 : decode cX9_unseenMany 78 = .ok (.getfield 126, 3) := by decide +kernel
theorem dX9_unseenMany_81 : decode cX9_unseenMany 81 = .ok (.ifCond .ne 7, 3) := by decide +kernel
theorem dX9_unseenMany_84 : decode cX9_unseenMany 84 = .ok (.iconst 1, 1) := by decide +kernel
theorem dX9_unseenMany_85 : decode cX9_unseenMany 85 = .ok (.goto 4, 3) := by decide +kernel
theorem dX9_unseenMany_88 : decode cX9_unseenMany 88 = .ok (.iconst 0, 1) := by decide +kernel
theorem dX9_unseenMany_89 : decode cX9_unseenMany 89 = .ok (.istore 5, 2) := by decide +kernel
theorem dX9_unseenMany_91 : decode cX9_unseenMany 91 = .ok (.iconst 0, 1) := by decide +kernel
theorem dX9_unseenMany_92 : decode cX9_unseenMany 92 = .ok (.istore 6, 2) := by decide +kernel
theorem dX9_unseenMany_94 : decode cX9_unseenMany 94 = .ok (.iload 6, 2) := by decide +kernel
theorem dX9_unseenMany_96 : decode cX9_unseenMany 96 = .ok (.aload_n 0, 1) := by decide +kernel
theorem dX9_unseenMany_97 : decode cX9_unseenMany 97 = .ok (.getfield 155, 3) := by decide +kernel
theorem dX9_unseenMany_100 : decode cX9_unseenMany 100 = .ok (.if_icmp .ge 43, 3) := by decide +kernel
theorem dX9_unseenMany_103 : decode cX9_unseenMany 103 = .ok (.iload 5, 2) := by decide +kernel
theorem dX9_unseenMany_105 : decode cX9_unseenMany 105 = .ok (.ifCond .eq 29, 3) := by decide +kernel
theorem dX9_unseenMany_108 : decode cX9_unseenMany 108 = .ok (.iload 4, 2) := by decide +kernel
theorem dX9_unseenMany_110 : decode cX9_unseenMany 110 = .ok (.aload_n 0, 1) := by decide +kernel
theorem dX9_unseenMany_111 : decode cX9_unseenMany 111 = .ok (.getfield 44, 3) := by decide +kernel
theorem dX9_unseenMany_114 : decode cX9_unseenMany 114 = .ok (.iload 6, 2) := by decide +kernel
theorem dX9_unseenMany_116 : decode cX9_unseenMany 116 = .ok (.iaload, 1) := by decide +kernel
theorem dX9_unseenMany_117 : decode cX9_unseenMany 117 = .ok (.ishr, 1) := by decide +kernel
theorem dX9_unseenMany_118 : decode cX9_unseenMany 118 = .ok (.iconst 1, 1) := by decide +kernel
theorem dX9_unseenMany_119 : decode cX9_unseenMany 119 = .ok (.iand, 1) := by decide +kernel
theorem dX9_unseenMany_120 : decode cX9_unseenMany 120 = .ok (.aload_n 0, 1) := by decide +kernel
theorem dX9_unseenMany_121 : decode cX9_unseenMany 121 = .ok (.getfield 47, 3) := by decide +kernel
theorem dX9_unseenMany_124 : decode cX9_unseenMany 124 = .ok (.iload 6, 2) := by decide +kernel
theorem dX9_unseenMany_126 : decode cX9_unseenMany 126 = .ok (.iaload, 1) := by decide +kernel
theorem dX9_unseenMany_127 : decode cX9_unseenMany 127 = .ok (.if_icmp .ne 7, 3) := by decide +kernel
theorem dX9_unseenMany_130 : decode cX9_unseenMany 130 = .ok (.iconst 1, 1) := by decide +kernel
theorem dX9_unseenMany_131 : decode cX9_unseenMany 131 = .ok (.goto 4, 3) := by decide +kernel
theorem dX9_unseenMany_134 : decode cX9_unseenMany 134 = .ok (.iconst 0, 1) := by decide +kernel
theorem dX9_unseenMany_135 : decode cX9_unseenMany 135 = .ok (.istore 5, 2) := by decide +kernel
theorem dX9_unseenMany_137 : decode cX9_unseenMany 137 = .ok (.iinc 6 1, 3) := by decide +kernel
theorem dX9_unseenMany_140 : decode cX9_unseenMany 140 = .ok (.goto (-46), 3) := by decide +kernel
theorem dX9_unseenMany_143 : decode cX9_unseenMany 143 = .ok (.iload 5, 2) := by decide +kernel
theorem dX9_unseenMany_145 : decode cX9_unseenMany 145 = .ok (.ifCond .eq 62, 3) := by decide +kernel
theorem dX9_unseenMany_148 : decode cX9_unseenMany 148 = .ok (.aload_n 0, 1) := by decide +kernel
theorem dX9_unseenMany_149 : decode cX9_unseenMany 149 = .ok (.iload_n 1, 1) := by decide +kernel
theorem dX9_unseenMany_150 : decode cX9_unseenMany 150 = .ok (.ifCond .ne 12, 3) := by decide +kernel
theorem dX9_unseenMany_153 : decode cX9_unseenMany 153 = .ok (.bipush 16, 2) := by decide +kernel
theorem dX9_unseenMany_155 : decode cX9_unseenMany 155 = .ok (.iload_n 2, 1) := by decide +kernel
theorem dX9_unseenMany_156 : decode cX9_unseenMany 156 = .ok (.imul, 1) := by decide +kernel
theorem dX9_unseenMany_157 : decode cX9_unseenMany 157 = .ok (.iload_n 3, 1) := by decide +kernel
theorem dX9_unseenMany_158 : decode cX9_unseenMany 158 = .ok (.iadd, 1) := by decide +kernel
theorem dX9_unseenMany_159 : decode cX9_unseenMany 159 = .ok (.goto 7, 3) := by decide +kernel
theorem dX9_unseenMany_162 : decode cX9_unseenMany 162 = .ok (.aload_n 0, 1) := by decide +kernel
theorem dX9_unseenMany_163 : decode cX9_unseenMany 163 = .ok (.getfield 244, 3) := by decide +kernel
theorem dX9_unseenMany_166 : decode cX9_unseenMany 166 = .ok (.putfield 244, 3) := by decide +kernel
theorem dX9_unseenMany_169 : decode cX9_unseenMany 169 = .ok (.iinc 1 1, 3) := by decide +kernel
theorem dX9_unseenMany_172 : decode cX9_unseenMany 172 = .ok (.iconst 0, 1) := by decide +kernel
theorem dX9_unseenMany_173 : decode cX9_unseenMany 173 = .ok (.istore 6, 2) := by decide +kernel
theorem dX9_unseenMany_175 : decode cX9_unseenMany 175 = .ok (.iload 6, 2) := by decide +kernel
theorem dX9_unseenMany_177 : decode cX9_unseenMany 177 = .ok (.aload_n 0, 1) := by decide +kernel
theorem dX9_unseenMany_178 : decode cX9_unseenMany 178 = .ok (.getfield 145, 3) := by decide +kernel
theorem dX9_unseenMany_181 : decode cX9_unseenMany 181 = .ok (.if_icmp .ge 26, 3) := by decide +kernel
theorem dX9_unseenMany_184 : decode cX9_unseenMany 184 = .ok (.aload_n 0, 1) := by decide +kernel
theorem dX9_unseenMany_185 : decode cX9_unseenMany 185 = .ok (.getfield 66, 3) := by decide +kernel
theorem dX9_unseenMany_188 : decode cX9_unseenMany 188 = .ok (.iload 6, 2) := by decide +kernel
theorem dX9_unseenMany_190 : decode cX9_unseenMany 190 = .ok (.dup2, 1) := by decide +kernel
theorem dX9_unseenMany_191 : decode cX9_unseenMany 191 = .ok (.iaload, 1) := by decide +kernel
theorem dX9_unseenMany_192 : decode cX9_unseenMany 192 = .ok (.iload 4, 2) := by decide +kernel
theorem dX9_unseenMany_194 : decode cX9_unseenMany 194 = .ok (.iload 6, 2) := by decide +kernel
theorem dX9_unseenMany_196 : decode cX9_unseenMany 196 = .ok (.ishr, 1) := by decide +kernel
theorem dX9_unseenMany_197 : decode cX9_unseenMany 197 = .ok (.iconst 1, 1) := by decide +kernel
theorem dX9_unseenMany_198 : decode cX9_unseenMany 198 = .ok (.iand, 1) := by decide +kernel
theorem dX9_unseenMany_199 : decode cX9_unseenMany 199 = .ok (.iadd, 1) := by decide +kernel
theorem dX9_unseenMany_200 : decode cX9_unseenMany 200 = .ok (.iastore, 1) := by decide +kernel
theorem dX9_unseenMany_201 : decode cX9_unseenMany 201 = .ok (.iinc 6 1, 3) := by decide +kernel
theorem dX9_unseenMany_204 : decode cX9_unseenMany 204 = .ok (.goto (-29), 3) := by decide +kernel
theorem dX9_unseenMany_207 : decode cX9_unseenMany 207 = .ok (.iinc 3 1, 3) := by decide +kernel
theorem dX9_unseenMany_210 : decode cX9_unseenMany 210 = .ok (.goto (-169), 3) := by decide +kernel
theorem dX9_unseenMany_213 : decode cX9_unseenMany 213 = .ok (.iinc 2 1, 3) := by decide +kernel
theorem dX9_unseenMany_216 : decode cX9_unseenMany 216 = .ok (.goto (-185), 3) := by decide +kernel
theorem dX9_unseenMany_219 : decode cX9_unseenMany 219 = .ok (.iload_n 1, 1) := by decide +kernel
theorem dX9_unseenMany_220 : decode cX9_unseenMany 220 = .ok (.ireturn, 1) := by decide +kernel
set_option maxRecDepth 20000 in
theorem ggX9_unseen_X9_in : GoodIn wsX9_unseen wsX9_in := goodIn_r _ [6] (by decide +kernel) (by decide +kernel)
set_option maxRecDepth 20000 in
theorem gX9_unseen_X9_in : GoodIn wsX9_unseen (va_wsS RX9 79 yX9_in wsX9_in) := goodIn_app (goodIn_of _ (by decide +kernel)) ggX9_unseen_X9_in
set_option maxRecDepth 20000 in
theorem ggX9_unseen_X9_unseenMany : GoodIn wsX9_unseen wsX9_unseenMany := goodIn_r _ [10, 2, 11, 12, 13, 14, 15, 16, 17, 18, 19, 5, 20, 21, 22, 23, 24, 25, 26, 27, 28, 29, 30, 31, 3, 4, 6, 32, 33, 34, 35, 36, 37, 38, 39, 40, 41, 42, 43, 44, 45, 46, 47, 48, 49, 50, 51, 52, 53, 54, 55, 56, 57, 58, 59, 60, 61, 62, 63, 64, 65, 66, 67, 68, 69, 70, 71, 72, 73, 74, 75, 76, 77, 78, 79, 80, 81, 82, 83] (by decide +kernel) (by decide +kernel)
set_option maxRecDepth 20000 in
theorem gX9_unseen_X9_unseenMany : GoodIn wsX9_unseen (wsV RX9 247 RX9 yX9_unseenMany wsX9_unseenMany) := goodIn_app (goodIn_of _ (by decide +kernel)) ggX9_unseen_X9_unseenMany
theorem dX9_unseen_0 : decode cX9_unseen 0 = .ok (.aload_n 0, 1) := by decide +kernel
theorem dX9_unseen_1 : decode cX9_unseen 1 = .ok (.iconst 0, 1) := by decide +kernel
theorem dX9_unseen_2 : decode cX9_unseen 2 = .ok (.putfield 75, 3) := by decide +kernel
theorem dX9_unseen_5 : decode cX9_unseen 5 = .ok (.iload_n 1, 1) := by decide +kernel
theorem dX9_unseen_6 : decode cX9_unseen 6 = .ok (.iconst 0, 1) := by decide +kernel
theorem dX9_unseen_7 : decode cX9_unseen 7 = .ok (.iconst 1, 1) := by decide +kernel
theorem dX9_unseen_8 : decode cX9_unseen 8 = .ok (.invokestatic 79, 3) := by decide +kernel
theorem dX9_unseen_11 : decode cX9_unseen 11 = .ok (.ifCond .ne 5, 3) := by decide +kernel
theorem dX9_unseen_14 : decode cX9_unseen 14 = .ok (.iconst (-1), 1) := by decide +kernel
theorem dX9_unseen_15 : decode cX9_unseen 15 = .ok (.ireturn, 1) := by decide +kernel
theorem dX9_unseen_16 : decode cX9_unseen 16 = .ok (.aload_n 0, 1) := by decide +kernel
theorem dX9_unseen_17 : decode cX9_unseen 17 = .ok (.invokevirtual 247, 3) := by decide +kernel
theorem dX9_unseen_20 : decode cX9_unseen 20 = .ok (.istore_n 2, 1) := by decide +kernel
theorem dX9_unseen_21 : decode cX9_unseen 21 = .ok (.iload_n 1, 1) := by decide +kernel
theorem dX9_unseen_22 : decode cX9_unseen 22 = .ok (.ifCond .ne 7, 3) := by decide +kernel
theorem dX9_unseen_25 : decode cX9_unseen 25 = .ok (.iload_n 2, 1) := by decide +kernel
theorem dX9_unseen_26 : decode cX9_unseen 26 = .ok (.goto 7, 3) := by decide +kernel
theorem dX9_unseen_29 : decode cX9_unseen 29 = .ok (.aload_n 0, 1) := by decide +kernel
theorem dX9_unseen_30 : decode cX9_unseen 30 = .ok (.getfield 244, 3) := by decide +kernel
theorem dX9_unseen_33 : decode cX9_unseen 33 = .ok (.ireturn, 1) := by decide +kernel
set_option maxRecDepth 20000 in
theorem ggX9_look_X9_unseenMany : GoodIn wsX9_look wsX9_unseenMany := goodIn_r _ [8, 9, 3, 2, 10, 11, 12, 13, 14, 15, 16, 7, 17, 18, 19, 20, 21, 22, 23, 24, 25, 26, 27, 28, 29, 30, 31, 32, 33, 34, 35, 36, 37, 38, 39, 40, 41, 42, 43, 44, 45, 46, 47, 48, 49, 50, 51, 52, 53, 54, 55, 56, 57, 58, 59, 60, 61, 62, 63, 64, 65, 66, 67, 68, 69, 70, 71, 72, 73, 74, 75, 76, 77, 78, 79, 80, 81, 82, 83] (by decide +kernel) (by decide +kernel)
set_option maxRecDepth 20000 in
theorem gX9_look_X9_unseenMany : GoodIn wsX9_look (wsV RX9 247 RX9 yX9_unseenMany wsX9_unseenMany) := goodIn_app (goodIn_of _ (by decide +kernel)) ggX9_look_X9_unseenMany
theorem dX9_look_0 : decode cX9_look 0 = .ok (.aload_n 0, 1) := by decide +kernel
theorem dX9_look_1 : decode cX9_look 1 = .ok (.iconst 0, 1) := by decide +kernel
theorem dX9_look_2 : decode cX9_look 2 = .ok (.putfield 75, 3) := by decide +kernel
theorem dX9_look_5 : decode cX9_look 5 = .ok (.aload_n 0, 1) := by decide +kernel
theorem dX9_look_6 : decode cX9_look 6 = .ok (.invokevirtual 247, 3) := by decide +kernel
theorem dX9_look_9 : decode cX9_look 9 = .ok (.istore_n 1, 1) := by decide +kernel
theorem dX9_look_10 : decode cX9_look 10 = .ok (.bipush (-9), 2) := by decide +kernel
theorem dX9_look_12 : decode cX9_look 12 = .ok (.istore_n 2, 1) := by decide +kernel
theorem dX9_look_13 : decode cX9_look 13 = .ok (.sipush 999, 3) := by decide +kernel
theorem dX9_look_16 : decode cX9_look 16 = .ok (.istore_n 3, 1) := by decide +kernel
theorem dX9_look_17 : decode cX9_look 17 = .ok (.iconst 0, 1) := by decide +kernel
theorem dX9_look_18 : decode cX9_look 18 = .ok (.istore 4, 2) := by decide +kernel
theorem dX9_look_20 : decode cX9_look 20 = .ok (.iload 4, 2) := by decide +kernel
theorem dX9_look_22 : decode cX9_look 22 = .ok (.aload_n 0, 1) := by decide +kernel
theorem dX9_look_23 : decode cX9_look 23 = .ok (.getfield 145, 3) := by decide +kernel
theorem dX9_look_26 : decode cX9_look 26 = .ok (.if_icmp .ge 80, 3) := by decide +kernel
theorem dX9_look_29 : decode cX9_look 29 = .ok (.iload_n 1, 1) := by decide +kernel
theorem dX9_look_30 : decode cX9_look 30 = .ok (.iconst 1, 1) := by decide +kernel
theorem dX9_look_31 : decode cX9_look 31 = .ok (.if_icmp .le 75, 3) := by decide +kernel
theorem dX9_look_34 : decode cX9_look 34 = .ok (.aload_n 0, 1) := by decide +kernel
theorem dX9_look_35 : decode cX9_look 35 = .ok (.getfield 66, 3) := by decide +kernel
theorem dX9_look_38 : decode cX9_look 38 = .ok (.iload 4, 2) := by decide +kernel
theorem dX9_look_40 : decode cX9_look 40 = .ok (.iaload, 1) := by decide +kernel
theorem dX9_look_41 : decode cX9_look 41 = .ok (.iload_n 1, 1) := by decide +kernel
theorem dX9_look_42 : decode cX9_look 42 = .ok (.aload_n 0, 1) := by decide +kernel
theorem dX9_look_43 : decode cX9_look 43 = .ok (.getfield 66, 3) := by decide +kernel
theorem dX9_look_46 : decode cX9_look 46 = .ok (.iload 4, 2) := by decide +kernel
theorem dX9_look_48 : decode cX9_look 48 = .ok (.iaload, 1) := by decide +kernel
theorem dX9_look_49 : decode cX9_look 49 = .ok (.isub, 1) := by decide +kernel
theorem dX9_look_50 : decode cX9_look 50 = .ok (.if_icmp .le 13, 3) := by decide +kernel
theorem dX9_look_53 : decode cX9_look 53 = .ok (.aload_n 0, 1) := by decide +kernel
theorem dX9_look_54 : decode cX9_look 54 = .ok (.getfield 66, 3) := by decide +kernel
theorem dX9_look_57 : decode cX9_look 57 = .ok (.iload 4, 2) := by decide +kernel
theorem dX9_look_59 : decode cX9_look 59 = .ok (.iaload, 1) := by decide +kernel
theorem dX9_look_60 : decode cX9_look 60 = .ok (.goto 12, 3) := by decide +kernel
theorem dX9_look_63 : decode cX9_look 63 = .ok (.iload_n 1, 1) := by decide +kernel
theorem dX9_look_64 : decode cX9_look 64 = .ok (.aload_n 0, 1) := by decide +kernel
theorem dX9_look_65 : decode cX9_look 65 = .ok (.getfield 66, 3) := by decide +kernel
theorem dX9_look_68 : decode cX9_look 68 = .ok (.iload 4, 2) := by decide +kernel
theorem dX9_look_70 : decode cX9_look 70 = .ok (.iaload, 1) := by decide +kernel
theorem dX9_look_71 : decode cX9_look 71 = .ok (.isub, 1) := by decide +kernel
theorem dX9_look_72 : decode cX9_look 72 = .ok (.istore 5, 2) := by decide +kernel
theorem dX9_look_74 : decode cX9_look 74 = .ok (.iload 5, 2) := by decide +kernel
theorem dX9_look_76 : decode cX9_look 76 = .ok (.iload_n 3, 1) := by decide +kernel
theorem dX9_look_77 : decode cX9_look 77 = .ok (.if_icmp .ge 8, 3) := by decide +kernel
theorem dX9_look_80 : decode cX9_look 80 = .ok (.iload 4, 2) := by decide +kernel
theorem dX9_look_82 : decode cX9_look 82 = .ok (.goto 4, 3) := by decide +kernel
theorem dX9_look_85 : decode cX9_look 85 = .ok (.iload_n 2, 1) := by decide +kernel
theorem dX9_look_86 : decode cX9_look 86 = .ok (.istore_n 2, 1) := by decide +kernel
theorem dX9_look_87 : decode cX9_look 87 = .ok (.iload 5, 2) := by decide +kernel
theorem dX9_look_89 : decode cX9_look 89 = .ok (.iload_n 3, 1) := by decide +kernel
theorem dX9_look_90 : decode cX9_look 90 = .ok (.if_icmp .ge 8, 3) := by decide +kernel
theorem dX9_look_93 : decode cX9_look 93 = .ok (.iload 5, 2) := by decide +kernel
theorem dX9_look_95 : decode cX9_look 95 = .ok (.goto 4, 3) := by decide +kernel
theorem dX9_look_98 : decode cX9_look 98 = .ok (.iload_n 3, 1) := by decide +kernel
theorem dX9_look_99 : decode cX9_look 99 = .ok (.istore_n 3, 1) := by decide +kernel
theorem dX9_look_100 : decode cX9_look 100 = .ok (.iinc 4 1, 3) := by decide +kernel
theorem dX9_look_103 : decode cX9_look 103 = .ok (.goto (-83), 3) := by decide +kernel
theorem dX9_look_106 : decode cX9_look 106 = .ok (.iload_n 2, 1) := by decide +kernel
theorem dX9_look_107 : decode cX9_look 107 = .ok (.ireturn, 1) := by decide +kernel
set_option maxRecDepth 20000 in
theorem ggX9_keep_X9_in : GoodIn wsX9_keep wsX9_in := goodIn_r _ [8] (by decide +kernel) (by decide +kernel)
set_option maxRecDepth 20000 in
theorem gX9_keep_X9_in : GoodIn wsX9_keep (va_wsS RX9 79 yX9_in wsX9_in) := goodIn_app (goodIn_of _ (by decide +kernel)) ggX9_keep_X9_in
set_option maxRecDepth 20000 in
theorem ggX9_keep_X9_arcs : GoodIn wsX9_keep wsX9_arcs := goodIn_r _ [12, 13, 3, 14, 15, 7, 16, 17, 18, 19, 20, 21, 22, 23, 24, 25, 26, 27, 28, 29, 30, 31, 32, 33, 34, 35, 36, 37, 38, 39, 40, 41, 42, 43, 44, 45, 46, 47, 48, 49, 50, 51, 52] (by decide +kernel) (by decide +kernel)
set_option maxRecDepth 20000 in
theorem gX9_keep_X9_arcs : GoodIn wsX9_keep (wsV RX9 204 RX9 yX9_arcs wsX9_arcs) := goodIn_app (goodIn_of _ (by decide +kernel)) ggX9_keep_X9_arcs
theorem dX9_keep_0 : decode cX9_keep 0 = .ok (.aload_n 0, 1) := by decide +kernel
theorem dX9_keep_1 : decode cX9_keep 1 = .ok (.iconst 0, 1) := by decide +kernel
theorem dX9_keep_2 : decode cX9_keep 2 = .ok (.putfield 75, 3) := by decide +kernel
theorem dX9_keep_5 : decode cX9_keep 5 = .ok (.iload_n 1, 1) := by decide +kernel
theorem dX9_keep_6 : decode cX9_keep 6 = .ok (.iconst 0, 1) := by decide +kernel
theorem dX9_keep_7 : decode cX9_keep 7 = .ok (.iconst 1, 1) := by decide +kernel
theorem dX9_keep_8 : decode cX9_keep 8 = .ok (.invokestatic 79, 3) := by decide +kernel
theorem dX9_keep_11 : decode cX9_keep 11 = .ok (.ifCond .ne 5, 3) := by decide +kernel
theorem dX9_keep_14 : decode cX9_keep 14 = .ok (.iconst (-1), 1) := by decide +kernel
theorem dX9_keep_15 : decode cX9_keep 15 = .ok (.ireturn, 1) := by decide +kernel
theorem dX9_keep_16 : decode cX9_keep 16 = .ok (.iconst 0, 1) := by decide +kernel
theorem dX9_keep_17 : decode cX9_keep 17 = .ok (.istore_n 2, 1) := by decide +kernel
theorem dX9_keep_18 : decode cX9_keep 18 = .ok (.iload_n 2, 1) := by decide +kernel
theorem dX9_keep_19 : decode cX9_keep 19 = .ok (.bipush 24, 2) := by decide +kernel
theorem dX9_keep_21 : decode cX9_keep 21 = .ok (.if_icmp .ge 26, 3) := by decide +kernel
theorem dX9_keep_24 : decode cX9_keep 24 = .ok (.aload_n 0, 1) := by decide +kernel
theorem dX9_keep_25 : decode cX9_keep 25 = .ok (.getfield 25, 3) := by decide +kernel
theorem dX9_keep_28 : decode cX9_keep 28 = .ok (.bipush 24, 2) := by decide +kernel
theorem dX9_keep_30 : decode cX9_keep 30 = .ok (.iload_n 1, 1) := by decide +kernel
theorem dX9_keep_31 : decode cX9_keep 31 = .ok (.imul, 1) := by decide +kernel
theorem dX9_keep_32 : decode cX9_keep 32 = .ok (.iload_n 2, 1) := by decide +kernel
theorem dX9_keep_33 : decode cX9_keep 33 = .ok (.iadd, 1) := by decide +kernel
theorem dX9_keep_34 : decode cX9_keep 34 = .ok (.aload_n 0, 1) := by decide +kernel
theorem dX9_keep_35 : decode cX9_keep 35 = .ok (.getfield 16, 3) := by decide +kernel
theorem dX9_keep_38 : decode cX9_keep 38 = .ok (.iload_n 2, 1) := by decide +kernel
theorem dX9_keep_39 : decode cX9_keep 39 = .ok (.iaload, 1) := by decide +kernel
theorem dX9_keep_40 : decode cX9_keep 40 = .ok (.iastore, 1) := by decide +kernel
theorem dX9_keep_41 : decode cX9_keep 41 = .ok (.iinc 2 1, 3) := by decide +kernel
theorem dX9_keep_44 : decode cX9_keep 44 = .ok (.goto (-26), 3) := by decide +kernel
theorem dX9_keep_47 : decode cX9_keep 47 = .ok (.aload_n 0, 1) := by decide +kernel
theorem dX9_keep_48 : decode cX9_keep 48 = .ok (.getfield 28, 3) := by decide +kernel
theorem dX9_keep_51 : decode cX9_keep 51 = .ok (.iload_n 1, 1) := by decide +kernel
theorem dX9_keep_52 : decode cX9_keep 52 = .ok (.iconst 1, 1) := by decide +kernel
theorem dX9_keep_53 : decode cX9_keep 53 = .ok (.bastore, 1) := by decide +kernel
theorem dX9_keep_54 : decode cX9_keep 54 = .ok (.aload_n 0, 1) := by decide +kernel
theorem dX9_keep_55 : decode cX9_keep 55 = .ok (.invokevirtual 204, 3) := by decide +kernel
theorem dX9_keep_58 : decode cX9_keep 58 = .ok (.ireturn, 1) := by decide +kernel
set_option maxRecDepth 20000 in
theorem ggX9_back_X9_in : GoodIn wsX9_back wsX9_in := goodIn_r _ [9] (by decide +kernel) (by decide +kernel)
set_option maxRecDepth 20000 in
theorem gX9_back_X9_in : GoodIn wsX9_back (va_wsS RX9 79 yX9_in wsX9_in) := goodIn_app (goodIn_of _ (by decide +kernel)) ggX9_back_X9_in
set_option maxRecDepth 20000 in
theorem ggX9_back_X9_arcs : GoodIn wsX9_back wsX9_arcs := goodIn_r _ [13, 14, 3, 15, 16, 8, 17, 18, 19, 20, 21, 22, 23, 24, 25, 26, 27, 28, 29, 30, 31, 32, 33, 34, 35, 36, 37, 38, 39, 40, 41, 42, 43, 44, 45, 46, 47, 48, 49, 50, 51, 52, 53] (by decide +kernel) (by decide +kernel)
set_option maxRecDepth 20000 in
theorem gX9_back_X9_arcs : GoodIn wsX9_back (wsV RX9 204 RX9 yX9_arcs wsX9_arcs) := goodIn_app (goodIn_of _ (by decide +kernel)) ggX9_back_X9_arcs
theorem dX9_back_0 : decode cX9_back 0 = .ok (.aload_n 0, 1) := by decide +kernel
theorem dX9_back_1 : decode cX9_back 1 = .ok (.iconst 0, 1) := by decide +kernel
theorem dX9_back_2 : decode cX9_back 2 = .ok (.putfield 75, 3) := by decide +kernel
theorem dX9_back_5 : decode cX9_back 5 = .ok (.iload_n 1, 1) := by decide +kernel
theorem dX9_back_6 : decode cX9_back 6 = .ok (.iconst 0, 1) := by decide +kernel
theorem dX9_back_7 : decode cX9_back 7 = .ok (.iconst 1, 1) := by decide +kernel
theorem dX9_back_8 : decode cX9_back 8 = .ok (.invokestatic 79, 3) := by decide +kernel
theorem dX9_back_11 : decode cX9_back 11 = .ok (.ifCond .ne 5, 3) := by decide +kernel
theorem dX9_back_14 : decode cX9_back 14 = .ok (.iconst (-1), 1) := by decide +kernel
theorem dX9_back_15 : decode cX9_back 15 = .ok (.ireturn, 1) := by decide +kernel
theorem dX9_back_16 : decode cX9_back 16 = .ok (.aload_n 0, 1) := by decide +kernel
theorem dX9_back_17 : decode cX9_back 17 = .ok (.getfield 28, 3) := by decide +kernel
theorem dX9_back_20 : decode cX9_back 20 = .ok (.iload_n 1, 1) := by decide +kernel
theorem dX9_back_21 : decode cX9_back 21 = .ok (.baload, 1) := by decide +kernel
theorem dX9_back_22 : decode cX9_back 22 = .ok (.ifCond .ne 6, 3) := by decide +kernel
theorem dX9_back_25 : decode cX9_back 25 = .ok (.bipush (-2), 2) := by decide +kernel
theorem dX9_back_27 : decode cX9_back 27 = .ok (.ireturn, 1) := by decide +kernel
theorem dX9_back_28 : decode cX9_back 28 = .ok (.iconst 0, 1) := by decide +kernel
theorem dX9_back_29 : decode cX9_back 29 = .ok (.istore_n 2, 1) := by decide +kernel
theorem dX9_back_30 : decode cX9_back 30 = .ok (.iload_n 2, 1) := by decide +kernel
theorem dX9_back_31 : decode cX9_back 31 = .ok (.bipush 24, 2) := by decide +kernel
theorem dX9_back_33 : decode cX9_back 33 = .ok (.if_icmp .ge 26, 3) := by decide +kernel
theorem dX9_back_36 : decode cX9_back 36 = .ok (.aload_n 0, 1) := by decide +kernel
theorem dX9_back_37 : decode cX9_back 37 = .ok (.getfield 16, 3) := by decide +kernel
theorem dX9_back_40 : decode cX9_back 40 = .ok (.iload_n 2, 1) := by decide +kernel
theorem dX9_back_41 : decode cX9_back 41 = .ok (.aload_n 0, 1) := by decide +kernel
theorem dX9_back_42 : decode cX9_back 42 = .ok (.getfield 25, 3) := by decide +kernel
theorem dX9_back_45 : decode cX9_back 45 = .ok (.bipush 24, 2) := by decide +kernel
theorem dX9_back_47 : decode cX9_back 47 = .ok (.iload_n 1, 1) := by decide +kernel
theorem dX9_back_48 : decode cX9_back 48 = .ok (.imul, 1) := by decide +kernel
theorem dX9_back_49 : decode cX9_back 49 = .ok (.iload_n 2, 1) := by decide +kernel
theorem dX9_back_50 : decode cX9_back 50 = .ok (.iadd, 1) := by decide +kernel
theorem dX9_back_51 : decode cX9_back 51 = .ok (.iaload, 1) := by decide +kernel
theorem dX9_back_52 : decode cX9_back 52 = .ok (.iastore, 1) := by decide +kernel
theorem dX9_back_53 : decode cX9_back 53 = .ok (.iinc 2 1, 3) := by decide +kernel
theorem dX9_back_56 : decode cX9_back 56 = .ok (.goto (-26), 3) := by decide +kernel
theorem dX9_back_59 : decode cX9_back 59 = .ok (.aload_n 0, 1) := by decide +kernel
theorem dX9_back_60 : decode cX9_back 60 = .ok (.iconst 0, 1) := by decide +kernel
theorem dX9_back_61 : decode cX9_back 61 = .ok (.putfield 158, 3) := by decide +kernel
theorem dX9_back_64 : decode cX9_back 64 = .ok (.aload_n 0, 1) := by decide +kernel
theorem dX9_back_65 : decode cX9_back 65 = .ok (.invokevirtual 204, 3) := by decide +kernel
theorem dX9_back_68 : decode cX9_back 68 = .ok (.ireturn, 1) := by decide +kernel
theorem dX9_count_0 : decode cX9_count 0 = .ok (.aload_n 0, 1) := by decide +kernel
theorem dX9_count_1 : decode cX9_count 1 = .ok (.iconst 0, 1) := by decide +kernel
theorem dX9_count_2 : decode cX9_count 2 = .ok (.putfield 75, 3) := by decide +kernel
theorem dX9_count_5 : decode cX9_count 5 = .ok (.iload_n 1, 1) := by decide +kernel
theorem dX9_count_6 : decode cX9_count 6 = .ok (.ifCond .ne 10, 3) := by decide +kernel
theorem dX9_count_9 : decode cX9_count 9 = .ok (.aload_n 0, 1) := by decide +kernel
theorem dX9_count_10 : decode cX9_count 10 = .ok (.getfield 145, 3) := by decide +kernel
theorem dX9_count_13 : decode cX9_count 13 = .ok (.goto 40, 3) := by decide +kernel
theorem dX9_count_16 : decode cX9_count 16 = .ok (.iload_n 1, 1) := by decide +kernel
theorem dX9_count_17 : decode cX9_count 17 = .ok (.iconst 1, 1) := by decide +kernel
theorem dX9_count_18 : decode cX9_count 18 = .ok (.if_icmp .ne 10, 3) := by decide +kernel
theorem dX9_count_21 : decode cX9_count 21 = .ok (.aload_n 0, 1) := by decide +kernel
theorem dX9_count_22 : decode cX9_count 22 = .ok (.getfield 152, 3) := by decide +kernel
theorem dX9_count_25 : decode cX9_count 25 = .ok (.goto 28, 3) := by decide +kernel
theorem dX9_count_28 : decode cX9_count 28 = .ok (.iload_n 1, 1) := by decide +kernel
theorem dX9_count_29 : decode cX9_count 29 = .ok (.iconst 2, 1) := by decide +kernel
theorem dX9_count_30 : decode cX9_count 30 = .ok (.if_icmp .ne 10, 3) := by decide +kernel
theorem dX9_count_33 : decode cX9_count 33 = .ok (.aload_n 0, 1) := by decide +kernel
theorem dX9_count_34 : decode cX9_count 34 = .ok (.getfield 155, 3) := by decide +kernel
theorem dX9_count_37 : decode cX9_count 37 = .ok (.goto 16, 3) := by decide +kernel
theorem dX9_count_40 : decode cX9_count 40 = .ok (.iload_n 1, 1) := by decide +kernel
theorem dX9_count_41 : decode cX9_count 41 = .ok (.iconst 3, 1) := by decide +kernel
theorem dX9_count_42 : decode cX9_count 42 = .ok (.if_icmp .ne 10, 3) := by decide +kernel
theorem dX9_count_45 : decode cX9_count 45 = .ok (.aload_n 0, 1) := by decide +kernel
theorem dX9_count_46 : decode cX9_count 46 = .ok (.getfield 83, 3) := by decide +kernel
theorem dX9_count_49 : decode cX9_count 49 = .ok (.goto 4, 3) := by decide +kernel
theorem dX9_count_52 : decode cX9_count 52 = .ok (.iconst (-1), 1) := by decide +kernel
theorem dX9_count_53 : decode cX9_count 53 = .ok (.ireturn, 1) := by decide +kernel
theorem dJ6_bitCount_0f7a4_0 : decode cJ6_bitCount_0f7a4 0 = .ok (.iload_n 0, 1) := by decide +kernel
theorem dJ6_bitCount_0f7a4_1 : decode cJ6_bitCount_0f7a4 1 = .ok (.iload_n 0, 1) := by decide +kernel
theorem dJ6_bitCount_0f7a4_2 : decode cJ6_bitCount_0f7a4 2 = .ok (.iconst 1, 1) := by decide +kernel
theorem dJ6_bitCount_0f7a4_3 : decode cJ6_bitCount_0f7a4 3 = .ok (.iushr, 1) := by decide +kernel
theorem dJ6_bitCount_0f7a4_4 : decode cJ6_bitCount_0f7a4 4 = .ok (.ldc_w 265, 3) := by decide +kernel
theorem dJ6_bitCount_0f7a4_7 : decode cJ6_bitCount_0f7a4 7 = .ok (.iand, 1) := by decide +kernel
theorem dJ6_bitCount_0f7a4_8 : decode cJ6_bitCount_0f7a4 8 = .ok (.isub, 1) := by decide +kernel
theorem dJ6_bitCount_0f7a4_9 : decode cJ6_bitCount_0f7a4 9 = .ok (.istore_n 0, 1) := by decide +kernel
theorem dJ6_bitCount_0f7a4_10 : decode cJ6_bitCount_0f7a4 10 = .ok (.iload_n 0, 1) := by decide +kernel
theorem dJ6_bitCount_0f7a4_11 : decode cJ6_bitCount_0f7a4 11 = .ok (.ldc_w 266, 3) := by decide +kernel
theorem dJ6_bitCount_0f7a4_14 : decode cJ6_bitCount_0f7a4 14 = .ok (.iand, 1) := by decide +kernel
theorem dJ6_bitCount_0f7a4_15 : decode cJ6_bitCount_0f7a4 15 = .ok (.iload_n 0, 1) := by decide +kernel
theorem dJ6_bitCount_0f7a4_16 : decode cJ6_bitCount_0f7a4 16 = .ok (.iconst 2, 1) := by decide +kernel
theorem dJ6_bitCount_0f7a4_17 : decode cJ6_bitCount_0f7a4 17 = .ok (.iushr, 1) := by decide +kernel
theorem dJ6_bitCount_0f7a4_18 : decode cJ6_bitCount_0f7a4 18 = .ok (.ldc_w 266, 3) := by decide +kernel
theorem dJ6_bitCount_0f7a4_21 : decode cJ6_bitCount_0f7a4 21 = .ok (.iand, 1) := by decide +kernel
theorem dJ6_bitCount_0f7a4_22 : decode cJ6_bitCount_0f7a4 22 = .ok (.iadd, 1) := by decide +kernel
theorem dJ6_bitCount_0f7a4_23 : decode cJ6_bitCount_0f7a4 23 = .ok (.istore_n 0, 1) := by decide +kernel
theorem dJ6_bitCount_0f7a4_24 : decode cJ6_bitCount_0f7a4 24 = .ok (.iload_n 0, 1) := by decide +kernel
theorem dJ6_bitCount_0f7a4_25 : decode cJ6_bitCount_0f7a4 25 = .ok (.iload_n 0, 1) := by decide +kernel
theorem dJ6_bitCount_0f7a4_26 : decode cJ6_bitCount_0f7a4 26 = .ok (.iconst 4, 1) := by decide +kernel
theorem dJ6_bitCount_0f7a4_27 : decode cJ6_bitCount_0f7a4 27 = .ok (.iushr, 1) := by decide +kernel
theorem dJ6_bitCount_0f7a4_28 : decode cJ6_bitCount_0f7a4 28 = .ok (.iadd, 1) := by decide +kernel
theorem dJ6_bitCount_0f7a4_29 : decode cJ6_bitCount_0f7a4 29 = .ok (.ldc_w 267, 3) := by decide +kernel
theorem dJ6_bitCount_0f7a4_32 : decode cJ6_bitCount_0f7a4 32 = .ok (.iand, 1) := by decide +kernel
theorem dJ6_bitCount_0f7a4_33 : decode cJ6_bitCount_0f7a4 33 = .ok (.istore_n 0, 1) := by decide +kernel
theorem dJ6_bitCount_0f7a4_34 : decode cJ6_bitCount_0f7a4 34 = .ok (.iload_n 0, 1) := by decide +kernel
theorem dJ6_bitCount_0f7a4_35 : decode cJ6_bitCount_0f7a4 35 = .ok (.iload_n 0, 1) := by decide +kernel
theorem dJ6_bitCount_0f7a4_36 : decode cJ6_bitCount_0f7a4 36 = .ok (.bipush 8, 2) := by decide +kernel
theorem dJ6_bitCount_0f7a4_38 : decode cJ6_bitCount_0f7a4 38 = .ok (.iushr, 1) := by decide +kernel
theorem dJ6_bitCount_0f7a4_39 : decode cJ6_bitCount_0f7a4 39 = .ok (.iadd, 1) := by decide +kernel
theorem dJ6_bitCount_0f7a4_40 : decode cJ6_bitCount_0f7a4 40 = .ok (.istore_n 0, 1) := by decide +kernel
theorem dJ6_bitCount_0f7a4_41 : decode cJ6_bitCount_0f7a4 41 = .ok (.iload_n 0, 1) := by decide +kernel
theorem dJ6_bitCount_0f7a4_42 : decode cJ6_bitCount_0f7a4 42 = .ok (.iload_n 0, 1) := by decide +kernel
theorem dJ6_bitCount_0f7a4_43 : decode cJ6_bitCount_0f7a4 43 = .ok (.bipush 16, 2) := by decide +kernel
theorem dJ6_bitCount_0f7a4_45 : decode cJ6_bitCount_0f7a4 45 = .ok (.iushr, 1) := by decide +kernel
theorem dJ6_bitCount_0f7a4_46 : decode cJ6_bitCount_0f7a4 46 = .ok (.iadd, 1) := by decide +kernel
theorem dJ6_bitCount_0f7a4_47 : decode cJ6_bitCount_0f7a4 47 = .ok (.istore_n 0, 1) := by decide +kernel
theorem dJ6_bitCount_0f7a4_48 : decode cJ6_bitCount_0f7a4 48 = .ok (.iload_n 0, 1) := by decide +kernel
theorem dJ6_bitCount_0f7a4_49 : decode cJ6_bitCount_0f7a4 49 = .ok (.bipush 63, 2) := by decide +kernel
theorem dJ6_bitCount_0f7a4_51 : decode cJ6_bitCount_0f7a4 51 = .ok (.iand, 1) := by decide +kernel
theorem dJ6_bitCount_0f7a4_52 : decode cJ6_bitCount_0f7a4 52 = .ok (.ireturn, 1) := by decide +kernel
theorem dJ9_max_7cf53_0 : decode cJ9_max_7cf53 0 = .ok (.iload_n 0, 1) := by decide +kernel
theorem dJ9_max_7cf53_1 : decode cJ9_max_7cf53 1 = .ok (.iload_n 1, 1) := by decide +kernel
theorem dJ9_max_7cf53_2 : decode cJ9_max_7cf53 2 = .ok (.if_icmp .lt 7, 3) := by decide +kernel
theorem dJ9_max_7cf53_5 : decode cJ9_max_7cf53 5 = .ok (.iload_n 0, 1) := by decide +kernel
theorem dJ9_max_7cf53_6 : decode cJ9_max_7cf53 6 = .ok (.goto 4, 3) := by decide +kernel
theorem dJ9_max_7cf53_9 : decode cJ9_max_7cf53 9 = .ok (.iload_n 1, 1) := by decide +kernel
theorem dJ9_max_7cf53_10 : decode cJ9_max_7cf53 10 = .ok (.ireturn, 1) := by decide +kernel
theorem dJ9_min_7cf53_0 : decode cJ9_min_7cf53 0 = .ok (.iload_n 0, 1) := by decide +kernel
theorem dJ9_min_7cf53_1 : decode cJ9_min_7cf53 1 = .ok (.iload_n 1, 1) := by decide +kernel
theorem dJ9_min_7cf53_2 : decode cJ9_min_7cf53 2 = .ok (.if_icmp .gt 7, 3) := by decide +kernel
theorem dJ9_min_7cf53_5 : decode cJ9_min_7cf53 5 = .ok (.iload_n 0, 1) := by decide +kernel
theorem dJ9_min_7cf53_6 : decode cJ9_min_7cf53 6 = .ok (.goto 4, 3) := by decide +kernel
theorem dJ9_min_7cf53_9 : decode cJ9_min_7cf53 9 = .ok (.iload_n 1, 1) := by decide +kernel
theorem dJ9_min_7cf53_10 : decode cJ9_min_7cf53 10 = .ok (.ireturn, 1) := by decide +kernel
theorem dJ7_fill_53178_0 : decode cJ7_fill_53178 0 = .ok (.iconst 0, 1) := by decide +kernel
theorem dJ7_fill_53178_1 : decode cJ7_fill_53178 1 = .ok (.istore_n 2, 1) := by decide +kernel
theorem dJ7_fill_53178_2 : decode cJ7_fill_53178 2 = .ok (.aload_n 0, 1) := by decide +kernel
theorem dJ7_fill_53178_3 : decode cJ7_fill_53178 3 = .ok (.arraylength, 1) := by decide +kernel
theorem dJ7_fill_53178_4 : decode cJ7_fill_53178 4 = .ok (.istore_n 3, 1) := by decide +kernel
theorem dJ7_fill_53178_5 : decode cJ7_fill_53178 5 = .ok (.iload_n 2, 1) := by decide +kernel
theorem dJ7_fill_53178_6 : decode cJ7_fill_53178 6 = .ok (.iload_n 3, 1) := by decide +kernel
theorem dJ7_fill_53178_7 : decode cJ7_fill_53178 7 = .ok (.if_icmp .ge 13, 3) := by decide +kernel
theorem dJ7_fill_53178_10 : decode cJ7_fill_53178 10 = .ok (.aload_n 0, 1) := by decide +kernel
theorem dJ7_fill_53178_11 : decode cJ7_fill_53178 11 = .ok (.iload_n 2, 1) := by decide +kernel
theorem dJ7_fill_53178_12 : decode cJ7_fill_53178 12 = .ok (.iload_n 1, 1) := by decide +kernel
theorem dJ7_fill_53178_13 : decode cJ7_fill_53178 13 = .ok (.iastore, 1) := by decide +kernel
theorem dJ7_fill_53178_14 : decode cJ7_fill_53178 14 = .ok (.iinc 2 1, 3) := by decide +kernel
theorem dJ7_fill_53178_17 : decode cJ7_fill_53178 17 = .ok (.goto (-12), 3) := by decide +kernel
theorem dJ7_fill_53178_20 : decode cJ7_fill_53178 20 = .ok (.return_, 1) := by decide +kernel
