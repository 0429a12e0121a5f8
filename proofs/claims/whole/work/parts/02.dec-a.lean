theorem dX0_init_0 : decode cX0_init 0 = .ok (.aload_n 0, 1) := by decide +kernel
theorem dX0_init_1 : decode cX0_init 1 = .ok (.invokespecial 3, 3) := by decide +kernel
theorem dX0_init_4 : decode cX0_init 4 = .ok (.aload_n 0, 1) := by decide +kernel
theorem dX0_init_5 : decode cX0_init 5 = .ok (.bipush 8, 2) := by decide +kernel
theorem dX0_init_7 : decode cX0_init 7 = .ok (.newarray .int, 2) := by decide +kernel
theorem dX0_init_9 : decode cX0_init 9 = .ok (.putfield 9, 3) := by decide +kernel
theorem dX0_init_12 : decode cX0_init 12 = .ok (.aload_n 0, 1) := by decide +kernel
theorem dX0_init_13 : decode cX0_init 13 = .ok (.bipush 8, 2) := by decide +kernel
theorem dX0_init_15 : decode cX0_init 15 = .ok (.newarray .int, 2) := by decide +kernel
theorem dX0_init_17 : decode cX0_init 17 = .ok (.putfield 15, 3) := by decide +kernel
theorem dX0_init_20 : decode cX0_init 20 = .ok (.return_, 1) := by decide +kernel
theorem dX0_append_0 : decode cX0_append 0 = .ok (.aload_n 0, 1) := by decide +kernel
theorem dX0_append_1 : decode cX0_append 1 = .ok (.getfield 18, 3) := by decide +kernel
theorem dX0_append_4 : decode cX0_append 4 = .ok (.bipush 8, 2) := by decide +kernel
theorem dX0_append_6 : decode cX0_append 6 = .ok (.if_icmp .lt 5, 3) := by decide +kernel
theorem dX0_append_9 : decode cX0_append 9 = .ok (.iconst 0, 1) := by decide +kernel
theorem dX0_append_10 : decode cX0_append 10 = .ok (.ireturn, 1) := by decide +kernel
theorem dX0_append_11 : decode cX0_append 11 = .ok (.aload_n 0, 1) := by decide +kernel
theorem dX0_append_12 : decode cX0_append 12 = .ok (.getfield 9, 3) := by decide +kernel
theorem dX0_append_15 : decode cX0_append 15 = .ok (.aload_n 0, 1) := by decide +kernel
theorem dX0_append_16 : decode cX0_append 16 = .ok (.getfield 18, 3) := by decide +kernel
theorem dX0_append_19 : decode cX0_append 19 = .ok (.iload_n 1, 1) := by decide +kernel
theorem dX0_append_20 : decode cX0_append 20 = .ok (.iastore, 1) := by decide +kernel
theorem dX0_append_21 : decode cX0_append 21 = .ok (.aload_n 0, 1) := by decide +kernel
theorem dX0_append_22 : decode cX0_append 22 = .ok (.getfield 15, 3) := by decide +kernel
theorem dX0_append_25 : decode cX0_append 25 = .ok (.aload_n 0, 1) := by decide +kernel
theorem dX0_append_26 : decode cX0_append 26 = .ok (.getfield 18, 3) := by decide +kernel
theorem dX0_append_29 : decode cX0_append 29 = .ok (.iload_n 2, 1) := by decide +kernel
theorem dX0_append_30 : decode cX0_append 30 = .ok (.iastore, 1) := by decide +kernel
theorem dX0_append_31 : decode cX0_append 31 = .ok (.aload_n 0, 1) := by decide +kernel
theorem dX0_append_32 : decode cX0_append 32 = .ok (.dup, 1) := by decide +kernel
theorem dX0_append_33 : decode cX0_append 33 = .ok (.getfield 18, 3) := by decide +kernel
theorem dX0_append_36 : decode cX0_append 36 = .ok (.iconst 1, 1) := by decide +kernel
theorem dX0_append_37 : decode cX0_append 37 = .ok (.iadd, 1) := by decide +kernel
theorem dX0_append_38 : decode cX0_append 38 = .ok (.putfield 18, 3) := by decide +kernel
theorem dX0_append_41 : decode cX0_append 41 = .ok (.iconst 1, 1) := by decide +kernel
theorem dX0_append_42 : decode cX0_append 42 = .ok (.ireturn, 1) := by decide +kernel
theorem dX0_holds_0 : decode cX0_holds 0 = .ok (.iconst 0, 1) := by decide +kernel
theorem dX0_holds_1 : decode cX0_holds 1 = .ok (.istore_n 3, 1) := by decide +kernel
theorem dX0_holds_2 : decode cX0_holds 2 = .ok (.iload_n 3, 1) := by decide +kernel
theorem dX0_holds_3 : decode cX0_holds 3 = .ok (.aload_n 0, 1) := by decide +kernel
theorem dX0_holds_4 : decode cX0_holds 4 = .ok (.getfield 18, 3) := by decide +kernel
theorem dX0_holds_7 : decode cX0_holds 7 = .ok (.if_icmp .ge 31, 3) := by decide +kernel
theorem dX0_holds_10 : decode cX0_holds 10 = .ok (.aload_n 0, 1) := by decide +kernel
theorem dX0_holds_11 : decode cX0_holds 11 = .ok (.getfield 9, 3) := by decide +kernel
theorem dX0_holds_14 : decode cX0_holds 14 = .ok (.iload_n 3, 1) := by decide +kernel
theorem dX0_holds_15 : decode cX0_holds 15 = .ok (.iaload, 1) := by decide +kernel
theorem dX0_holds_16 : decode cX0_holds 16 = .ok (.iload_n 1, 1) := by decide +kernel
theorem dX0_holds_17 : decode cX0_holds 17 = .ok (.if_icmp .ne 15, 3) := by decide +kernel
theorem dX0_holds_20 : decode cX0_holds 20 = .ok (.aload_n 0, 1) := by decide +kernel
theorem dX0_holds_21 : decode cX0_holds 21 = .ok (.getfield 15, 3) := by decide +kernel
theorem dX0_holds_24 : decode cX0_holds 24 = .ok (.iload_n 3, 1) := by decide +kernel
theorem dX0_holds_25 : decode cX0_holds 25 = .ok (.iaload, 1) := by decide +kernel
theorem dX0_holds_26 : decode cX0_holds 26 = .ok (.iload_n 2, 1) := by decide +kernel
theorem dX0_holds_27 : decode cX0_holds 27 = .ok (.if_icmp .ne 5, 3) := by decide +kernel
theorem dX0_holds_30 : decode cX0_holds 30 = .ok (.iconst 1, 1) := by decide +kernel
theorem dX0_holds_31 : decode cX0_holds 31 = .ok (.ireturn, 1) := by decide +kernel
theorem dX0_holds_32 : decode cX0_holds 32 = .ok (.iinc 3 1, 3) := by decide +kernel
theorem dX0_holds_35 : decode cX0_holds 35 = .ok (.goto (-33), 3) := by decide +kernel
theorem dX0_holds_38 : decode cX0_holds 38 = .ok (.iconst 0, 1) := by decide +kernel
theorem dX0_holds_39 : decode cX0_holds 39 = .ok (.ireturn, 1) := by decide +kernel
set_option maxRecDepth 20000 in
theorem ggX0_isAnyIn_X3_has : GoodIn wsX0_isAnyIn wsX3_has := goodIn_r _ [8, 9, 10, 11, 12, 16, 17, 18, 19, 20, 21, 22] (by decide +kernel) (by decide +kernel)
set_option maxRecDepth 20000 in
theorem gX0_isAnyIn_X3_has : GoodIn wsX0_isAnyIn (wsV RX0 22 RX3 yX3_has wsX3_has) := goodIn_app (goodIn_of _ (by decide +kernel)) ggX0_isAnyIn_X3_has
theorem dX0_isAnyIn_0 : decode cX0_isAnyIn 0 = .ok (.iconst 0, 1) := by decide +kernel
theorem dX0_isAnyIn_1 : decode cX0_isAnyIn 1 = .ok (.istore_n 2, 1) := by decide +kernel
theorem dX0_isAnyIn_2 : decode cX0_isAnyIn 2 = .ok (.iload_n 2, 1) := by decide +kernel
theorem dX0_isAnyIn_3 : decode cX0_isAnyIn 3 = .ok (.aload_n 0, 1) := by decide +kernel
theorem dX0_isAnyIn_4 : decode cX0_isAnyIn 4 = .ok (.getfield 18, 3) := by decide +kernel
theorem dX0_isAnyIn_7 : decode cX0_isAnyIn 7 = .ok (.if_icmp .ge 30, 3) := by decide +kernel
theorem dX0_isAnyIn_10 : decode cX0_isAnyIn 10 = .ok (.aload_n 1, 1) := by decide +kernel
theorem dX0_isAnyIn_11 : decode cX0_isAnyIn 11 = .ok (.aload_n 0, 1) := by decide +kernel
theorem dX0_isAnyIn_12 : decode cX0_isAnyIn 12 = .ok (.getfield 9, 3) := by decide +kernel
theorem dX0_isAnyIn_15 : decode cX0_isAnyIn 15 = .ok (.iload_n 2, 1) := by decide +kernel
theorem dX0_isAnyIn_16 : decode cX0_isAnyIn 16 = .ok (.iaload, 1) := by decide +kernel
theorem dX0_isAnyIn_17 : decode cX0_isAnyIn 17 = .ok (.aload_n 0, 1) := by decide +kernel
theorem dX0_isAnyIn_18 : decode cX0_isAnyIn 18 = .ok (.getfield 15, 3) := by decide +kernel
theorem dX0_isAnyIn_21 : decode cX0_isAnyIn 21 = .ok (.iload_n 2, 1) := by decide +kernel
theorem dX0_isAnyIn_22 : decode cX0_isAnyIn 22 = .ok (.iaload, 1) := by decide +kernel
theorem dX0_isAnyIn_23 : decode cX0_isAnyIn 23 = .ok (.invokevirtual 22, 3) := by decide +kernel
theorem dX0_isAnyIn_26 : decode cX0_isAnyIn 26 = .ok (.ifCond .eq 5, 3) := by decide +kernel
theorem dX0_isAnyIn_29 : decode cX0_isAnyIn 29 = .ok (.iconst 1, 1) := by decide +kernel
theorem dX0_isAnyIn_30 : decode cX0_isAnyIn 30 = .ok (.ireturn, 1) := by decide +kernel
theorem dX0_isAnyIn_31 : decode cX0_isAnyIn 31 = .ok (.iinc 2 1, 3) := by decide +kernel
theorem dX0_isAnyIn_34 : decode cX0_isAnyIn 34 = .ok (.goto (-32), 3) := by decide +kernel
theorem dX0_isAnyIn_37 : decode cX0_isAnyIn 37 = .ok (.iconst 0, 1) := by decide +kernel
theorem dX0_isAnyIn_38 : decode cX0_isAnyIn 38 = .ok (.ireturn, 1) := by decide +kernel
theorem dX1_init_0 : decode cX1_init 0 = .ok (.aload_n 0, 1) := by decide +kernel
theorem dX1_init_1 : decode cX1_init 1 = .ok (.invokespecial 3, 3) := by decide +kernel
theorem dX1_init_4 : decode cX1_init 4 = .ok (.aload_n 0, 1) := by decide +kernel
theorem dX1_init_5 : decode cX1_init 5 = .ok (.sipush 4096, 3) := by decide +kernel
theorem dX1_init_8 : decode cX1_init 8 = .ok (.newarray .int, 2) := by decide +kernel
theorem dX1_init_10 : decode cX1_init 10 = .ok (.putfield 9, 3) := by decide +kernel
theorem dX1_init_13 : decode cX1_init 13 = .ok (.return_, 1) := by decide +kernel
set_option maxRecDepth 20000 in
theorem ggX1_fewestDays_J7_fill_53178 : GoodIn wsX1_fewestDays wsJ7_fill_53178 := goodIn_r _ [9] (by decide +kernel) (by decide +kernel)
set_option maxRecDepth 20000 in
theorem gX1_fewestDays_J7_fill_53178 : GoodIn wsX1_fewestDays (va_wsS RX1 15 yJ7_fill_53178 wsJ7_fill_53178) := goodIn_app (goodIn_of _ (by decide +kernel)) ggX1_fewestDays_J7_fill_53178
set_option maxRecDepth 20000 in
theorem ggX1_fewestDays_X3_everyItem : GoodIn wsX1_fewestDays wsX3_everyItem := goodIn_r _ [14, 15, 40, 41, 42, 43, 44, 45, 46] (by decide +kernel) (by decide +kernel)
set_option maxRecDepth 20000 in
theorem gX1_fewestDays_X3_everyItem : GoodIn wsX1_fewestDays (wsV RX1 21 RX3 yX3_everyItem wsX3_everyItem) := goodIn_app (goodIn_of _ (by decide +kernel)) ggX1_fewestDays_X3_everyItem
set_option maxRecDepth 20000 in
theorem ggX1_fewestDays_X3_allReady : GoodIn wsX1_fewestDays wsX3_allReady := goodIn_r _ [19, 15, 20, 21, 22, 13, 23, 24, 25, 26, 27, 40, 41, 42, 43, 44, 45, 46] (by decide +kernel) (by decide +kernel)
set_option maxRecDepth 20000 in
theorem gX1_fewestDays_X3_allReady : GoodIn wsX1_fewestDays (wsV RX1 27 RX3 yX3_allReady wsX3_allReady) := goodIn_app (goodIn_of _ (by decide +kernel)) ggX1_fewestDays_X3_allReady
set_option maxRecDepth 20000 in
theorem ggX1_fewestDays_J6_bitCount_0f7a4 : GoodIn wsX1_fewestDays wsJ6_bitCount_0f7a4 := goodIn_r _ [31, 32, 33, 34] (by decide +kernel) (by decide +kernel)
set_option maxRecDepth 20000 in
theorem gX1_fewestDays_J6_bitCount_0f7a4 : GoodIn wsX1_fewestDays (va_wsS RX1 31 yJ6_bitCount_0f7a4 wsJ6_bitCount_0f7a4) := goodIn_app (goodIn_of _ (by decide +kernel)) ggX1_fewestDays_J6_bitCount_0f7a4
set_option maxRecDepth 20000 in
theorem ggX1_fewestDays_X1_work : GoodIn wsX1_fewestDays wsX1_work := goodIn_r _ [38, 2, 3, 4, 5, 25, 26, 27, 35, 36, 37] (by decide +kernel) (by decide +kernel)
set_option maxRecDepth 20000 in
theorem gX1_fewestDays_X1_work : GoodIn wsX1_fewestDays (va_wsS RX1 42 yX1_work wsX1_work) := goodIn_app (goodIn_of _ (by decide +kernel)) ggX1_fewestDays_X1_work
theorem dX1_fewestDays_0 : decode cX1_fewestDays 0 = .ok (.aload_n 0, 1) := by decide +kernel
theorem dX1_fewestDays_1 : decode cX1_fewestDays 1 = .ok (.getfield 9, 3) := by decide +kernel
theorem dX1_fewestDays_4 : decode cX1_fewestDays 4 = .ok (.bipush 13, 2) := by decide +kernel
theorem dX1_fewestDays_6 : decode cX1_fewestDays 6 = .ok (.invokestatic 15, 3) := by decide +kernel
theorem dX1_fewestDays_9 : decode cX1_fewestDays 9 = .ok (.aload_n 0, 1) := by decide +kernel
theorem dX1_fewestDays_10 : decode cX1_fewestDays 10 = .ok (.getfield 9, 3) := by decide +kernel
theorem dX1_fewestDays_13 : decode cX1_fewestDays 13 = .ok (.iconst 0, 1) := by decide +kernel
theorem dX1_fewestDays_14 : decode cX1_fewestDays 14 = .ok (.iconst 0, 1) := by decide +kernel
theorem dX1_fewestDays_15 : decode cX1_fewestDays 15 = .ok (.iastore, 1) := by decide +kernel
theorem dX1_fewestDays_16 : decode cX1_fewestDays 16 = .ok (.aload_n 1, 1) := by decide +kernel
theorem dX1_fewestDays_17 : decode cX1_fewestDays 17 = .ok (.invokevirtual 21, 3) := by decide +kernel
theorem dX1_fewestDays_20 : decode cX1_fewestDays 20 = .ok (.istore_n 3, 1) := by decide +kernel
theorem dX1_fewestDays_21 : decode cX1_fewestDays 21 = .ok (.iconst 0, 1) := by decide +kernel
theorem dX1_fewestDays_22 : decode cX1_fewestDays 22 = .ok (.istore 4, 2) := by decide +kernel
theorem dX1_fewestDays_24 : decode cX1_fewestDays 24 = .ok (.iload 4, 2) := by decide +kernel
theorem dX1_fewestDays_26 : decode cX1_fewestDays 26 = .ok (.iload_n 3, 1) := by decide +kernel
theorem dX1_fewestDays_27 : decode cX1_fewestDays 27 = .ok (.if_icmp .ge 63, 3) := by decide +kernel
theorem dX1_fewestDays_30 : decode cX1_fewestDays 30 = .ok (.aload_n 0, 1) := by decide +kernel
theorem dX1_fewestDays_31 : decode cX1_fewestDays 31 = .ok (.getfield 9, 3) := by decide +kernel
theorem dX1_fewestDays_34 : decode cX1_fewestDays 34 = .ok (.iload 4, 2) := by decide +kernel
theorem dX1_fewestDays_36 : decode cX1_fewestDays 36 = .ok (.iaload, 1) := by decide +kernel
theorem dX1_fewestDays_37 : decode cX1_fewestDays 37 = .ok (.bipush 13, 2) := by decide +kernel
theorem dX1_fewestDays_39 : decode cX1_fewestDays 39 = .ok (.if_icmp .ge 45, 3) := by decide +kernel
theorem dX1_fewestDays_42 : decode cX1_fewestDays 42 = .ok (.aload_n 1, 1) := by decide +kernel
theorem dX1_fewestDays_43 : decode cX1_fewestDays 43 = .ok (.iload 4, 2) := by decide +kernel
theorem dX1_fewestDays_45 : decode cX1_fewestDays 45 = .ok (.invokevirtual 27, 3) := by decide +kernel
theorem dX1_fewestDays_48 : decode cX1_fewestDays 48 = .ok (.istore 5, 2) := by decide +kernel
theorem dX1_fewestDays_50 : decode cX1_fewestDays 50 = .ok (.iload_n 2, 1) := by decide +kernel
theorem dX1_fewestDays_51 : decode cX1_fewestDays 51 = .ok (.iload 5, 2) := by decide +kernel
theorem dX1_fewestDays_53 : decode cX1_fewestDays 53 = .ok (.invokestatic 31, 3) := by decide +kernel
theorem dX1_fewestDays_56 : decode cX1_fewestDays 56 = .ok (.invokestatic 36, 3) := by decide +kernel
theorem dX1_fewestDays_59 : decode cX1_fewestDays 59 = .ok (.istore 6, 2) := by decide +kernel
theorem dX1_fewestDays_61 : decode cX1_fewestDays 61 = .ok (.aload_n 0, 1) := by decide +kernel
theorem dX1_fewestDays_62 : decode cX1_fewestDays 62 = .ok (.getfield 9, 3) := by decide +kernel
theorem dX1_fewestDays_65 : decode cX1_fewestDays 65 = .ok (.iload 4, 2) := by decide +kernel
theorem dX1_fewestDays_67 : decode cX1_fewestDays 67 = .ok (.iload 5, 2) := by decide +kernel
theorem dX1_fewestDays_69 : decode cX1_fewestDays 69 = .ok (.iconst 0, 1) := by decide +kernel
theorem dX1_fewestDays_70 : decode cX1_fewestDays 70 = .ok (.iload 6, 2) := by decide +kernel
theorem dX1_fewestDays_72 : decode cX1_fewestDays 72 = .ok (.aload_n 0, 1) := by decide +kernel
theorem dX1_fewestDays_73 : decode cX1_fewestDays 73 = .ok (.getfield 9, 3) := by decide +kernel
theorem dX1_fewestDays_76 : decode cX1_fewestDays 76 = .ok (.iload 4, 2) := by decide +kernel
theorem dX1_fewestDays_78 : decode cX1_fewestDays 78 = .ok (.iaload, 1) := by decide +kernel
theorem dX1_fewestDays_79 : decode cX1_fewestDays 79 = .ok (.iconst 1, 1) := by decide +kernel
theorem dX1_fewestDays_80 : decode cX1_fewestDays 80 = .ok (.iadd, 1) := by decide +kernel
theorem dX1_fewestDays_81 : decode cX1_fewestDays 81 = .ok (.invokestatic 42, 3) := by decide +kernel
theorem dX1_fewestDays_84 : decode cX1_fewestDays 84 = .ok (.iinc 4 1, 3) := by decide +kernel
theorem dX1_fewestDays_87 : decode cX1_fewestDays 87 = .ok (.goto (-63), 3) := by decide +kernel
theorem dX1_fewestDays_90 : decode cX1_fewestDays 90 = .ok (.aload_n 0, 1) := by decide +kernel
theorem dX1_fewestDays_91 : decode cX1_fewestDays 91 = .ok (.getfield 9, 3) := by decide +kernel
theorem dX1_fewestDays_94 : decode cX1_fewestDays 94 = .ok (.iload_n 3, 1) := by decide +kernel
theorem dX1_fewestDays_95 : decode cX1_fewestDays 95 = .ok (.iaload, 1) := by decide +kernel
theorem dX1_fewestDays_96 : decode cX1_fewestDays 96 = .ok (.ireturn, 1) := by decide +kernel
set_option maxRecDepth 20000 in
theorem ggX1_work_X8_holdsBit : GoodIn wsX1_work wsX8_holdsBit := goodIn_r _ [7] (by decide +kernel) (by decide +kernel)
set_option maxRecDepth 20000 in
theorem gX1_work_X8_holdsBit_n46 : GoodIn wsX1_work (wsX8_holdsBit) := ggX1_work_X8_holdsBit
set_option maxRecDepth 20000 in
theorem ggX1_work_X1_work : GoodIn wsX1_work wsX1_work := goodIn_r _ [0, 1, 2, 3, 4, 5, 6, 7, 8, 9, 10] (by decide +kernel) (by decide +kernel)
set_option maxRecDepth 20000 in
theorem gX1_work_X1_work : GoodIn wsX1_work (va_wsS RX1 42 yX1_work wsX1_work) := goodIn_app (goodIn_of _ (by decide +kernel)) ggX1_work_X1_work
theorem dX1_work_0 : decode cX1_work 0 = .ok (.iload 4, 2) := by decide +kernel
theorem dX1_work_2 : decode cX1_work 2 = .ok (.ifCond .gt 15, 3) := by decide +kernel
theorem dX1_work_5 : decode cX1_work 5 = .ok (.aload_n 0, 1) := by decide +kernel
theorem dX1_work_6 : decode cX1_work 6 = .ok (.iload_n 1, 1) := by decide +kernel
theorem dX1_work_7 : decode cX1_work 7 = .ok (.aload_n 0, 1) := by decide +kernel
theorem dX1_work_8 : decode cX1_work 8 = .ok (.iload_n 1, 1) := by decide +kernel
theorem dX1_work_9 : decode cX1_work 9 = .ok (.iaload, 1) := by decide +kernel
theorem dX1_work_10 : decode cX1_work 10 = .ok (.iload 5, 2) := by decide +kernel
theorem dX1_work_12 : decode cX1_work 12 = .ok (.invokestatic 36, 3) := by decide +kernel
theorem dX1_work_15 : decode cX1_work 15 = .ok (.iastore, 1) := by decide +kernel
theorem dX1_work_16 : decode cX1_work 16 = .ok (.return_, 1) := by decide +kernel
theorem dX1_work_17 : decode cX1_work 17 = .ok (.iload_n 3, 1) := by decide +kernel
theorem dX1_work_18 : decode cX1_work 18 = .ok (.istore 6, 2) := by decide +kernel
theorem dX1_work_20 : decode cX1_work 20 = .ok (.iload 6, 2) := by decide +kernel
theorem dX1_work_22 : decode cX1_work 22 = .ok (.bipush 12, 2) := by decide +kernel
theorem dX1_work_24 : decode cX1_work 24 = .ok (.if_icmp .ge 39, 3) := by decide +kernel
theorem dX1_work_27 : decode cX1_work 27 = .ok (.iload_n 2, 1) := by decide +kernel
theorem dX1_work_28 : decode cX1_work 28 = .ok (.iload 6, 2) := by decide +kernel
theorem dX1_work_30 : decode cX1_work 30 = .ok (.invokestatic 46, 3) := by decide +kernel
theorem dX1_work_33 : decode cX1_work 33 = .ok (.ifCond .eq 24, 3) := by decide +kernel
theorem dX1_work_36 : decode cX1_work 36 = .ok (.aload_n 0, 1) := by decide +kernel
theorem dX1_work_37 : decode cX1_work 37 = .ok (.iload_n 1, 1) := by decide +kernel
theorem dX1_work_38 : decode cX1_work 38 = .ok (.iconst 1, 1) := by decide +kernel
theorem dX1_work_39 : decode cX1_work 39 = .ok (.iload 6, 2) := by decide +kernel
theorem dX1_work_41 : decode cX1_work 41 = .ok (.ishl, 1) := by decide +kernel
theorem dX1_work_42 : decode cX1_work 42 = .ok (.ior, 1) := by decide +kernel
theorem dX1_work_43 : decode cX1_work 43 = .ok (.iload_n 2, 1) := by decide +kernel
theorem dX1_work_44 : decode cX1_work 44 = .ok (.iload 6, 2) := by decide +kernel
theorem dX1_work_46 : decode cX1_work 46 = .ok (.iconst 1, 1) := by decide +kernel
theorem dX1_work_47 : decode cX1_work 47 = .ok (.iadd, 1) := by decide +kernel
theorem dX1_work_48 : decode cX1_work 48 = .ok (.iload 4, 2) := by decide +kernel
theorem dX1_work_50 : decode cX1_work 50 = .ok (.iconst 1, 1) := by decide +kernel
theorem dX1_work_51 : decode cX1_work 51 = .ok (.isub, 1) := by decide +kernel
theorem dX1_work_52 : decode cX1_work 52 = .ok (.iload 5, 2) := by decide +kernel
theorem dX1_work_54 : decode cX1_work 54 = .ok (.invokestatic 42, 3) := by decide +kernel
theorem dX1_work_57 : decode cX1_work 57 = .ok (.iinc 6 1, 3) := by decide +kernel
theorem dX1_work_60 : decode cX1_work 60 = .ok (.goto (-40), 3) := by decide +kernel
theorem dX1_work_63 : decode cX1_work 63 = .ok (.return_, 1) := by decide +kernel
theorem dX2_init_0 : decode cX2_init 0 = .ok (.aload_n 0, 1) := by decide +kernel
theorem dX2_init_1 : decode cX2_init 1 = .ok (.invokespecial 3, 3) := by decide +kernel
theorem dX2_init_4 : decode cX2_init 4 = .ok (.aload_n 0, 1) := by decide +kernel
theorem dX2_init_5 : decode cX2_init 5 = .ok (.bipush 12, 2) := by decide +kernel
theorem dX2_init_7 : decode cX2_init 7 = .ok (.newarray .int, 2) := by decide +kernel
theorem dX2_init_9 : decode cX2_init 9 = .ok (.putfield 9, 3) := by decide +kernel
theorem dX2_init_12 : decode cX2_init 12 = .ok (.aload_n 0, 1) := by decide +kernel
theorem dX2_init_13 : decode cX2_init 13 = .ok (.bipush 12, 2) := by decide +kernel
theorem dX2_init_15 : decode cX2_init 15 = .ok (.newarray .int, 2) := by decide +kernel
theorem dX2_init_17 : decode cX2_init 17 = .ok (.putfield 15, 3) := by decide +kernel
theorem dX2_init_20 : decode cX2_init 20 = .ok (.return_, 1) := by decide +kernel
set_option maxRecDepth 20000 in
theorem ggX2_trace_X2_measure : GoodIn wsX2_trace wsX2_measure := goodIn_r _ [8, 3, 9, 10, 11, 12, 13, 14, 15, 16, 17, 18, 19, 20, 21, 22, 23, 24, 25, 26, 27, 28, 33, 34, 35, 36, 37, 38, 39, 40, 41, 42] (by decide +kernel) (by decide +kernel)
set_option maxRecDepth 20000 in
theorem gX2_trace_X2_measure : GoodIn wsX2_trace (wsV RX2 18 RX2 yX2_measure wsX2_measure) := goodIn_app (goodIn_of _ (by decide +kernel)) ggX2_trace_X2_measure
set_option maxRecDepth 20000 in
theorem ggX2_trace_X2_lowestNext : GoodIn wsX2_trace wsX2_lowestNext := goodIn_r _ [32, 11, 3, 20, 21, 22, 23, 24, 25, 26, 27, 28, 36, 37, 38, 39, 40, 41, 42, 33, 34, 35] (by decide +kernel) (by decide +kernel)
set_option maxRecDepth 20000 in
theorem gX2_trace_X2_lowestNext : GoodIn wsX2_trace (wsV RX2 26 RX2 yX2_lowestNext wsX2_lowestNext) := goodIn_app (goodIn_of _ (by decide +kernel)) ggX2_trace_X2_lowestNext
theorem dX2_trace_0 : decode cX2_trace 0 = .ok (.aload_n 0, 1) := by decide +kernel
theorem dX2_trace_1 : decode cX2_trace 1 = .ok (.aload_n 1, 1) := by decide +kernel
theorem dX2_trace_2 : decode cX2_trace 2 = .ok (.iload_n 2, 1) := by decide +kernel
theorem dX2_trace_3 : decode cX2_trace 3 = .ok (.invokevirtual 18, 3) := by decide +kernel
theorem dX2_trace_6 : decode cX2_trace 6 = .ok (.iload_n 3, 1) := by decide +kernel
theorem dX2_trace_7 : decode cX2_trace 7 = .ok (.istore 4, 2) := by decide +kernel
theorem dX2_trace_9 : decode cX2_trace 9 = .ok (.aload_n 0, 1) := by decide +kernel
theorem dX2_trace_10 : decode cX2_trace 10 = .ok (.getfield 9, 3) := by decide +kernel
theorem dX2_trace_13 : decode cX2_trace 13 = .ok (.iconst 0, 1) := by decide +kernel
theorem dX2_trace_14 : decode cX2_trace 14 = .ok (.iload_n 3, 1) := by decide +kernel
theorem dX2_trace_15 : decode cX2_trace 15 = .ok (.iastore, 1) := by decide +kernel
theorem dX2_trace_16 : decode cX2_trace 16 = .ok (.aload_n 0, 1) := by decide +kernel
theorem dX2_trace_17 : decode cX2_trace 17 = .ok (.iconst 1, 1) := by decide +kernel
theorem dX2_trace_18 : decode cX2_trace 18 = .ok (.putfield 22, 3) := by decide +kernel
theorem dX2_trace_21 : decode cX2_trace 21 = .ok (.aload_n 0, 1) := by decide +kernel
theorem dX2_trace_22 : decode cX2_trace 22 = .ok (.getfield 15, 3) := by decide +kernel
theorem dX2_trace_25 : decode cX2_trace 25 = .ok (.iload_n 3, 1) := by decide +kernel
theorem dX2_trace_26 : decode cX2_trace 26 = .ok (.iaload, 1) := by decide +kernel
theorem dX2_trace_27 : decode cX2_trace 27 = .ok (.istore 5, 2) := by decide +kernel
theorem dX2_trace_29 : decode cX2_trace 29 = .ok (.iload 5, 2) := by decide +kernel
theorem dX2_trace_31 : decode cX2_trace 31 = .ok (.ifCond .le 52, 3) := by decide +kernel
theorem dX2_trace_34 : decode cX2_trace 34 = .ok (.aload_n 0, 1) := by decide +kernel
theorem dX2_trace_35 : decode cX2_trace 35 = .ok (.getfield 22, 3) := by decide +kernel
theorem dX2_trace_38 : decode cX2_trace 38 = .ok (.bipush 12, 2) := by decide +kernel
theorem dX2_trace_40 : decode cX2_trace 40 = .ok (.if_icmp .ge 43, 3) := by decide +kernel
theorem dX2_trace_43 : decode cX2_trace 43 = .ok (.aload_n 0, 1) := by decide +kernel
theorem dX2_trace_44 : decode cX2_trace 44 = .ok (.aload_n 1, 1) := by decide +kernel
theorem dX2_trace_45 : decode cX2_trace 45 = .ok (.iload 4, 2) := by decide +kernel
theorem dX2_trace_47 : decode cX2_trace 47 = .ok (.iload 5, 2) := by decide +kernel
theorem dX2_trace_49 : decode cX2_trace 49 = .ok (.iconst 1, 1) := by decide +kernel
theorem dX2_trace_50 : decode cX2_trace 50 = .ok (.isub, 1) := by decide +kernel
theorem dX2_trace_51 : decode cX2_trace 51 = .ok (.invokevirtual 26, 3) := by decide +kernel
theorem dX2_trace_54 : decode cX2_trace 54 = .ok (.istore 4, 2) := by decide +kernel
theorem dX2_trace_56 : decode cX2_trace 56 = .ok (.aload_n 0, 1) := by decide +kernel
theorem dX2_trace_57 : decode cX2_trace 57 = .ok (.getfield 9, 3) := by decide +kernel
theorem dX2_trace_60 : decode cX2_trace 60 = .ok (.aload_n 0, 1) := by decide +kernel
theorem dX2_trace_61 : decode cX2_trace 61 = .ok (.getfield 22, 3) := by decide +kernel
theorem dX2_trace_64 : decode cX2_trace 64 = .ok (.iload 4, 2) := by decide +kernel
theorem dX2_trace_66 : decode cX2_trace 66 = .ok (.iastore, 1) := by decide +kernel
theorem dX2_trace_67 : decode cX2_trace 67 = .ok (.aload_n 0, 1) := by decide +kernel
theorem dX2_trace_68 : decode cX2_trace 68 = .ok (.dup, 1) := by decide +kernel
theorem dX2_trace_69 : decode cX2_trace 69 = .ok (.getfield 22, 3) := by decide +kernel
theorem dX2_trace_72 : decode cX2_trace 72 = .ok (.iconst 1, 1) := by decide +kernel
theorem dX2_trace_73 : decode cX2_trace 73 = .ok (.iadd, 1) := by decide +kernel
theorem dX2_trace_74 : decode cX2_trace 74 = .ok (.putfield 22, 3) := by decide +kernel
theorem dX2_trace_77 : decode cX2_trace 77 = .ok (.iinc 5 (-1), 3) := by decide +kernel
theorem dX2_trace_80 : decode cX2_trace 80 = .ok (.goto (-51), 3) := by decide +kernel
theorem dX2_trace_83 : decode cX2_trace 83 = .ok (.return_, 1) := by decide +kernel
set_option maxRecDepth 20000 in
theorem ggX2_measure_J7_fill_53178 : GoodIn wsX2_measure wsJ7_fill_53178 := goodIn_r _ [12] (by decide +kernel) (by decide +kernel)
set_option maxRecDepth 20000 in
theorem gX2_measure_J7_fill_53178 : GoodIn wsX2_measure (va_wsS RX2 30 yJ7_fill_53178 wsJ7_fill_53178) := goodIn_app (goodIn_of _ (by decide +kernel)) ggX2_measure_J7_fill_53178
set_option maxRecDepth 20000 in
theorem ggX2_measure_X3_has : GoodIn wsX2_measure wsX3_has := goodIn_r _ [17, 18, 19, 20, 21, 25, 26, 27, 28, 29, 30, 31] (by decide +kernel) (by decide +kernel)
set_option maxRecDepth 20000 in
theorem gX2_measure_X3_has : GoodIn wsX2_measure (wsV RX2 46 RX3 yX3_has wsX3_has) := goodIn_app (goodIn_of _ (by decide +kernel)) ggX2_measure_X3_has
theorem dX2_measure_0 : decode cX2_measure 0 = .ok (.aload_n 0, 1) := by decide +kernel
theorem dX2_measure_1 : decode cX2_measure 1 = .ok (.getfield 15, 3) := by decide +kernel
theorem dX2_measure_4 : decode cX2_measure 4 = .ok (.bipush 12, 2) := by decide +kernel
theorem dX2_measure_6 : decode cX2_measure 6 = .ok (.invokestatic 30, 3) := by decide +kernel
theorem dX2_measure_9 : decode cX2_measure 9 = .ok (.aload_n 0, 1) := by decide +kernel
theorem dX2_measure_10 : decode cX2_measure 10 = .ok (.getfield 15, 3) := by decide +kernel
theorem dX2_measure_13 : decode cX2_measure 13 = .ok (.iload_n 2, 1) := by decide +kernel
theorem dX2_measure_14 : decode cX2_measure 14 = .ok (.iconst 0, 1) := by decide +kernel
theorem dX2_measure_15 : decode cX2_measure 15 = .ok (.iastore, 1) := by decide +kernel
theorem dX2_measure_16 : decode cX2_measure 16 = .ok (.aload_n 1, 1) := by decide +kernel
theorem dX2_measure_17 : decode cX2_measure 17 = .ok (.getfield 36, 3) := by decide +kernel
theorem dX2_measure_20 : decode cX2_measure 20 = .ok (.iload_n 2, 1) := by decide +kernel
theorem dX2_measure_21 : decode cX2_measure 21 = .ok (.iaload, 1) := by decide +kernel
theorem dX2_measure_22 : decode cX2_measure 22 = .ok (.iconst 1, 1) := by decide +kernel
theorem dX2_measure_23 : decode cX2_measure 23 = .ok (.isub, 1) := by decide +kernel
theorem dX2_measure_24 : decode cX2_measure 24 = .ok (.istore_n 3, 1) := by decide +kernel
theorem dX2_measure_25 : decode cX2_measure 25 = .ok (.iload_n 3, 1) := by decide +kernel
theorem dX2_measure_26 : decode cX2_measure 26 = .ok (.ifCond .lt 72, 3) := by decide +kernel
theorem dX2_measure_29 : decode cX2_measure 29 = .ok (.aload_n 1, 1) := by decide +kernel
theorem dX2_measure_30 : decode cX2_measure 30 = .ok (.getfield 41, 3) := by decide +kernel
theorem dX2_measure_33 : decode cX2_measure 33 = .ok (.iload_n 3, 1) := by decide +kernel
theorem dX2_measure_34 : decode cX2_measure 34 = .ok (.iaload, 1) := by decide +kernel
theorem dX2_measure_35 : decode cX2_measure 35 = .ok (.istore 4, 2) := by decide +kernel
theorem dX2_measure_37 : decode cX2_measure 37 = .ok (.iconst 0, 1) := by decide +kernel
theorem dX2_measure_38 : decode cX2_measure 38 = .ok (.istore 5, 2) := by decide +kernel
theorem dX2_measure_40 : decode cX2_measure 40 = .ok (.iload 5, 2) := by decide +kernel
theorem dX2_measure_42 : decode cX2_measure 42 = .ok (.aload_n 1, 1) := by decide +kernel
theorem dX2_measure_43 : decode cX2_measure 43 = .ok (.getfield 44, 3) := by decide +kernel
theorem dX2_measure_46 : decode cX2_measure 46 = .ok (.if_icmp .ge 46, 3) := by decide +kernel
theorem dX2_measure_49 : decode cX2_measure 49 = .ok (.aload_n 1, 1) := by decide +kernel
theorem dX2_measure_50 : decode cX2_measure 50 = .ok (.iload 4, 2) := by decide +kernel
theorem dX2_measure_52 : decode cX2_measure 52 = .ok (.iload 5, 2) := by decide +kernel
theorem dX2_measure_54 : decode cX2_measure 54 = .ok (.invokevirtual 46, 3) := by decide +kernel
theorem dX2_measure_57 : decode cX2_measure 57 = .ok (.ifCond .eq 29, 3) := by decide +kernel
theorem dX2_measure_60 : decode cX2_measure 60 = .ok (.aload_n 0, 1) := by decide +kernel
theorem dX2_measure_61 : decode cX2_measure 61 = .ok (.getfield 15, 3) := by decide +kernel
theorem dX2_measure_64 : decode cX2_measure 64 = .ok (.iload 4, 2) := by decide +kernel
theorem dX2_measure_66 : decode cX2_measure 66 = .ok (.aload_n 0, 1) := by decide +kernel
theorem dX2_measure_67 : decode cX2_measure 67 = .ok (.getfield 15, 3) := by decide +kernel
theorem dX2_measure_70 : decode cX2_measure 70 = .ok (.iload 4, 2) := by decide +kernel
theorem dX2_measure_72 : decode cX2_measure 72 = .ok (.iaload, 1) := by decide +kernel
theorem dX2_measure_73 : decode cX2_measure 73 = .ok (.aload_n 0, 1) := by decide +kernel
theorem dX2_measure_74 : decode cX2_measure 74 = .ok (.getfield 15, 3) := by decide +kernel
theorem dX2_measure_77 : decode cX2_measure 77 = .ok (.iload 5, 2) := by decide +kernel
theorem dX2_measure_79 : decode cX2_measure 79 = .ok (.iaload, 1) := by decide +kernel
theorem dX2_measure_80 : decode cX2_measure 80 = .ok (.iconst 1, 1) := by decide +kernel
theorem dX2_measure_81 : decode cX2_measure 81 = .ok (.iadd, 1) := by decide +kernel
theorem dX2_measure_82 : decode cX2_measure 82 = .ok (.invokestatic 50, 3) := by decide +kernel
theorem dX2_measure_85 : decode cX2_measure 85 = .ok (.iastore, 1) := by decide +kernel
theorem dX2_measure_86 : decode cX2_measure 86 = .ok (.iinc 5 1, 3) := by decide +kernel
theorem dX2_measure_89 : decode cX2_measure 89 = .ok (.goto (-49), 3) := by decide +kernel
theorem dX2_measure_92 : decode cX2_measure 92 = .ok (.iinc 3 (-1), 3) := by decide +kernel
theorem dX2_measure_95 : decode cX2_measure 95 = .ok (.goto (-70), 3) := by decide +kernel
theorem dX2_measure_98 : decode cX2_measure 98 = .ok (.return_, 1) := by decide +kernel
set_option maxRecDepth 20000 in
theorem ggX2_lowestNext_X3_has : GoodIn wsX2_lowestNext wsX3_has := goodIn_r _ [7, 8, 9, 10, 11, 12, 13, 14, 15, 16, 17, 18] (by decide +kernel) (by decide +kernel)
set_option maxRecDepth 20000 in
theorem gX2_lowestNext_X3_has : GoodIn wsX2_lowestNext (wsV RX2 46 RX3 yX3_has wsX3_has) := goodIn_app (goodIn_of _ (by decide +kernel)) ggX2_lowestNext_X3_has
theorem dX2_lowestNext_0 : decode cX2_lowestNext 0 = .ok (.iconst 0, 1) := by decide +kernel
theorem dX2_lowestNext_1 : decode cX2_lowestNext 1 = .ok (.istore 4, 2) := by decide +kernel
theorem dX2_lowestNext_3 : decode cX2_lowestNext 3 = .ok (.iload 4, 2) := by decide +kernel
theorem dX2_lowestNext_5 : decode cX2_lowestNext 5 = .ok (.aload_n 1, 1) := by decide +kernel
theorem dX2_lowestNext_6 : decode cX2_lowestNext 6 = .ok (.getfield 44, 3) := by decide +kernel
theorem dX2_lowestNext_9 : decode cX2_lowestNext 9 = .ok (.if_icmp .ge 33, 3) := by decide +kernel
theorem dX2_lowestNext_12 : decode cX2_lowestNext 12 = .ok (.aload_n 1, 1) := by decide +kernel
theorem dX2_lowestNext_13 : decode cX2_lowestNext 13 = .ok (.iload_n 2, 1) := by decide +kernel
theorem dX2_lowestNext_14 : decode cX2_lowestNext 14 = .ok (.iload 4, 2) := by decide +kernel
theorem dX2_lowestNext_16 : decode cX2_lowestNext 16 = .ok (.invokevirtual 46, 3) := by decide +kernel
theorem dX2_lowestNext_19 : decode cX2_lowestNext 19 = .ok (.ifCond .eq 17, 3) := by decide +kernel
theorem dX2_lowestNext_22 : decode cX2_lowestNext 22 = .ok (.aload_n 0, 1) := by decide +kernel
theorem dX2_lowestNext_23 : decode cX2_lowestNext 23 = .ok (.getfield 15, 3) := by decide +kernel
theorem dX2_lowestNext_26 : decode cX2_lowestNext 26 = .ok (.iload 4, 2) := by decide +kernel
theorem dX2_lowestNext_28 : decode cX2_lowestNext 28 = .ok (.iaload, 1) := by decide +kernel
theorem dX2_lowestNext_29 : decode cX2_lowestNext 29 = .ok (.iload_n 3, 1) := by decide +kernel
theorem dX2_lowestNext_30 : decode cX2_lowestNext 30 = .ok (.if_icmp .ne 6, 3) := by decide +kernel
theorem dX2_lowestNext_33 : decode cX2_lowestNext 33 = .ok (.iload 4, 2) := by decide +kernel
theorem dX2_lowestNext_35 : decode cX2_lowestNext 35 = .ok (.ireturn, 1) := by decide +kernel
theorem dX2_lowestNext_36 : decode cX2_lowestNext 36 = .ok (.iinc 4 1, 3) := by decide +kernel
theorem dX2_lowestNext_39 : decode cX2_lowestNext 39 = .ok (.goto (-36), 3) := by decide +kernel
theorem dX2_lowestNext_42 : decode cX2_lowestNext 42 = .ok (.iload_n 2, 1) := by decide +kernel
theorem dX2_lowestNext_43 : decode cX2_lowestNext 43 = .ok (.ireturn, 1) := by decide +kernel
set_option maxRecDepth 20000 in
theorem ggX3_init_X3_begin : GoodIn wsX3_init wsX3_begin := goodIn_r _ [14, 15, 16, 5, 6, 7, 8, 17, 18, 19, 20, 21, 22, 23] (by decide +kernel) (by decide +kernel)
set_option maxRecDepth 20000 in
theorem gX3_init_X3_begin : GoodIn wsX3_init (wsV RX3 27 RX3 yX3_begin wsX3_begin) := goodIn_app (goodIn_of _ (by decide +kernel)) ggX3_init_X3_begin
theorem dX3_init_0 : decode cX3_init 0 = .ok (.aload_n 0, 1) := by decide +kernel
theorem dX3_init_1 : decode cX3_init 1 = .ok (.invokespecial 3, 3) := by decide +kernel
theorem dX3_init_4 : decode cX3_init 4 = .ok (.aload_n 0, 1) := by decide +kernel
theorem dX3_init_5 : decode cX3_init 5 = .ok (.bipush 12, 2) := by decide +kernel
theorem dX3_init_7 : decode cX3_init 7 = .ok (.newarray .int, 2) := by decide +kernel
theorem dX3_init_9 : decode cX3_init 9 = .ok (.putfield 9, 3) := by decide +kernel
theorem dX3_init_12 : decode cX3_init 12 = .ok (.aload_n 0, 1) := by decide +kernel
theorem dX3_init_13 : decode cX3_init 13 = .ok (.bipush 12, 2) := by decide +kernel
theorem dX3_init_15 : decode cX3_init 15 = .ok (.newarray .int, 2) := by decide +kernel
theorem dX3_init_17 : decode cX3_init 17 = .ok (.putfield 15, 3) := by decide +kernel
theorem dX3_init_20 : decode cX3_init 20 = .ok (.aload_n 0, 1) := by decide +kernel
theorem dX3_init_21 : decode cX3_init 21 = .ok (.bipush 12, 2) := by decide +kernel
theorem dX3_init_23 : decode cX3_init 23 = .ok (.newarray .int, 2) := by decide +kernel
theorem dX3_init_25 : decode cX3_init 25 = .ok (.putfield 18, 3) := by decide +kernel
theorem dX3_init_28 : decode cX3_init 28 = .ok (.aload_n 0, 1) := by decide +kernel
theorem dX3_init_29 : decode cX3_init 29 = .ok (.bipush 12, 2) := by decide +kernel
theorem dX3_init_31 : decode cX3_init 31 = .ok (.newarray .int, 2) := by decide +kernel
theorem dX3_init_33 : decode cX3_init 33 = .ok (.putfield 21, 3) := by decide +kernel
theorem dX3_init_36 : decode cX3_init 36 = .ok (.aload_n 0, 1) := by decide +kernel
theorem dX3_init_37 : decode cX3_init 37 = .ok (.bipush 12, 2) := by decide +kernel
theorem dX3_init_39 : decode cX3_init 39 = .ok (.newarray .int, 2) := by decide +kernel
theorem dX3_init_41 : decode cX3_init 41 = .ok (.putfield 24, 3) := by decide +kernel
theorem dX3_init_44 : decode cX3_init 44 = .ok (.aload_n 0, 1) := by decide +kernel
theorem dX3_init_45 : decode cX3_init 45 = .ok (.iconst 4, 1) := by decide +kernel
theorem dX3_init_46 : decode cX3_init 46 = .ok (.invokevirtual 27, 3) := by decide +kernel
theorem dX3_init_49 : decode cX3_init 49 = .ok (.return_, 1) := by decide +kernel
theorem dX3_begin_0 : decode cX3_begin 0 = .ok (.aload_n 0, 1) := by decide +kernel
theorem dX3_begin_1 : decode cX3_begin 1 = .ok (.iload_n 1, 1) := by decide +kernel
theorem dX3_begin_2 : decode cX3_begin 2 = .ok (.putfield 31, 3) := by decide +kernel
theorem dX3_begin_5 : decode cX3_begin 5 = .ok (.aload_n 0, 1) := by decide +kernel
theorem dX3_begin_6 : decode cX3_begin 6 = .ok (.iconst 0, 1) := by decide +kernel
theorem dX3_begin_7 : decode cX3_begin 7 = .ok (.putfield 35, 3) := by decide +kernel
theorem dX3_begin_10 : decode cX3_begin 10 = .ok (.iconst 0, 1) := by decide +kernel
theorem dX3_begin_11 : decode cX3_begin 11 = .ok (.istore_n 2, 1) := by decide +kernel
theorem dX3_begin_12 : decode cX3_begin 12 = .ok (.iload_n 2, 1) := by decide +kernel
theorem dX3_begin_13 : decode cX3_begin 13 = .ok (.bipush 12, 2) := by decide +kernel
theorem dX3_begin_15 : decode cX3_begin 15 = .ok (.if_icmp .ge 37, 3) := by decide +kernel
theorem dX3_begin_18 : decode cX3_begin 18 = .ok (.aload_n 0, 1) := by decide +kernel
theorem dX3_begin_19 : decode cX3_begin 19 = .ok (.getfield 9, 3) := by decide +kernel
theorem dX3_begin_22 : decode cX3_begin 22 = .ok (.iload_n 2, 1) := by decide +kernel
theorem dX3_begin_23 : decode cX3_begin 23 = .ok (.iconst 0, 1) := by decide +kernel
theorem dX3_begin_24 : decode cX3_begin 24 = .ok (.iastore, 1) := by decide +kernel
theorem dX3_begin_25 : decode cX3_begin 25 = .ok (.aload_n 0, 1) := by decide +kernel
theorem dX3_begin_26 : decode cX3_begin 26 = .ok (.getfield 15, 3) := by decide +kernel
theorem dX3_begin_29 : decode cX3_begin 29 = .ok (.iload_n 2, 1) := by decide +kernel
theorem dX3_begin_30 : decode cX3_begin 30 = .ok (.iconst 0, 1) := by decide +kernel
theorem dX3_begin_31 : decode cX3_begin 31 = .ok (.iastore, 1) := by decide +kernel
theorem dX3_begin_32 : decode cX3_begin 32 = .ok (.aload_n 0, 1) := by decide +kernel
theorem dX3_begin_33 : decode cX3_begin 33 = .ok (.getfield 18, 3) := by decide +kernel
theorem dX3_begin_36 : decode cX3_begin 36 = .ok (.iload_n 2, 1) := by decide +kernel
theorem dX3_begin_37 : decode cX3_begin 37 = .ok (.iload_n 2, 1) := by decide +kernel
theorem dX3_begin_38 : decode cX3_begin 38 = .ok (.iastore, 1) := by decide +kernel
theorem dX3_begin_39 : decode cX3_begin 39 = .ok (.aload_n 0, 1) := by decide +kernel
theorem dX3_begin_40 : decode cX3_begin 40 = .ok (.getfield 21, 3) := by decide +kernel
theorem dX3_begin_43 : decode cX3_begin 43 = .ok (.iload_n 2, 1) := by decide +kernel
theorem dX3_begin_44 : decode cX3_begin 44 = .ok (.iload_n 2, 1) := by decide +kernel
theorem dX3_begin_45 : decode cX3_begin 45 = .ok (.iastore, 1) := by decide +kernel
theorem dX3_begin_46 : decode cX3_begin 46 = .ok (.iinc 2 1, 3) := by decide +kernel
theorem dX3_begin_49 : decode cX3_begin 49 = .ok (.goto (-37), 3) := by decide +kernel
theorem dX3_begin_52 : decode cX3_begin 52 = .ok (.return_, 1) := by decide +kernel
theorem dX3_copyOf_0 : decode cX3_copyOf 0 = .ok (.aload_n 0, 1) := by decide +kernel
theorem dX3_copyOf_1 : decode cX3_copyOf 1 = .ok (.aload_n 1, 1) := by decide +kernel
theorem dX3_copyOf_2 : decode cX3_copyOf 2 = .ok (.getfield 31, 3) := by decide +kernel
theorem dX3_copyOf_5 : decode cX3_copyOf 5 = .ok (.putfield 31, 3) := by decide +kernel
theorem dX3_copyOf_8 : decode cX3_copyOf 8 = .ok (.aload_n 0, 1) := by decide +kernel
theorem dX3_copyOf_9 : decode cX3_copyOf 9 = .ok (.aload_n 1, 1) := by decide +kernel
theorem dX3_copyOf_10 : decode cX3_copyOf 10 = .ok (.getfield 35, 3) := by decide +kernel
theorem dX3_copyOf_13 : decode cX3_copyOf 13 = .ok (.putfield 35, 3) := by decide +kernel
theorem dX3_copyOf_16 : decode cX3_copyOf 16 = .ok (.aload_n 1, 1) := by decide +kernel
theorem dX3_copyOf_17 : decode cX3_copyOf 17 = .ok (.getfield 9, 3) := by decide +kernel
theorem dX3_copyOf_20 : decode cX3_copyOf 20 = .ok (.iconst 0, 1) := by decide +kernel
theorem dX3_copyOf_21 : decode cX3_copyOf 21 = .ok (.aload_n 0, 1) := by decide +kernel
theorem dX3_copyOf_22 : decode cX3_copyOf 22 = .ok (.getfield 9, 3) := by decide +kernel
theorem dX3_copyOf_25 : decode cX3_copyOf 25 = .ok (.iconst 0, 1) := by decide +kernel
theorem dX3_copyOf_26 : decode cX3_copyOf 26 = .ok (.bipush 12, 2) := by decide +kernel
theorem dX3_copyOf_28 : decode cX3_copyOf 28 = .ok (.invokestatic 38, 3) := by decide +kernel
theorem dX3_copyOf_31 : decode cX3_copyOf 31 = .ok (.aload_n 1, 1) := by decide +kernel
theorem dX3_copyOf_32 : decode cX3_copyOf 32 = .ok (.getfield 15, 3) := by decide +kernel
theorem dX3_copyOf_35 : decode cX3_copyOf 35 = .ok (.iconst 0, 1) := by decide +kernel
theorem dX3_copyOf_36 : decode cX3_copyOf 36 = .ok (.aload_n 0, 1) := by decide +kernel
theorem dX3_copyOf_37 : decode cX3_copyOf 37 = .ok (.getfield 15, 3) := by decide +kernel
theorem dX3_copyOf_40 : decode cX3_copyOf 40 = .ok (.iconst 0, 1) := by decide +kernel
theorem dX3_copyOf_41 : decode cX3_copyOf 41 = .ok (.bipush 12, 2) := by decide +kernel
theorem dX3_copyOf_43 : decode cX3_copyOf 43 = .ok (.invokestatic 38, 3) := by decide +kernel
theorem dX3_copyOf_46 : decode cX3_copyOf 46 = .ok (.aload_n 1, 1) := by decide +kernel
theorem dX3_copyOf_47 : decode cX3_copyOf 47 = .ok (.getfield 18, 3) := by decide +kernel
theorem dX3_copyOf_50 : decode cX3_copyOf 50 = .ok (.iconst 0, 1) := by decide +kernel
theorem dX3_copyOf_51 : decode cX3_copyOf 51 = .ok (.aload_n 0, 1) := by decide +kernel
theorem dX3_copyOf_52 : decode cX3_copyOf 52 = .ok (.getfield 18, 3) := by decide +kernel
theorem dX3_copyOf_55 : decode cX3_copyOf 55 = .ok (.iconst 0, 1) := by decide +kernel
theorem dX3_copyOf_56 : decode cX3_copyOf 56 = .ok (.bipush 12, 2) := by decide +kernel
theorem dX3_copyOf_58 : decode cX3_copyOf 58 = .ok (.invokestatic 38, 3) := by decide +kernel
theorem dX3_copyOf_61 : decode cX3_copyOf 61 = .ok (.aload_n 1, 1) := by decide +kernel
theorem dX3_copyOf_62 : decode cX3_copyOf 62 = .ok (.getfield 21, 3) := by decide +kernel
theorem dX3_copyOf_65 : decode cX3_copyOf 65 = .ok (.iconst 0, 1) := by decide +kernel
theorem dX3_copyOf_66 : decode cX3_copyOf 66 = .ok (.aload_n 0, 1) := by decide +kernel
theorem dX3_copyOf_67 : decode cX3_copyOf 67 = .ok (.getfield 21, 3) := by decide +kernel
theorem dX3_copyOf_70 : decode cX3_copyOf 70 = .ok (.iconst 0, 1) := by decide +kernel
theorem dX3_copyOf_71 : decode cX3_copyOf 71 = .ok (.bipush 12, 2) := by decide +kernel
theorem dX3_copyOf_73 : decode cX3_copyOf 73 = .ok (.invokestatic 38, 3) := by decide +kernel
theorem dX3_copyOf_76 : decode cX3_copyOf 76 = .ok (.return_, 1) := by decide +kernel
theorem dX3_isItem_0 : decode cX3_isItem 0 = .ok (.iload_n 1, 1) := by decide +kernel
theorem dX3_isItem_1 : decode cX3_isItem 1 = .ok (.ifCond .lt 15, 3) := by decide +kernel
theorem dX3_isItem_4 : decode cX3_isItem 4 = .ok (.iload_n 1, 1) := by decide +kernel
theorem dX3_isItem_5 : decode cX3_isItem 5 = .ok (.aload_n 0, 1) := by decide +kernel
theorem dX3_isItem_6 : decode cX3_isItem 6 = .ok (.getfield 31, 3) := by decide +kernel
theorem dX3_isItem_9 : decode cX3_isItem 9 = .ok (.if_icmp .ge 7, 3) := by decide +kernel
theorem dX3_isItem_12 : decode cX3_isItem 12 = .ok (.iconst 1, 1) := by decide +kernel
theorem dX3_isItem_13 : decode cX3_isItem 13 = .ok (.goto 4, 3) := by decide +kernel
theorem dX3_isItem_16 : decode cX3_isItem 16 = .ok (.iconst 0, 1) := by decide +kernel
theorem dX3_isItem_17 : decode cX3_isItem 17 = .ok (.ireturn, 1) := by decide +kernel
set_option maxRecDepth 20000 in
theorem ggX3_isPair_X3_isItem : GoodIn wsX3_isPair wsX3_isItem := goodIn_r _ [5, 6, 7, 8, 9, 10, 11, 12, 13] (by decide +kernel) (by decide +kernel)
set_option maxRecDepth 20000 in
theorem gX3_isPair_X3_isItem : GoodIn wsX3_isPair (wsV RX3 44 RX3 yX3_isItem wsX3_isItem) := goodIn_app (goodIn_of _ (by decide +kernel)) ggX3_isPair_X3_isItem
theorem dX3_isPair_0 : decode cX3_isPair 0 = .ok (.aload_n 0, 1) := by decide +kernel
theorem dX3_isPair_1 : decode cX3_isPair 1 = .ok (.iload_n 1, 1) := by decide +kernel
theorem dX3_isPair_2 : decode cX3_isPair 2 = .ok (.invokevirtual 44, 3) := by decide +kernel
theorem dX3_isPair_5 : decode cX3_isPair 5 = .ok (.ifCond .eq 20, 3) := by decide +kernel
theorem dX3_isPair_8 : decode cX3_isPair 8 = .ok (.aload_n 0, 1) := by decide +kernel
theorem dX3_isPair_9 : decode cX3_isPair 9 = .ok (.iload_n 2, 1) := by decide +kernel
theorem dX3_isPair_10 : decode cX3_isPair 10 = .ok (.invokevirtual 44, 3) := by decide +kernel
theorem dX3_isPair_13 : decode cX3_isPair 13 = .ok (.ifCond .eq 12, 3) := by decide +kernel
theorem dX3_isPair_16 : decode cX3_isPair 16 = .ok (.iload_n 1, 1) := by decide +kernel
theorem dX3_isPair_17 : decode cX3_isPair 17 = .ok (.iload_n 2, 1) := by decide +kernel
theorem dX3_isPair_18 : decode cX3_isPair 18 = .ok (.if_icmp .eq 7, 3) := by decide +kernel
theorem dX3_isPair_21 : decode cX3_isPair 21 = .ok (.iconst 1, 1) := by decide +kernel
theorem dX3_isPair_22 : decode cX3_isPair 22 = .ok (.goto 4, 3) := by decide +kernel
theorem dX3_isPair_25 : decode cX3_isPair 25 = .ok (.iconst 0, 1) := by decide +kernel
theorem dX3_isPair_26 : decode cX3_isPair 26 = .ok (.ireturn, 1) := by decide +kernel
set_option maxRecDepth 20000 in
theorem ggX3_has_X8_holdsBit : GoodIn wsX3_has wsX8_holdsBit := goodIn_r _ [4] (by decide +kernel) (by decide +kernel)
set_option maxRecDepth 20000 in
theorem gX3_has_X8_holdsBit_n48 : GoodIn wsX3_has (wsX8_holdsBit) := ggX3_has_X8_holdsBit
theorem dX3_has_0 : decode cX3_has 0 = .ok (.aload_n 0, 1) := by decide +kernel
theorem dX3_has_1 : decode cX3_has 1 = .ok (.getfield 9, 3) := by decide +kernel
theorem dX3_has_4 : decode cX3_has 4 = .ok (.iload_n 1, 1) := by decide +kernel
theorem dX3_has_5 : decode cX3_has 5 = .ok (.iaload, 1) := by decide +kernel
theorem dX3_has_6 : decode cX3_has 6 = .ok (.iload_n 2, 1) := by decide +kernel
theorem dX3_has_7 : decode cX3_has 7 = .ok (.invokestatic 48, 3) := by decide +kernel
theorem dX3_has_10 : decode cX3_has 10 = .ok (.ireturn, 1) := by decide +kernel
set_option maxRecDepth 20000 in
theorem ggX3_canTake_X3_isPair : GoodIn wsX3_canTake wsX3_isPair := goodIn_r _ [5, 6, 7, 8, 4, 9, 10, 30, 31, 32, 33, 34, 35, 36] (by decide +kernel) (by decide +kernel)
set_option maxRecDepth 20000 in
theorem gX3_canTake_X3_isPair : GoodIn wsX3_canTake (wsV RX3 52 RX3 yX3_isPair wsX3_isPair) := goodIn_app (goodIn_of _ (by decide +kernel)) ggX3_canTake_X3_isPair
set_option maxRecDepth 20000 in
theorem ggX3_canTake_X3_has : GoodIn wsX3_canTake wsX3_has := goodIn_r _ [14, 15, 16, 17, 18, 30, 31, 32, 33, 34, 35, 36] (by decide +kernel) (by decide +kernel)
set_option maxRecDepth 20000 in
theorem gX3_canTake_X3_has : GoodIn wsX3_canTake (wsV RX3 55 RX3 yX3_has wsX3_has) := goodIn_app (goodIn_of _ (by decide +kernel)) ggX3_canTake_X3_has
set_option maxRecDepth 20000 in
theorem ggX3_canTake_X3_closesRing : GoodIn wsX3_canTake wsX3_closesRing := goodIn_r _ [22, 23, 24, 25, 26, 4, 27, 28, 29, 16, 17, 18, 30, 31, 32, 33, 34, 35, 36] (by decide +kernel) (by decide +kernel)
set_option maxRecDepth 20000 in
theorem gX3_canTake_X3_closesRing : GoodIn wsX3_canTake (wsV RX3 58 RX3 yX3_closesRing wsX3_closesRing) := goodIn_app (goodIn_of _ (by decide +kernel)) ggX3_canTake_X3_closesRing
theorem dX3_canTake_0 : decode cX3_canTake 0 = .ok (.aload_n 0, 1) := by decide +kernel
theorem dX3_canTake_1 : decode cX3_canTake 1 = .ok (.iload_n 1, 1) := by decide +kernel
theorem dX3_canTake_2 : decode cX3_canTake 2 = .ok (.iload_n 2, 1) := by decide +kernel
theorem dX3_canTake_3 : decode cX3_canTake 3 = .ok (.invokevirtual 52, 3) := by decide +kernel
theorem dX3_canTake_6 : decode cX3_canTake 6 = .ok (.ifCond .eq 25, 3) := by decide +kernel
theorem dX3_canTake_9 : decode cX3_canTake 9 = .ok (.aload_n 0, 1) := by decide +kernel
theorem dX3_canTake_10 : decode cX3_canTake 10 = .ok (.iload_n 1, 1) := by decide +kernel
theorem dX3_canTake_11 : decode cX3_canTake 11 = .ok (.iload_n 2, 1) := by decide +kernel
theorem dX3_canTake_12 : decode cX3_canTake 12 = .ok (.invokevirtual 55, 3) := by decide +kernel
theorem dX3_canTake_15 : decode cX3_canTake 15 = .ok (.ifCond .ne 16, 3) := by decide +kernel
theorem dX3_canTake_18 : decode cX3_canTake 18 = .ok (.aload_n 0, 1) := by decide +kernel
theorem dX3_canTake_19 : decode cX3_canTake 19 = .ok (.iload_n 1, 1) := by decide +kernel
theorem dX3_canTake_20 : decode cX3_canTake 20 = .ok (.iload_n 2, 1) := by decide +kernel
theorem dX3_canTake_21 : decode cX3_canTake 21 = .ok (.invokevirtual 58, 3) := by decide +kernel
theorem dX3_canTake_24 : decode cX3_canTake 24 = .ok (.ifCond .ne 7, 3) := by decide +kernel
theorem dX3_canTake_27 : decode cX3_canTake 27 = .ok (.iconst 1, 1) := by decide +kernel
theorem dX3_canTake_28 : decode cX3_canTake 28 = .ok (.goto 4, 3) := by decide +kernel
theorem dX3_canTake_31 : decode cX3_canTake 31 = .ok (.iconst 0, 1) := by decide +kernel
theorem dX3_canTake_32 : decode cX3_canTake 32 = .ok (.ireturn, 1) := by decide +kernel
theorem dX3_everyItem_0 : decode cX3_everyItem 0 = .ok (.iconst 1, 1) := by decide +kernel
theorem dX3_everyItem_1 : decode cX3_everyItem 1 = .ok (.aload_n 0, 1) := by decide +kernel
theorem dX3_everyItem_2 : decode cX3_everyItem 2 = .ok (.getfield 31, 3) := by decide +kernel
theorem dX3_everyItem_5 : decode cX3_everyItem 5 = .ok (.ishl, 1) := by decide +kernel
theorem dX3_everyItem_6 : decode cX3_everyItem 6 = .ok (.iconst 1, 1) := by decide +kernel
theorem dX3_everyItem_7 : decode cX3_everyItem 7 = .ok (.isub, 1) := by decide +kernel
theorem dX3_everyItem_8 : decode cX3_everyItem 8 = .ok (.ireturn, 1) := by decide +kernel
theorem dX3_sweepOn_0 : decode cX3_sweepOn 0 = .ok (.iconst 1, 1) := by decide +kernel
theorem dX3_sweepOn_1 : decode cX3_sweepOn 1 = .ok (.iload_n 1, 1) := by decide +kernel
theorem dX3_sweepOn_2 : decode cX3_sweepOn 2 = .ok (.ishl, 1) := by decide +kernel
theorem dX3_sweepOn_3 : decode cX3_sweepOn 3 = .ok (.istore_n 3, 1) := by decide +kernel
theorem dX3_sweepOn_4 : decode cX3_sweepOn 4 = .ok (.aload_n 0, 1) := by decide +kernel
theorem dX3_sweepOn_5 : decode cX3_sweepOn 5 = .ok (.getfield 21, 3) := by decide +kernel
theorem dX3_sweepOn_8 : decode cX3_sweepOn 8 = .ok (.iload_n 1, 1) := by decide +kernel
theorem dX3_sweepOn_9 : decode cX3_sweepOn 9 = .ok (.iaload, 1) := by decide +kernel
theorem dX3_sweepOn_10 : decode cX3_sweepOn 10 = .ok (.iconst 1, 1) := by decide +kernel
theorem dX3_sweepOn_11 : decode cX3_sweepOn 11 = .ok (.iadd, 1) := by decide +kernel
theorem dX3_sweepOn_12 : decode cX3_sweepOn 12 = .ok (.istore 4, 2) := by decide +kernel
theorem dX3_sweepOn_14 : decode cX3_sweepOn 14 = .ok (.iload 4, 2) := by decide +kernel
theorem dX3_sweepOn_16 : decode cX3_sweepOn 16 = .ok (.iload_n 2, 1) := by decide +kernel
theorem dX3_sweepOn_17 : decode cX3_sweepOn 17 = .ok (.if_icmp .gt 37, 3) := by decide +kernel
theorem dX3_sweepOn_20 : decode cX3_sweepOn 20 = .ok (.aload_n 0, 1) := by decide +kernel
theorem dX3_sweepOn_21 : decode cX3_sweepOn 21 = .ok (.getfield 18, 3) := by decide +kernel
theorem dX3_sweepOn_24 : decode cX3_sweepOn 24 = .ok (.iload 4, 2) := by decide +kernel
theorem dX3_sweepOn_26 : decode cX3_sweepOn 26 = .ok (.iaload, 1) := by decide +kernel
theorem dX3_sweepOn_27 : decode cX3_sweepOn 27 = .ok (.istore 5, 2) := by decide +kernel
theorem dX3_sweepOn_29 : decode cX3_sweepOn 29 = .ok (.aload_n 0, 1) := by decide +kernel
theorem dX3_sweepOn_30 : decode cX3_sweepOn 30 = .ok (.getfield 15, 3) := by decide +kernel
theorem dX3_sweepOn_33 : decode cX3_sweepOn 33 = .ok (.iload 5, 2) := by decide +kernel
theorem dX3_sweepOn_35 : decode cX3_sweepOn 35 = .ok (.iaload, 1) := by decide +kernel
theorem dX3_sweepOn_36 : decode cX3_sweepOn 36 = .ok (.iload_n 3, 1) := by decide +kernel
theorem dX3_sweepOn_37 : decode cX3_sweepOn 37 = .ok (.iand, 1) := by decide +kernel
theorem dX3_sweepOn_38 : decode cX3_sweepOn 38 = .ok (.ifCond .eq 10, 3) := by decide +kernel
theorem dX3_sweepOn_41 : decode cX3_sweepOn 41 = .ok (.iload_n 3, 1) := by decide +kernel
theorem dX3_sweepOn_42 : decode cX3_sweepOn 42 = .ok (.iconst 1, 1) := by decide +kernel
theorem dX3_sweepOn_43 : decode cX3_sweepOn 43 = .ok (.iload 5, 2) := by decide +kernel
theorem dX3_sweepOn_45 : decode cX3_sweepOn 45 = .ok (.ishl, 1) := by decide +kernel
theorem dX3_sweepOn_46 : decode cX3_sweepOn 46 = .ok (.ior, 1) := by decide +kernel
theorem dX3_sweepOn_47 : decode cX3_sweepOn 47 = .ok (.istore_n 3, 1) := by decide +kernel
theorem dX3_sweepOn_48 : decode cX3_sweepOn 48 = .ok (.iinc 4 1, 3) := by decide +kernel
theorem dX3_sweepOn_51 : decode cX3_sweepOn 51 = .ok (.goto (-37), 3) := by decide +kernel
theorem dX3_sweepOn_54 : decode cX3_sweepOn 54 = .ok (.iload_n 3, 1) := by decide +kernel
theorem dX3_sweepOn_55 : decode cX3_sweepOn 55 = .ok (.ireturn, 1) := by decide +kernel
theorem dX3_sweepBack_0 : decode cX3_sweepBack 0 = .ok (.iconst 1, 1) := by decide +kernel
theorem dX3_sweepBack_1 : decode cX3_sweepBack 1 = .ok (.iload_n 1, 1) := by decide +kernel
theorem dX3_sweepBack_2 : decode cX3_sweepBack 2 = .ok (.ishl, 1) := by decide +kernel
theorem dX3_sweepBack_3 : decode cX3_sweepBack 3 = .ok (.istore_n 3, 1) := by decide +kernel
theorem dX3_sweepBack_4 : decode cX3_sweepBack 4 = .ok (.aload_n 0, 1) := by decide +kernel
theorem dX3_sweepBack_5 : decode cX3_sweepBack 5 = .ok (.getfield 21, 3) := by decide +kernel
theorem dX3_sweepBack_8 : decode cX3_sweepBack 8 = .ok (.iload_n 1, 1) := by decide +kernel
theorem dX3_sweepBack_9 : decode cX3_sweepBack 9 = .ok (.iaload, 1) := by decide +kernel
theorem dX3_sweepBack_10 : decode cX3_sweepBack 10 = .ok (.iconst 1, 1) := by decide +kernel
theorem dX3_sweepBack_11 : decode cX3_sweepBack 11 = .ok (.isub, 1) := by decide +kernel
theorem dX3_sweepBack_12 : decode cX3_sweepBack 12 = .ok (.istore 4, 2) := by decide +kernel
theorem dX3_sweepBack_14 : decode cX3_sweepBack 14 = .ok (.iload 4, 2) := by decide +kernel
theorem dX3_sweepBack_16 : decode cX3_sweepBack 16 = .ok (.iload_n 2, 1) := by decide +kernel
theorem dX3_sweepBack_17 : decode cX3_sweepBack 17 = .ok (.if_icmp .lt 37, 3) := by decide +kernel
theorem dX3_sweepBack_20 : decode cX3_sweepBack 20 = .ok (.aload_n 0, 1) := by decide +kernel
theorem dX3_sweepBack_21 : decode cX3_sweepBack 21 = .ok (.getfield 18, 3) := by decide +kernel
theorem dX3_sweepBack_24 : decode cX3_sweepBack 24 = .ok (.iload 4, 2) := by decide +kernel
theorem dX3_sweepBack_26 : decode cX3_sweepBack 26 = .ok (.iaload, 1) := by decide +kernel
theorem dX3_sweepBack_27 : decode cX3_sweepBack 27 = .ok (.istore 5, 2) := by decide +kernel
theorem dX3_sweepBack_29 : decode cX3_sweepBack 29 = .ok (.aload_n 0, 1) := by decide +kernel
theorem dX3_sweepBack_30 : decode cX3_sweepBack 30 = .ok (.getfield 9, 3) := by decide +kernel
theorem dX3_sweepBack_33 : decode cX3_sweepBack 33 = .ok (.iload 5, 2) := by decide +kernel
theorem dX3_sweepBack_35 : decode cX3_sweepBack 35 = .ok (.iaload, 1) := by decide +kernel
theorem dX3_sweepBack_36 : decode cX3_sweepBack 36 = .ok (.iload_n 3, 1) := by decide +kernel
theorem dX3_sweepBack_37 : decode cX3_sweepBack 37 = .ok (.iand, 1) := by decide +kernel
theorem dX3_sweepBack_38 : decode cX3_sweepBack 38 = .ok (.ifCond .eq 10, 3) := by decide +kernel
theorem dX3_sweepBack_41 : decode cX3_sweepBack 41 = .ok (.iload_n 3, 1) := by decide +kernel
theorem dX3_sweepBack_42 : decode cX3_sweepBack 42 = .ok (.iconst 1, 1) := by decide +kernel
theorem dX3_sweepBack_43 : decode cX3_sweepBack 43 = .ok (.iload 5, 2) := by decide +kernel
theorem dX3_sweepBack_45 : decode cX3_sweepBack 45 = .ok (.ishl, 1) := by decide +kernel
theorem dX3_sweepBack_46 : decode cX3_sweepBack 46 = .ok (.ior, 1) := by decide +kernel
theorem dX3_sweepBack_47 : decode cX3_sweepBack 47 = .ok (.istore_n 3, 1) := by decide +kernel
theorem dX3_sweepBack_48 : decode cX3_sweepBack 48 = .ok (.iinc 4 (-1), 3) := by decide +kernel
theorem dX3_sweepBack_51 : decode cX3_sweepBack 51 = .ok (.goto (-37), 3) := by decide +kernel
theorem dX3_sweepBack_54 : decode cX3_sweepBack 54 = .ok (.iload_n 3, 1) := by decide +kernel
theorem dX3_sweepBack_55 : decode cX3_sweepBack 55 = .ok (.ireturn, 1) := by decide +kernel
set_option maxRecDepth 20000 in
theorem ggX3_allBehind_X3_sweepOn : GoodIn wsX3_allBehind wsX3_sweepOn := goodIn_r _ [6, 7, 8, 9, 10, 11, 12, 13, 14, 15, 16] (by decide +kernel) (by decide +kernel)
set_option maxRecDepth 20000 in
theorem gX3_allBehind_X3_sweepOn : GoodIn wsX3_allBehind (wsV RX3 61 RX3 yX3_sweepOn wsX3_sweepOn) := goodIn_app (goodIn_of _ (by decide +kernel)) ggX3_allBehind_X3_sweepOn
theorem dX3_allBehind_0 : decode cX3_allBehind 0 = .ok (.aload_n 0, 1) := by decide +kernel
theorem dX3_allBehind_1 : decode cX3_allBehind 1 = .ok (.iload_n 1, 1) := by decide +kernel
theorem dX3_allBehind_2 : decode cX3_allBehind 2 = .ok (.aload_n 0, 1) := by decide +kernel
theorem dX3_allBehind_3 : decode cX3_allBehind 3 = .ok (.getfield 31, 3) := by decide +kernel
theorem dX3_allBehind_6 : decode cX3_allBehind 6 = .ok (.iconst 1, 1) := by decide +kernel
theorem dX3_allBehind_7 : decode cX3_allBehind 7 = .ok (.isub, 1) := by decide +kernel
theorem dX3_allBehind_8 : decode cX3_allBehind 8 = .ok (.invokevirtual 61, 3) := by decide +kernel
theorem dX3_allBehind_11 : decode cX3_allBehind 11 = .ok (.iconst 1, 1) := by decide +kernel
theorem dX3_allBehind_12 : decode cX3_allBehind 12 = .ok (.iload_n 1, 1) := by decide +kernel
theorem dX3_allBehind_13 : decode cX3_allBehind 13 = .ok (.ishl, 1) := by decide +kernel
theorem dX3_allBehind_14 : decode cX3_allBehind 14 = .ok (.iconst (-1), 1) := by decide +kernel
theorem dX3_allBehind_15 : decode cX3_allBehind 15 = .ok (.ixor, 1) := by decide +kernel
theorem dX3_allBehind_16 : decode cX3_allBehind 16 = .ok (.iand, 1) := by decide +kernel
theorem dX3_allBehind_17 : decode cX3_allBehind 17 = .ok (.ireturn, 1) := by decide +kernel
set_option maxRecDepth 20000 in
theorem ggX3_allAheadOf_X3_sweepBack : GoodIn wsX3_allAheadOf wsX3_sweepBack := goodIn_r _ [5, 6, 7, 8, 9, 10, 11, 12, 13, 14, 15] (by decide +kernel) (by decide +kernel)
set_option maxRecDepth 20000 in
theorem gX3_allAheadOf_X3_sweepBack : GoodIn wsX3_allAheadOf (wsV RX3 65 RX3 yX3_sweepBack wsX3_sweepBack) := goodIn_app (goodIn_of _ (by decide +kernel)) ggX3_allAheadOf_X3_sweepBack
theorem dX3_allAheadOf_0 : decode cX3_allAheadOf 0 = .ok (.aload_n 0, 1) := by decide +kernel
theorem dX3_allAheadOf_1 : decode cX3_allAheadOf 1 = .ok (.iload_n 1, 1) := by decide +kernel
theorem dX3_allAheadOf_2 : decode cX3_allAheadOf 2 = .ok (.iconst 0, 1) := by decide +kernel
theorem dX3_allAheadOf_3 : decode cX3_allAheadOf 3 = .ok (.invokevirtual 65, 3) := by decide +kernel
theorem dX3_allAheadOf_6 : decode cX3_allAheadOf 6 = .ok (.iconst 1, 1) := by decide +kernel
theorem dX3_allAheadOf_7 : decode cX3_allAheadOf 7 = .ok (.iload_n 1, 1) := by decide +kernel
theorem dX3_allAheadOf_8 : decode cX3_allAheadOf 8 = .ok (.ishl, 1) := by decide +kernel
theorem dX3_allAheadOf_9 : decode cX3_allAheadOf 9 = .ok (.iconst (-1), 1) := by decide +kernel
theorem dX3_allAheadOf_10 : decode cX3_allAheadOf 10 = .ok (.ixor, 1) := by decide +kernel
theorem dX3_allAheadOf_11 : decode cX3_allAheadOf 11 = .ok (.iand, 1) := by decide +kernel
theorem dX3_allAheadOf_12 : decode cX3_allAheadOf 12 = .ok (.ireturn, 1) := by decide +kernel
set_option maxRecDepth 20000 in
theorem ggX3_after_X3_sweepOn : GoodIn wsX3_after wsX3_sweepOn := goodIn_r _ [6, 1, 7, 8, 9, 10, 11, 12, 13, 14, 15] (by decide +kernel) (by decide +kernel)
set_option maxRecDepth 20000 in
theorem gX3_after_X3_sweepOn : GoodIn wsX3_after (wsV RX3 61 RX3 yX3_sweepOn wsX3_sweepOn) := goodIn_app (goodIn_of _ (by decide +kernel)) ggX3_after_X3_sweepOn
theorem dX3_after_0 : decode cX3_after 0 = .ok (.aload_n 0, 1) := by decide +kernel
theorem dX3_after_1 : decode cX3_after 1 = .ok (.getfield 21, 3) := by decide +kernel
theorem dX3_after_4 : decode cX3_after 4 = .ok (.iload_n 1, 1) := by decide +kernel
theorem dX3_after_5 : decode cX3_after 5 = .ok (.iaload, 1) := by decide +kernel
theorem dX3_after_6 : decode cX3_after 6 = .ok (.aload_n 0, 1) := by decide +kernel
theorem dX3_after_7 : decode cX3_after 7 = .ok (.getfield 21, 3) := by decide +kernel
theorem dX3_after_10 : decode cX3_after 10 = .ok (.iload_n 2, 1) := by decide +kernel
theorem dX3_after_11 : decode cX3_after 11 = .ok (.iaload, 1) := by decide +kernel
theorem dX3_after_12 : decode cX3_after 12 = .ok (.if_icmp .ge 7, 3) := by decide +kernel
theorem dX3_after_15 : decode cX3_after 15 = .ok (.iconst 0, 1) := by decide +kernel
theorem dX3_after_16 : decode cX3_after 16 = .ok (.goto 14, 3) := by decide +kernel
theorem dX3_after_19 : decode cX3_after 19 = .ok (.aload_n 0, 1) := by decide +kernel
theorem dX3_after_20 : decode cX3_after 20 = .ok (.iload_n 2, 1) := by decide +kernel
theorem dX3_after_21 : decode cX3_after 21 = .ok (.aload_n 0, 1) := by decide +kernel
theorem dX3_after_22 : decode cX3_after 22 = .ok (.getfield 21, 3) := by decide +kernel
theorem dX3_after_25 : decode cX3_after 25 = .ok (.iload_n 1, 1) := by decide +kernel
theorem dX3_after_26 : decode cX3_after 26 = .ok (.iaload, 1) := by decide +kernel
theorem dX3_after_27 : decode cX3_after 27 = .ok (.invokevirtual 61, 3) := by decide +kernel
theorem dX3_after_30 : decode cX3_after 30 = .ok (.ireturn, 1) := by decide +kernel
set_option maxRecDepth 20000 in
theorem ggX3_before_X3_sweepBack : GoodIn wsX3_before wsX3_sweepBack := goodIn_r _ [6, 1, 7, 8, 9, 10, 11, 12, 13, 14, 15] (by decide +kernel) (by decide +kernel)
set_option maxRecDepth 20000 in
theorem gX3_before_X3_sweepBack : GoodIn wsX3_before (wsV RX3 65 RX3 yX3_sweepBack wsX3_sweepBack) := goodIn_app (goodIn_of _ (by decide +kernel)) ggX3_before_X3_sweepBack
theorem dX3_before_0 : decode cX3_before 0 = .ok (.aload_n 0, 1) := by decide +kernel
theorem dX3_before_1 : decode cX3_before 1 = .ok (.getfield 21, 3) := by decide +kernel
theorem dX3_before_4 : decode cX3_before 4 = .ok (.iload_n 1, 1) := by decide +kernel
theorem dX3_before_5 : decode cX3_before 5 = .ok (.iaload, 1) := by decide +kernel
theorem dX3_before_6 : decode cX3_before 6 = .ok (.aload_n 0, 1) := by decide +kernel
theorem dX3_before_7 : decode cX3_before 7 = .ok (.getfield 21, 3) := by decide +kernel
theorem dX3_before_10 : decode cX3_before 10 = .ok (.iload_n 2, 1) := by decide +kernel
theorem dX3_before_11 : decode cX3_before 11 = .ok (.iaload, 1) := by decide +kernel
theorem dX3_before_12 : decode cX3_before 12 = .ok (.if_icmp .ge 7, 3) := by decide +kernel
theorem dX3_before_15 : decode cX3_before 15 = .ok (.iconst 0, 1) := by decide +kernel
theorem dX3_before_16 : decode cX3_before 16 = .ok (.goto 14, 3) := by decide +kernel
theorem dX3_before_19 : decode cX3_before 19 = .ok (.aload_n 0, 1) := by decide +kernel
theorem dX3_before_20 : decode cX3_before 20 = .ok (.iload_n 1, 1) := by decide +kernel
theorem dX3_before_21 : decode cX3_before 21 = .ok (.aload_n 0, 1) := by decide +kernel
theorem dX3_before_22 : decode cX3_before 22 = .ok (.getfield 21, 3) := by decide +kernel
theorem dX3_before_25 : decode cX3_before 25 = .ok (.iload_n 2, 1) := by decide +kernel
theorem dX3_before_26 : decode cX3_before 26 = .ok (.iaload, 1) := by decide +kernel
theorem dX3_before_27 : decode cX3_before 27 = .ok (.invokevirtual 65, 3) := by decide +kernel
theorem dX3_before_30 : decode cX3_before 30 = .ok (.ireturn, 1) := by decide +kernel
set_option maxRecDepth 20000 in
theorem ggX3_closesRing_X3_sweepOn : GoodIn wsX3_closesRing wsX3_sweepOn := goodIn_r _ [6, 1, 7, 8, 12, 13, 14, 15, 16, 17, 18] (by decide +kernel) (by decide +kernel)
set_option maxRecDepth 20000 in
theorem gX3_closesRing_X3_sweepOn : GoodIn wsX3_closesRing (wsV RX3 61 RX3 yX3_sweepOn wsX3_sweepOn) := goodIn_app (goodIn_of _ (by decide +kernel)) ggX3_closesRing_X3_sweepOn
set_option maxRecDepth 20000 in
theorem ggX3_closesRing_X8_holdsBit : GoodIn wsX3_closesRing wsX8_holdsBit := goodIn_r _ [11] (by decide +kernel) (by decide +kernel)
set_option maxRecDepth 20000 in
theorem gX3_closesRing_X8_holdsBit_n48 : GoodIn wsX3_closesRing (wsX8_holdsBit) := ggX3_closesRing_X8_holdsBit
theorem dX3_closesRing_0 : decode cX3_closesRing 0 = .ok (.aload_n 0, 1) := by decide +kernel
theorem dX3_closesRing_1 : decode cX3_closesRing 1 = .ok (.getfield 21, 3) := by decide +kernel
theorem dX3_closesRing_4 : decode cX3_closesRing 4 = .ok (.iload_n 1, 1) := by decide +kernel
theorem dX3_closesRing_5 : decode cX3_closesRing 5 = .ok (.iaload, 1) := by decide +kernel
theorem dX3_closesRing_6 : decode cX3_closesRing 6 = .ok (.aload_n 0, 1) := by decide +kernel
theorem dX3_closesRing_7 : decode cX3_closesRing 7 = .ok (.getfield 21, 3) := by decide +kernel
theorem dX3_closesRing_10 : decode cX3_closesRing 10 = .ok (.iload_n 2, 1) := by decide +kernel
theorem dX3_closesRing_11 : decode cX3_closesRing 11 = .ok (.iaload, 1) := by decide +kernel
theorem dX3_closesRing_12 : decode cX3_closesRing 12 = .ok (.if_icmp .le 25, 3) := by decide +kernel
theorem dX3_closesRing_15 : decode cX3_closesRing 15 = .ok (.aload_n 0, 1) := by decide +kernel
theorem dX3_closesRing_16 : decode cX3_closesRing 16 = .ok (.iload_n 2, 1) := by decide +kernel
theorem dX3_closesRing_17 : decode cX3_closesRing 17 = .ok (.aload_n 0, 1) := by decide +kernel
theorem dX3_closesRing_18 : decode cX3_closesRing 18 = .ok (.getfield 21, 3) := by decide +kernel
theorem dX3_closesRing_21 : decode cX3_closesRing 21 = .ok (.iload_n 1, 1) := by decide +kernel
theorem dX3_closesRing_22 : decode cX3_closesRing 22 = .ok (.iaload, 1) := by decide +kernel
theorem dX3_closesRing_23 : decode cX3_closesRing 23 = .ok (.invokevirtual 61, 3) := by decide +kernel
theorem dX3_closesRing_26 : decode cX3_closesRing 26 = .ok (.iload_n 1, 1) := by decide +kernel
theorem dX3_closesRing_27 : decode cX3_closesRing 27 = .ok (.invokestatic 48, 3) := by decide +kernel
theorem dX3_closesRing_30 : decode cX3_closesRing 30 = .ok (.ifCond .eq 7, 3) := by decide +kernel
theorem dX3_closesRing_33 : decode cX3_closesRing 33 = .ok (.iconst 1, 1) := by decide +kernel
theorem dX3_closesRing_34 : decode cX3_closesRing 34 = .ok (.goto 4, 3) := by decide +kernel
theorem dX3_closesRing_37 : decode cX3_closesRing 37 = .ok (.iconst 0, 1) := by decide +kernel
theorem dX3_closesRing_38 : decode cX3_closesRing 38 = .ok (.ireturn, 1) := by decide +kernel
set_option maxRecDepth 20000 in
theorem ggX3_movedBy_X3_closesRing : GoodIn wsX3_movedBy wsX3_closesRing := goodIn_r _ [5, 6, 7, 8, 9, 4, 10, 11, 12, 13, 14, 15, 29, 30, 31, 32, 33, 34, 35] (by decide +kernel) (by decide +kernel)
set_option maxRecDepth 20000 in
theorem gX3_movedBy_X3_closesRing : GoodIn wsX3_movedBy (wsV RX3 58 RX3 yX3_closesRing wsX3_closesRing) := goodIn_app (goodIn_of _ (by decide +kernel)) ggX3_movedBy_X3_closesRing
set_option maxRecDepth 20000 in
theorem ggX3_movedBy_X3_before : GoodIn wsX3_movedBy wsX3_before := goodIn_r _ [19, 6, 20, 21, 22, 4, 23, 11, 24, 29, 30, 31, 32, 33, 34, 35] (by decide +kernel) (by decide +kernel)
set_option maxRecDepth 20000 in
theorem gX3_movedBy_X3_before : GoodIn wsX3_movedBy (wsV RX3 68 RX3 yX3_before wsX3_before) := goodIn_app (goodIn_of _ (by decide +kernel)) ggX3_movedBy_X3_before
set_option maxRecDepth 20000 in
theorem ggX3_movedBy_X3_after : GoodIn wsX3_movedBy wsX3_after := goodIn_r _ [28, 6, 7, 8, 9, 4, 10, 11, 12, 29, 30, 31, 32, 33, 34, 35] (by decide +kernel) (by decide +kernel)
set_option maxRecDepth 20000 in
theorem gX3_movedBy_X3_after : GoodIn wsX3_movedBy (wsV RX3 71 RX3 yX3_after wsX3_after) := goodIn_app (goodIn_of _ (by decide +kernel)) ggX3_movedBy_X3_after
theorem dX3_movedBy_0 : decode cX3_movedBy 0 = .ok (.aload_n 0, 1) := by decide +kernel
theorem dX3_movedBy_1 : decode cX3_movedBy 1 = .ok (.iload_n 1, 1) := by decide +kernel
theorem dX3_movedBy_2 : decode cX3_movedBy 2 = .ok (.iload_n 2, 1) := by decide +kernel
theorem dX3_movedBy_3 : decode cX3_movedBy 3 = .ok (.invokevirtual 58, 3) := by decide +kernel
theorem dX3_movedBy_6 : decode cX3_movedBy 6 = .ok (.ifCond .eq 7, 3) := by decide +kernel
theorem dX3_movedBy_9 : decode cX3_movedBy 9 = .ok (.iconst 0, 1) := by decide +kernel
theorem dX3_movedBy_10 : decode cX3_movedBy 10 = .ok (.goto 16, 3) := by decide +kernel
theorem dX3_movedBy_13 : decode cX3_movedBy 13 = .ok (.aload_n 0, 1) := by decide +kernel
theorem dX3_movedBy_14 : decode cX3_movedBy 14 = .ok (.iload_n 1, 1) := by decide +kernel
theorem dX3_movedBy_15 : decode cX3_movedBy 15 = .ok (.iload_n 2, 1) := by decide +kernel
theorem dX3_movedBy_16 : decode cX3_movedBy 16 = .ok (.invokevirtual 68, 3) := by decide +kernel
theorem dX3_movedBy_19 : decode cX3_movedBy 19 = .ok (.aload_n 0, 1) := by decide +kernel
theorem dX3_movedBy_20 : decode cX3_movedBy 20 = .ok (.iload_n 1, 1) := by decide +kernel
theorem dX3_movedBy_21 : decode cX3_movedBy 21 = .ok (.iload_n 2, 1) := by decide +kernel
theorem dX3_movedBy_22 : decode cX3_movedBy 22 = .ok (.invokevirtual 71, 3) := by decide +kernel
theorem dX3_movedBy_25 : decode cX3_movedBy 25 = .ok (.ior, 1) := by decide +kernel
theorem dX3_movedBy_26 : decode cX3_movedBy 26 = .ok (.ireturn, 1) := by decide +kernel
set_option maxRecDepth 20000 in
theorem ggX3_put_X3_closesRing : GoodIn wsX3_put wsX3_closesRing := goodIn_r _ [8, 9, 10, 11, 12, 7, 13, 14, 2, 15, 16, 17, 51, 52, 53, 54, 55, 56, 57] (by decide +kernel) (by decide +kernel)
set_option maxRecDepth 20000 in
theorem gX3_put_X3_closesRing : GoodIn wsX3_put (wsV RX3 58 RX3 yX3_closesRing wsX3_closesRing) := goodIn_app (goodIn_of _ (by decide +kernel)) ggX3_put_X3_closesRing
set_option maxRecDepth 20000 in
theorem ggX3_put_X3_before : GoodIn wsX3_put wsX3_before := goodIn_r _ [21, 9, 22, 23, 24, 7, 25, 14, 1, 51, 52, 53, 54, 55, 56, 57] (by decide +kernel) (by decide +kernel)
set_option maxRecDepth 20000 in
theorem gX3_put_X3_before : GoodIn wsX3_put (wsV RX3 68 RX3 yX3_before wsX3_before) := goodIn_app (goodIn_of _ (by decide +kernel)) ggX3_put_X3_before
set_option maxRecDepth 20000 in
theorem ggX3_put_X3_after : GoodIn wsX3_put wsX3_after := goodIn_r _ [29, 9, 10, 11, 12, 7, 13, 14, 2, 51, 52, 53, 54, 55, 56, 57] (by decide +kernel) (by decide +kernel)
set_option maxRecDepth 20000 in
theorem gX3_put_X3_after : GoodIn wsX3_put (wsV RX3 71 RX3 yX3_after wsX3_after) := goodIn_app (goodIn_of _ (by decide +kernel)) ggX3_put_X3_after
set_option maxRecDepth 20000 in
theorem ggX3_put_X3_rearrange : GoodIn wsX3_put wsX3_rearrange := goodIn_r _ [33, 34, 14, 35, 36, 37, 38, 7, 39, 15, 16, 17, 40, 41, 42, 43, 9, 51, 52, 53, 54, 55, 56, 57] (by decide +kernel) (by decide +kernel)
set_option maxRecDepth 20000 in
theorem gX3_put_X3_rearrange : GoodIn wsX3_put (wsV RX3 74 RX3 yX3_rearrange wsX3_rearrange) := goodIn_app (goodIn_of _ (by decide +kernel)) ggX3_put_X3_rearrange
set_option maxRecDepth 20000 in
theorem ggX3_put_J6_bitCount_0f7a4 : GoodIn wsX3_put wsJ6_bitCount_0f7a4 := goodIn_r _ [47, 48, 49, 50] (by decide +kernel) (by decide +kernel)
set_option maxRecDepth 20000 in
theorem gX3_put_J6_bitCount_0f7a4 : GoodIn wsX3_put (va_wsS RX3 78 yJ6_bitCount_0f7a4 wsJ6_bitCount_0f7a4) := goodIn_app (goodIn_of _ (by decide +kernel)) ggX3_put_J6_bitCount_0f7a4
theorem dX3_put_0 : decode cX3_put 0 = .ok (.aload_n 0, 1) := by decide +kernel
theorem dX3_put_1 : decode cX3_put 1 = .ok (.iload_n 1, 1) := by decide +kernel
theorem dX3_put_2 : decode cX3_put 2 = .ok (.iload_n 2, 1) := by decide +kernel
theorem dX3_put_3 : decode cX3_put 3 = .ok (.invokevirtual 58, 3) := by decide +kernel
theorem dX3_put_6 : decode cX3_put 6 = .ok (.ifCond .eq 6, 3) := by decide +kernel
theorem dX3_put_9 : decode cX3_put 9 = .ok (.bipush (-4), 2) := by decide +kernel
theorem dX3_put_11 : decode cX3_put 11 = .ok (.ireturn, 1) := by decide +kernel
theorem dX3_put_12 : decode cX3_put 12 = .ok (.aload_n 0, 1) := by decide +kernel
theorem dX3_put_13 : decode cX3_put 13 = .ok (.iload_n 1, 1) := by decide +kernel
theorem dX3_put_14 : decode cX3_put 14 = .ok (.iload_n 2, 1) := by decide +kernel
theorem dX3_put_15 : decode cX3_put 15 = .ok (.invokevirtual 68, 3) := by decide +kernel
theorem dX3_put_18 : decode cX3_put 18 = .ok (.istore_n 3, 1) := by decide +kernel
theorem dX3_put_19 : decode cX3_put 19 = .ok (.aload_n 0, 1) := by decide +kernel
theorem dX3_put_20 : decode cX3_put 20 = .ok (.iload_n 1, 1) := by decide +kernel
theorem dX3_put_21 : decode cX3_put 21 = .ok (.iload_n 2, 1) := by decide +kernel
theorem dX3_put_22 : decode cX3_put 22 = .ok (.invokevirtual 71, 3) := by decide +kernel
theorem dX3_put_25 : decode cX3_put 25 = .ok (.istore 4, 2) := by decide +kernel
theorem dX3_put_27 : decode cX3_put 27 = .ok (.aload_n 0, 1) := by decide +kernel
theorem dX3_put_28 : decode cX3_put 28 = .ok (.iload_n 3, 1) := by decide +kernel
theorem dX3_put_29 : decode cX3_put 29 = .ok (.iload 4, 2) := by decide +kernel
theorem dX3_put_31 : decode cX3_put 31 = .ok (.invokevirtual 74, 3) := by decide +kernel
theorem dX3_put_34 : decode cX3_put 34 = .ok (.aload_n 0, 1) := by decide +kernel
theorem dX3_put_35 : decode cX3_put 35 = .ok (.getfield 9, 3) := by decide +kernel
theorem dX3_put_38 : decode cX3_put 38 = .ok (.iload_n 1, 1) := by decide +kernel
theorem dX3_put_39 : decode cX3_put 39 = .ok (.dup2, 1) := by decide +kernel
theorem dX3_put_40 : decode cX3_put 40 = .ok (.iaload, 1) := by decide +kernel
theorem dX3_put_41 : decode cX3_put 41 = .ok (.iconst 1, 1) := by decide +kernel
theorem dX3_put_42 : decode cX3_put 42 = .ok (.iload_n 2, 1) := by decide +kernel
theorem dX3_put_43 : decode cX3_put 43 = .ok (.ishl, 1) := by decide +kernel
theorem dX3_put_44 : decode cX3_put 44 = .ok (.ior, 1) := by decide +kernel
theorem dX3_put_45 : decode cX3_put 45 = .ok (.iastore, 1) := by decide +kernel
theorem dX3_put_46 : decode cX3_put 46 = .ok (.aload_n 0, 1) := by decide +kernel
theorem dX3_put_47 : decode cX3_put 47 = .ok (.getfield 15, 3) := by decide +kernel
theorem dX3_put_50 : decode cX3_put 50 = .ok (.iload_n 2, 1) := by decide +kernel
theorem dX3_put_51 : decode cX3_put 51 = .ok (.dup2, 1) := by decide +kernel
theorem dX3_put_52 : decode cX3_put 52 = .ok (.iaload, 1) := by decide +kernel
theorem dX3_put_53 : decode cX3_put 53 = .ok (.iconst 1, 1) := by decide +kernel
theorem dX3_put_54 : decode cX3_put 54 = .ok (.iload_n 1, 1) := by decide +kernel
theorem dX3_put_55 : decode cX3_put 55 = .ok (.ishl, 1) := by decide +kernel
theorem dX3_put_56 : decode cX3_put 56 = .ok (.ior, 1) := by decide +kernel
theorem dX3_put_57 : decode cX3_put 57 = .ok (.iastore, 1) := by decide +kernel
theorem dX3_put_58 : decode cX3_put 58 = .ok (.aload_n 0, 1) := by decide +kernel
theorem dX3_put_59 : decode cX3_put 59 = .ok (.dup, 1) := by decide +kernel
theorem dX3_put_60 : decode cX3_put 60 = .ok (.getfield 35, 3) := by decide +kernel
theorem dX3_put_63 : decode cX3_put 63 = .ok (.iconst 1, 1) := by decide +kernel
theorem dX3_put_64 : decode cX3_put 64 = .ok (.iadd, 1) := by decide +kernel
theorem dX3_put_65 : decode cX3_put 65 = .ok (.putfield 35, 3) := by decide +kernel
theorem dX3_put_68 : decode cX3_put 68 = .ok (.iload_n 3, 1) := by decide +kernel
theorem dX3_put_69 : decode cX3_put 69 = .ok (.iload 4, 2) := by decide +kernel
theorem dX3_put_71 : decode cX3_put 71 = .ok (.ior, 1) := by decide +kernel
theorem dX3_put_72 : decode cX3_put 72 = .ok (.invokestatic 78, 3) := by decide +kernel
theorem dX3_put_75 : decode cX3_put 75 = .ok (.ireturn, 1) := by decide +kernel
theorem dX3_part_0 : decode cX3_part 0 = .ok (.aload_n 0, 1) := by decide +kernel
theorem dX3_part_1 : decode cX3_part 1 = .ok (.getfield 9, 3) := by decide +kernel
theorem dX3_part_4 : decode cX3_part 4 = .ok (.iload_n 1, 1) := by decide +kernel
theorem dX3_part_5 : decode cX3_part 5 = .ok (.dup2, 1) := by decide +kernel
theorem dX3_part_6 : decode cX3_part 6 = .ok (.iaload, 1) := by decide +kernel
theorem dX3_part_7 : decode cX3_part 7 = .ok (.iconst 1, 1) := by decide +kernel
theorem dX3_part_8 : decode cX3_part 8 = .ok (.iload_n 2, 1) := by decide +kernel
theorem dX3_part_9 : decode cX3_part 9 = .ok (.ishl, 1) := by decide +kernel
theorem dX3_part_10 : decode cX3_part 10 = .ok (.iconst (-1), 1) := by decide +kernel
theorem dX3_part_11 : decode cX3_part 11 = .ok (.ixor, 1) := by decide +kernel
theorem dX3_part_12 : decode cX3_part 12 = .ok (.iand, 1) := by decide +kernel
theorem dX3_part_13 : decode cX3_part 13 = .ok (.iastore, 1) := by decide +kernel
theorem dX3_part_14 : decode cX3_part 14 = .ok (.aload_n 0, 1) := by decide +kernel
theorem dX3_part_15 : decode cX3_part 15 = .ok (.getfield 15, 3) := by decide +kernel
theorem dX3_part_18 : decode cX3_part 18 = .ok (.iload_n 2, 1) := by decide +kernel
theorem dX3_part_19 : decode cX3_part 19 = .ok (.dup2, 1) := by decide +kernel
theorem dX3_part_20 : decode cX3_part 20 = .ok (.iaload, 1) := by decide +kernel
theorem dX3_part_21 : decode cX3_part 21 = .ok (.iconst 1, 1) := by decide +kernel
theorem dX3_part_22 : decode cX3_part 22 = .ok (.iload_n 1, 1) := by decide +kernel
theorem dX3_part_23 : decode cX3_part 23 = .ok (.ishl, 1) := by decide +kernel
theorem dX3_part_24 : decode cX3_part 24 = .ok (.iconst (-1), 1) := by decide +kernel
theorem dX3_part_25 : decode cX3_part 25 = .ok (.ixor, 1) := by decide +kernel
theorem dX3_part_26 : decode cX3_part 26 = .ok (.iand, 1) := by decide +kernel
theorem dX3_part_27 : decode cX3_part 27 = .ok (.iastore, 1) := by decide +kernel
theorem dX3_part_28 : decode cX3_part 28 = .ok (.aload_n 0, 1) := by decide +kernel
theorem dX3_part_29 : decode cX3_part 29 = .ok (.dup, 1) := by decide +kernel
theorem dX3_part_30 : decode cX3_part 30 = .ok (.getfield 35, 3) := by decide +kernel
theorem dX3_part_33 : decode cX3_part 33 = .ok (.iconst 1, 1) := by decide +kernel
theorem dX3_part_34 : decode cX3_part 34 = .ok (.isub, 1) := by decide +kernel
theorem dX3_part_35 : decode cX3_part 35 = .ok (.putfield 35, 3) := by decide +kernel
theorem dX3_part_38 : decode cX3_part 38 = .ok (.return_, 1) := by decide +kernel
set_option maxRecDepth 20000 in
theorem ggX3_rearrange_X3_gather : GoodIn wsX3_rearrange wsX3_gather := goodIn_r _ [8, 1, 2, 3, 9, 10, 11, 17, 18, 19, 20, 21, 22, 23] (by decide +kernel) (by decide +kernel)
set_option maxRecDepth 20000 in
theorem gX3_rearrange_X3_gather : GoodIn wsX3_rearrange (wsV RX3 84 RX3 yX3_gather wsX3_gather) := goodIn_app (goodIn_of _ (by decide +kernel)) ggX3_rearrange_X3_gather
set_option maxRecDepth 20000 in
theorem ggX3_rearrange_X8_holdsBit : GoodIn wsX3_rearrange wsX8_holdsBit := goodIn_r _ [11] (by decide +kernel) (by decide +kernel)
set_option maxRecDepth 20000 in
theorem gX3_rearrange_X8_holdsBit_n48 : GoodIn wsX3_rearrange (wsX8_holdsBit) := ggX3_rearrange_X8_holdsBit
set_option maxRecDepth 20000 in
theorem ggX3_rearrange_X3_stand : GoodIn wsX3_rearrange wsX3_stand := goodIn_r _ [15, 2, 16, 17, 18, 19, 20, 21, 22, 23] (by decide +kernel) (by decide +kernel)
set_option maxRecDepth 20000 in
theorem gX3_rearrange_X3_stand : GoodIn wsX3_rearrange (wsV RX3 87 RX3 yX3_stand wsX3_stand) := goodIn_app (goodIn_of _ (by decide +kernel)) ggX3_rearrange_X3_stand
theorem dX3_rearrange_0 : decode cX3_rearrange 0 = .ok (.aload_n 0, 1) := by decide +kernel
theorem dX3_rearrange_1 : decode cX3_rearrange 1 = .ok (.iload_n 2, 1) := by decide +kernel
theorem dX3_rearrange_2 : decode cX3_rearrange 2 = .ok (.aload_n 0, 1) := by decide +kernel
theorem dX3_rearrange_3 : decode cX3_rearrange 3 = .ok (.iload_n 1, 1) := by decide +kernel
theorem dX3_rearrange_4 : decode cX3_rearrange 4 = .ok (.iconst 0, 1) := by decide +kernel
theorem dX3_rearrange_5 : decode cX3_rearrange 5 = .ok (.invokevirtual 84, 3) := by decide +kernel
theorem dX3_rearrange_8 : decode cX3_rearrange 8 = .ok (.invokevirtual 84, 3) := by decide +kernel
theorem dX3_rearrange_11 : decode cX3_rearrange 11 = .ok (.pop, 1) := by decide +kernel
theorem dX3_rearrange_12 : decode cX3_rearrange 12 = .ok (.iconst 0, 1) := by decide +kernel
theorem dX3_rearrange_13 : decode cX3_rearrange 13 = .ok (.istore_n 3, 1) := by decide +kernel
theorem dX3_rearrange_14 : decode cX3_rearrange 14 = .ok (.iconst 0, 1) := by decide +kernel
theorem dX3_rearrange_15 : decode cX3_rearrange 15 = .ok (.istore 4, 2) := by decide +kernel
theorem dX3_rearrange_17 : decode cX3_rearrange 17 = .ok (.iload 4, 2) := by decide +kernel
theorem dX3_rearrange_19 : decode cX3_rearrange 19 = .ok (.aload_n 0, 1) := by decide +kernel
theorem dX3_rearrange_20 : decode cX3_rearrange 20 = .ok (.getfield 31, 3) := by decide +kernel
theorem dX3_rearrange_23 : decode cX3_rearrange 23 = .ok (.if_icmp .ge 40, 3) := by decide +kernel
theorem dX3_rearrange_26 : decode cX3_rearrange 26 = .ok (.iload_n 1, 1) := by decide +kernel
theorem dX3_rearrange_27 : decode cX3_rearrange 27 = .ok (.iload_n 2, 1) := by decide +kernel
theorem dX3_rearrange_28 : decode cX3_rearrange 28 = .ok (.ior, 1) := by decide +kernel
theorem dX3_rearrange_29 : decode cX3_rearrange 29 = .ok (.aload_n 0, 1) := by decide +kernel
theorem dX3_rearrange_30 : decode cX3_rearrange 30 = .ok (.getfield 18, 3) := by decide +kernel
theorem dX3_rearrange_33 : decode cX3_rearrange 33 = .ok (.iload 4, 2) := by decide +kernel
theorem dX3_rearrange_35 : decode cX3_rearrange 35 = .ok (.iaload, 1) := by decide +kernel
theorem dX3_rearrange_36 : decode cX3_rearrange 36 = .ok (.invokestatic 48, 3) := by decide +kernel
theorem dX3_rearrange_39 : decode cX3_rearrange 39 = .ok (.ifCond .eq 18, 3) := by decide +kernel
theorem dX3_rearrange_42 : decode cX3_rearrange 42 = .ok (.aload_n 0, 1) := by decide +kernel
theorem dX3_rearrange_43 : decode cX3_rearrange 43 = .ok (.aload_n 0, 1) := by decide +kernel
theorem dX3_rearrange_44 : decode cX3_rearrange 44 = .ok (.getfield 24, 3) := by decide +kernel
theorem dX3_rearrange_47 : decode cX3_rearrange 47 = .ok (.iload_n 3, 1) := by decide +kernel
theorem dX3_rearrange_48 : decode cX3_rearrange 48 = .ok (.iaload, 1) := by decide +kernel
theorem dX3_rearrange_49 : decode cX3_rearrange 49 = .ok (.iload 4, 2) := by decide +kernel
theorem dX3_rearrange_51 : decode cX3_rearrange 51 = .ok (.invokevirtual 87, 3) := by decide +kernel
theorem dX3_rearrange_54 : decode cX3_rearrange 54 = .ok (.iinc 3 1, 3) := by decide +kernel
theorem dX3_rearrange_57 : decode cX3_rearrange 57 = .ok (.iinc 4 1, 3) := by decide +kernel
theorem dX3_rearrange_60 : decode cX3_rearrange 60 = .ok (.goto (-43), 3) := by decide +kernel
theorem dX3_rearrange_63 : decode cX3_rearrange 63 = .ok (.return_, 1) := by decide +kernel
set_option maxRecDepth 20000 in
theorem ggX3_gather_X8_holdsBit : GoodIn wsX3_gather wsX8_holdsBit := goodIn_r _ [6] (by decide +kernel) (by decide +kernel)
set_option maxRecDepth 20000 in
theorem gX3_gather_X8_holdsBit_n48 : GoodIn wsX3_gather (wsX8_holdsBit) := ggX3_gather_X8_holdsBit
theorem dX3_gather_0 : decode cX3_gather 0 = .ok (.iload_n 2, 1) := by decide +kernel
theorem dX3_gather_1 : decode cX3_gather 1 = .ok (.istore_n 3, 1) := by decide +kernel
theorem dX3_gather_2 : decode cX3_gather 2 = .ok (.iconst 0, 1) := by decide +kernel
theorem dX3_gather_3 : decode cX3_gather 3 = .ok (.istore 4, 2) := by decide +kernel
theorem dX3_gather_5 : decode cX3_gather 5 = .ok (.iload 4, 2) := by decide +kernel
theorem dX3_gather_7 : decode cX3_gather 7 = .ok (.aload_n 0, 1) := by decide +kernel
theorem dX3_gather_8 : decode cX3_gather 8 = .ok (.getfield 31, 3) := by decide +kernel
theorem dX3_gather_11 : decode cX3_gather 11 = .ok (.if_icmp .ge 45, 3) := by decide +kernel
theorem dX3_gather_14 : decode cX3_gather 14 = .ok (.iload_n 1, 1) := by decide +kernel
theorem dX3_gather_15 : decode cX3_gather 15 = .ok (.aload_n 0, 1) := by decide +kernel
theorem dX3_gather_16 : decode cX3_gather 16 = .ok (.getfield 18, 3) := by decide +kernel
theorem dX3_gather_19 : decode cX3_gather 19 = .ok (.iload 4, 2) := by decide +kernel
theorem dX3_gather_21 : decode cX3_gather 21 = .ok (.iaload, 1) := by decide +kernel
theorem dX3_gather_22 : decode cX3_gather 22 = .ok (.invokestatic 48, 3) := by decide +kernel
theorem dX3_gather_25 : decode cX3_gather 25 = .ok (.ifCond .eq 25, 3) := by decide +kernel
theorem dX3_gather_28 : decode cX3_gather 28 = .ok (.iload_n 3, 1) := by decide +kernel
theorem dX3_gather_29 : decode cX3_gather 29 = .ok (.bipush 12, 2) := by decide +kernel
theorem dX3_gather_31 : decode cX3_gather 31 = .ok (.if_icmp .ge 19, 3) := by decide +kernel
theorem dX3_gather_34 : decode cX3_gather 34 = .ok (.aload_n 0, 1) := by decide +kernel
theorem dX3_gather_35 : decode cX3_gather 35 = .ok (.getfield 24, 3) := by decide +kernel
theorem dX3_gather_38 : decode cX3_gather 38 = .ok (.iload_n 3, 1) := by decide +kernel
theorem dX3_gather_39 : decode cX3_gather 39 = .ok (.aload_n 0, 1) := by decide +kernel
theorem dX3_gather_40 : decode cX3_gather 40 = .ok (.getfield 18, 3) := by decide +kernel
theorem dX3_gather_43 : decode cX3_gather 43 = .ok (.iload 4, 2) := by decide +kernel
theorem dX3_gather_45 : decode cX3_gather 45 = .ok (.iaload, 1) := by decide +kernel
theorem dX3_gather_46 : decode cX3_gather 46 = .ok (.iastore, 1) := by decide +kernel
theorem dX3_gather_47 : decode cX3_gather 47 = .ok (.iinc 3 1, 3) := by decide +kernel
theorem dX3_gather_50 : decode cX3_gather 50 = .ok (.iinc 4 1, 3) := by decide +kernel
theorem dX3_gather_53 : decode cX3_gather 53 = .ok (.goto (-48), 3) := by decide +kernel
theorem dX3_gather_56 : decode cX3_gather 56 = .ok (.iload_n 3, 1) := by decide +kernel
theorem dX3_gather_57 : decode cX3_gather 57 = .ok (.ireturn, 1) := by decide +kernel
theorem dX3_stand_0 : decode cX3_stand 0 = .ok (.aload_n 0, 1) := by decide +kernel
theorem dX3_stand_1 : decode cX3_stand 1 = .ok (.getfield 18, 3) := by decide +kernel
theorem dX3_stand_4 : decode cX3_stand 4 = .ok (.iload_n 2, 1) := by decide +kernel
theorem dX3_stand_5 : decode cX3_stand 5 = .ok (.iload_n 1, 1) := by decide +kernel
theorem dX3_stand_6 : decode cX3_stand 6 = .ok (.iastore, 1) := by decide +kernel
theorem dX3_stand_7 : decode cX3_stand 7 = .ok (.aload_n 0, 1) := by decide +kernel
theorem dX3_stand_8 : decode cX3_stand 8 = .ok (.getfield 21, 3) := by decide +kernel
theorem dX3_stand_11 : decode cX3_stand 11 = .ok (.iload_n 1, 1) := by decide +kernel
theorem dX3_stand_12 : decode cX3_stand 12 = .ok (.iload_n 2, 1) := by decide +kernel
theorem dX3_stand_13 : decode cX3_stand 13 = .ok (.iastore, 1) := by decide +kernel
theorem dX3_stand_14 : decode cX3_stand 14 = .ok (.return_, 1) := by decide +kernel
set_option maxRecDepth 20000 in
theorem ggX3_isReady_X8_holdsBit : GoodIn wsX3_isReady wsX8_holdsBit := goodIn_r _ [4] (by decide +kernel) (by decide +kernel)
set_option maxRecDepth 20000 in
theorem gX3_isReady_X8_holdsBit_n48 : GoodIn wsX3_isReady (wsX8_holdsBit) := ggX3_isReady_X8_holdsBit
theorem dX3_isReady_0 : decode cX3_isReady 0 = .ok (.iload_n 2, 1) := by decide +kernel
theorem dX3_isReady_1 : decode cX3_isReady 1 = .ok (.iload_n 1, 1) := by decide +kernel
theorem dX3_isReady_2 : decode cX3_isReady 2 = .ok (.invokestatic 48, 3) := by decide +kernel
theorem dX3_isReady_5 : decode cX3_isReady 5 = .ok (.ifCond .ne 20, 3) := by decide +kernel
theorem dX3_isReady_8 : decode cX3_isReady 8 = .ok (.aload_n 0, 1) := by decide +kernel
theorem dX3_isReady_9 : decode cX3_isReady 9 = .ok (.getfield 15, 3) := by decide +kernel
theorem dX3_isReady_12 : decode cX3_isReady 12 = .ok (.iload_n 1, 1) := by decide +kernel
theorem dX3_isReady_13 : decode cX3_isReady 13 = .ok (.iaload, 1) := by decide +kernel
theorem dX3_isReady_14 : decode cX3_isReady 14 = .ok (.iload_n 2, 1) := by decide +kernel
theorem dX3_isReady_15 : decode cX3_isReady 15 = .ok (.iconst (-1), 1) := by decide +kernel
theorem dX3_isReady_16 : decode cX3_isReady 16 = .ok (.ixor, 1) := by decide +kernel
theorem dX3_isReady_17 : decode cX3_isReady 17 = .ok (.iand, 1) := by decide +kernel
theorem dX3_isReady_18 : decode cX3_isReady 18 = .ok (.ifCond .ne 7, 3) := by decide +kernel
theorem dX3_isReady_21 : decode cX3_isReady 21 = .ok (.iconst 1, 1) := by decide +kernel
theorem dX3_isReady_22 : decode cX3_isReady 22 = .ok (.goto 4, 3) := by decide +kernel
theorem dX3_isReady_25 : decode cX3_isReady 25 = .ok (.iconst 0, 1) := by decide +kernel
theorem dX3_isReady_26 : decode cX3_isReady 26 = .ok (.ireturn, 1) := by decide +kernel
set_option maxRecDepth 20000 in
theorem ggX3_allReady_X3_isReady : GoodIn wsX3_allReady wsX3_isReady := goodIn_r _ [6, 7, 8, 9, 10, 11, 12, 13, 14, 15, 16, 17] (by decide +kernel) (by decide +kernel)
set_option maxRecDepth 20000 in
theorem gX3_allReady_X3_isReady : GoodIn wsX3_allReady (wsV RX3 90 RX3 yX3_isReady wsX3_isReady) := goodIn_app (goodIn_of _ (by decide +kernel)) ggX3_allReady_X3_isReady
theorem dX3_allReady_0 : decode cX3_allReady 0 = .ok (.iconst 0, 1) := by decide +kernel
theorem dX3_allReady_1 : decode cX3_allReady 1 = .ok (.istore_n 2, 1) := by decide +kernel
theorem dX3_allReady_2 : decode cX3_allReady 2 = .ok (.iconst 0, 1) := by decide +kernel
theorem dX3_allReady_3 : decode cX3_allReady 3 = .ok (.istore_n 3, 1) := by decide +kernel
theorem dX3_allReady_4 : decode cX3_allReady 4 = .ok (.iload_n 3, 1) := by decide +kernel
theorem dX3_allReady_5 : decode cX3_allReady 5 = .ok (.aload_n 0, 1) := by decide +kernel
theorem dX3_allReady_6 : decode cX3_allReady 6 = .ok (.getfield 31, 3) := by decide +kernel
theorem dX3_allReady_9 : decode cX3_allReady 9 = .ok (.if_icmp .ge 24, 3) := by decide +kernel
theorem dX3_allReady_12 : decode cX3_allReady 12 = .ok (.aload_n 0, 1) := by decide +kernel
theorem dX3_allReady_13 : decode cX3_allReady 13 = .ok (.iload_n 3, 1) := by decide +kernel
theorem dX3_allReady_14 : decode cX3_allReady 14 = .ok (.iload_n 1, 1) := by decide +kernel
theorem dX3_allReady_15 : decode cX3_allReady 15 = .ok (.invokevirtual 90, 3) := by decide +kernel
theorem dX3_allReady_18 : decode cX3_allReady 18 = .ok (.ifCond .eq 9, 3) := by decide +kernel
theorem dX3_allReady_21 : decode cX3_allReady 21 = .ok (.iload_n 2, 1) := by decide +kernel
theorem dX3_allReady_22 : decode cX3_allReady 22 = .ok (.iconst 1, 1) := by decide +kernel
theorem dX3_allReady_23 : decode cX3_allReady 23 = .ok (.iload_n 3, 1) := by decide +kernel
theorem dX3_allReady_24 : decode cX3_allReady 24 = .ok (.ishl, 1) := by decide +kernel
theorem dX3_allReady_25 : decode cX3_allReady 25 = .ok (.ior, 1) := by decide +kernel
theorem dX3_allReady_26 : decode cX3_allReady 26 = .ok (.istore_n 2, 1) := by decide +kernel
theorem dX3_allReady_27 : decode cX3_allReady 27 = .ok (.iinc 3 1, 3) := by decide +kernel
theorem dX3_allReady_30 : decode cX3_allReady 30 = .ok (.goto (-26), 3) := by decide +kernel
theorem dX3_allReady_33 : decode cX3_allReady 33 = .ok (.iload_n 2, 1) := by decide +kernel
theorem dX3_allReady_34 : decode cX3_allReady 34 = .ok (.ireturn, 1) := by decide +kernel
set_option maxRecDepth 20000 in
theorem ggX3_sort_X3_isReady : GoodIn wsX3_sort wsX3_isReady := goodIn_r _ [6, 7, 8, 9, 10, 17, 18, 19, 20, 21, 22, 23] (by decide +kernel) (by decide +kernel)
set_option maxRecDepth 20000 in
theorem gX3_sort_X3_isReady : GoodIn wsX3_sort (wsV RX3 90 RX3 yX3_isReady wsX3_isReady) := goodIn_app (goodIn_of _ (by decide +kernel)) ggX3_sort_X3_isReady
set_option maxRecDepth 20000 in
theorem ggX3_sort_X3_stand : GoodIn wsX3_sort wsX3_stand := goodIn_r _ [14, 15, 16, 17, 18, 19, 20, 21, 22, 23] (by decide +kernel) (by decide +kernel)
set_option maxRecDepth 20000 in
theorem gX3_sort_X3_stand : GoodIn wsX3_sort (wsV RX3 87 RX3 yX3_stand wsX3_stand) := goodIn_app (goodIn_of _ (by decide +kernel)) ggX3_sort_X3_stand
theorem dX3_sort_0 : decode cX3_sort 0 = .ok (.iconst 0, 1) := by decide +kernel
theorem dX3_sort_1 : decode cX3_sort 1 = .ok (.istore_n 1, 1) := by decide +kernel
theorem dX3_sort_2 : decode cX3_sort 2 = .ok (.iconst 0, 1) := by decide +kernel
theorem dX3_sort_3 : decode cX3_sort 3 = .ok (.istore_n 2, 1) := by decide +kernel
theorem dX3_sort_4 : decode cX3_sort 4 = .ok (.iload_n 2, 1) := by decide +kernel
theorem dX3_sort_5 : decode cX3_sort 5 = .ok (.aload_n 0, 1) := by decide +kernel
theorem dX3_sort_6 : decode cX3_sort 6 = .ok (.getfield 31, 3) := by decide +kernel
theorem dX3_sort_9 : decode cX3_sort 9 = .ok (.if_icmp .ge 49, 3) := by decide +kernel
theorem dX3_sort_12 : decode cX3_sort 12 = .ok (.iconst 0, 1) := by decide +kernel
theorem dX3_sort_13 : decode cX3_sort 13 = .ok (.istore_n 3, 1) := by decide +kernel
theorem dX3_sort_14 : decode cX3_sort 14 = .ok (.iload_n 3, 1) := by decide +kernel
theorem dX3_sort_15 : decode cX3_sort 15 = .ok (.aload_n 0, 1) := by decide +kernel
theorem dX3_sort_16 : decode cX3_sort 16 = .ok (.getfield 31, 3) := by decide +kernel
theorem dX3_sort_19 : decode cX3_sort 19 = .ok (.if_icmp .ge 33, 3) := by decide +kernel
theorem dX3_sort_22 : decode cX3_sort 22 = .ok (.aload_n 0, 1) := by decide +kernel
theorem dX3_sort_23 : decode cX3_sort 23 = .ok (.iload_n 3, 1) := by decide +kernel
theorem dX3_sort_24 : decode cX3_sort 24 = .ok (.iload_n 1, 1) := by decide +kernel
theorem dX3_sort_25 : decode cX3_sort 25 = .ok (.invokevirtual 90, 3) := by decide +kernel
theorem dX3_sort_28 : decode cX3_sort 28 = .ok (.ifCond .eq 18, 3) := by decide +kernel
theorem dX3_sort_31 : decode cX3_sort 31 = .ok (.aload_n 0, 1) := by decide +kernel
theorem dX3_sort_32 : decode cX3_sort 32 = .ok (.iload_n 3, 1) := by decide +kernel
theorem dX3_sort_33 : decode cX3_sort 33 = .ok (.iload_n 2, 1) := by decide +kernel
theorem dX3_sort_34 : decode cX3_sort 34 = .ok (.invokevirtual 87, 3) := by decide +kernel
theorem dX3_sort_37 : decode cX3_sort 37 = .ok (.iload_n 1, 1) := by decide +kernel
theorem dX3_sort_38 : decode cX3_sort 38 = .ok (.iconst 1, 1) := by decide +kernel
theorem dX3_sort_39 : decode cX3_sort 39 = .ok (.iload_n 3, 1) := by decide +kernel
theorem dX3_sort_40 : decode cX3_sort 40 = .ok (.ishl, 1) := by decide +kernel
theorem dX3_sort_41 : decode cX3_sort 41 = .ok (.ior, 1) := by decide +kernel
theorem dX3_sort_42 : decode cX3_sort 42 = .ok (.istore_n 1, 1) := by decide +kernel
theorem dX3_sort_43 : decode cX3_sort 43 = .ok (.goto 9, 3) := by decide +kernel
theorem dX3_sort_46 : decode cX3_sort 46 = .ok (.iinc 3 1, 3) := by decide +kernel
theorem dX3_sort_49 : decode cX3_sort 49 = .ok (.goto (-35), 3) := by decide +kernel
theorem dX3_sort_52 : decode cX3_sort 52 = .ok (.iinc 2 1, 3) := by decide +kernel
theorem dX3_sort_55 : decode cX3_sort 55 = .ok (.goto (-51), 3) := by decide +kernel
theorem dX3_sort_58 : decode cX3_sort 58 = .ok (.return_, 1) := by decide +kernel
set_option maxRecDepth 20000 in
theorem ggX3_longestChain_X3_everyItem : GoodIn wsX3_longestChain wsX3_everyItem := goodIn_r _ [6, 1, 19, 20, 21, 22, 23, 24, 25] (by decide +kernel) (by decide +kernel)
set_option maxRecDepth 20000 in
theorem gX3_longestChain_X3_everyItem : GoodIn wsX3_longestChain (wsV RX3 93 RX3 yX3_everyItem wsX3_everyItem) := goodIn_app (goodIn_of _ (by decide +kernel)) ggX3_longestChain_X3_everyItem
set_option maxRecDepth 20000 in
theorem ggX3_longestChain_X3_allReady : GoodIn wsX3_longestChain wsX3_allReady := goodIn_r _ [10, 1, 11, 12, 13, 5, 14, 15, 16, 17, 18, 19, 20, 21, 22, 23, 24, 25] (by decide +kernel) (by decide +kernel)
set_option maxRecDepth 20000 in
theorem gX3_longestChain_X3_allReady : GoodIn wsX3_longestChain (wsV RX3 97 RX3 yX3_allReady wsX3_allReady) := goodIn_app (goodIn_of _ (by decide +kernel)) ggX3_longestChain_X3_allReady
theorem dX3_longestChain_0 : decode cX3_longestChain 0 = .ok (.iconst 0, 1) := by decide +kernel
theorem dX3_longestChain_1 : decode cX3_longestChain 1 = .ok (.istore_n 1, 1) := by decide +kernel
theorem dX3_longestChain_2 : decode cX3_longestChain 2 = .ok (.iconst 0, 1) := by decide +kernel
theorem dX3_longestChain_3 : decode cX3_longestChain 3 = .ok (.istore_n 2, 1) := by decide +kernel
theorem dX3_longestChain_4 : decode cX3_longestChain 4 = .ok (.iconst 0, 1) := by decide +kernel
theorem dX3_longestChain_5 : decode cX3_longestChain 5 = .ok (.istore_n 3, 1) := by decide +kernel
theorem dX3_longestChain_6 : decode cX3_longestChain 6 = .ok (.iload_n 3, 1) := by decide +kernel
theorem dX3_longestChain_7 : decode cX3_longestChain 7 = .ok (.aload_n 0, 1) := by decide +kernel
theorem dX3_longestChain_8 : decode cX3_longestChain 8 = .ok (.getfield 31, 3) := by decide +kernel
theorem dX3_longestChain_11 : decode cX3_longestChain 11 = .ok (.if_icmp .ge 28, 3) := by decide +kernel
theorem dX3_longestChain_14 : decode cX3_longestChain 14 = .ok (.iload_n 1, 1) := by decide +kernel
theorem dX3_longestChain_15 : decode cX3_longestChain 15 = .ok (.aload_n 0, 1) := by decide +kernel
theorem dX3_longestChain_16 : decode cX3_longestChain 16 = .ok (.invokevirtual 93, 3) := by decide +kernel
theorem dX3_longestChain_19 : decode cX3_longestChain 19 = .ok (.if_icmp .eq 20, 3) := by decide +kernel
theorem dX3_longestChain_22 : decode cX3_longestChain 22 = .ok (.iload_n 1, 1) := by decide +kernel
theorem dX3_longestChain_23 : decode cX3_longestChain 23 = .ok (.aload_n 0, 1) := by decide +kernel
theorem dX3_longestChain_24 : decode cX3_longestChain 24 = .ok (.iload_n 1, 1) := by decide +kernel
theorem dX3_longestChain_25 : decode cX3_longestChain 25 = .ok (.invokevirtual 97, 3) := by decide +kernel
theorem dX3_longestChain_28 : decode cX3_longestChain 28 = .ok (.ior, 1) := by decide +kernel
theorem dX3_longestChain_29 : decode cX3_longestChain 29 = .ok (.istore_n 1, 1) := by decide +kernel
theorem dX3_longestChain_30 : decode cX3_longestChain 30 = .ok (.iinc 2 1, 3) := by decide +kernel
theorem dX3_longestChain_33 : decode cX3_longestChain 33 = .ok (.iinc 3 1, 3) := by decide +kernel
theorem dX3_longestChain_36 : decode cX3_longestChain 36 = .ok (.goto (-30), 3) := by decide +kernel
theorem dX3_longestChain_39 : decode cX3_longestChain 39 = .ok (.iload_n 2, 1) := by decide +kernel
theorem dX3_longestChain_40 : decode cX3_longestChain 40 = .ok (.ireturn, 1) := by decide +kernel
theorem dX3_placesUnlike_0 : decode cX3_placesUnlike 0 = .ok (.iconst 0, 1) := by decide +kernel
theorem dX3_placesUnlike_1 : decode cX3_placesUnlike 1 = .ok (.istore_n 2, 1) := by decide +kernel
theorem dX3_placesUnlike_2 : decode cX3_placesUnlike 2 = .ok (.iconst 0, 1) := by decide +kernel
theorem dX3_placesUnlike_3 : decode cX3_placesUnlike 3 = .ok (.istore_n 3, 1) := by decide +kernel
theorem dX3_placesUnlike_4 : decode cX3_placesUnlike 4 = .ok (.iload_n 3, 1) := by decide +kernel
theorem dX3_placesUnlike_5 : decode cX3_placesUnlike 5 = .ok (.aload_n 0, 1) := by decide +kernel
theorem dX3_placesUnlike_6 : decode cX3_placesUnlike 6 = .ok (.getfield 31, 3) := by decide +kernel
theorem dX3_placesUnlike_9 : decode cX3_placesUnlike 9 = .ok (.if_icmp .ge 27, 3) := by decide +kernel
theorem dX3_placesUnlike_12 : decode cX3_placesUnlike 12 = .ok (.aload_n 0, 1) := by decide +kernel
theorem dX3_placesUnlike_13 : decode cX3_placesUnlike 13 = .ok (.getfield 21, 3) := by decide +kernel
theorem dX3_placesUnlike_16 : decode cX3_placesUnlike 16 = .ok (.iload_n 3, 1) := by decide +kernel
theorem dX3_placesUnlike_17 : decode cX3_placesUnlike 17 = .ok (.iaload, 1) := by decide +kernel
theorem dX3_placesUnlike_18 : decode cX3_placesUnlike 18 = .ok (.aload_n 1, 1) := by decide +kernel
theorem dX3_placesUnlike_19 : decode cX3_placesUnlike 19 = .ok (.getfield 21, 3) := by decide +kernel
theorem dX3_placesUnlike_22 : decode cX3_placesUnlike 22 = .ok (.iload_n 3, 1) := by decide +kernel
theorem dX3_placesUnlike_23 : decode cX3_placesUnlike 23 = .ok (.iaload, 1) := by decide +kernel
theorem dX3_placesUnlike_24 : decode cX3_placesUnlike 24 = .ok (.if_icmp .eq 6, 3) := by decide +kernel
theorem dX3_placesUnlike_27 : decode cX3_placesUnlike 27 = .ok (.iinc 2 1, 3) := by decide +kernel
theorem dX3_placesUnlike_30 : decode cX3_placesUnlike 30 = .ok (.iinc 3 1, 3) := by decide +kernel
theorem dX3_placesUnlike_33 : decode cX3_placesUnlike 33 = .ok (.goto (-29), 3) := by decide +kernel
theorem dX3_placesUnlike_36 : decode cX3_placesUnlike 36 = .ok (.iload_n 2, 1) := by decide +kernel
theorem dX3_placesUnlike_37 : decode cX3_placesUnlike 37 = .ok (.ireturn, 1) := by decide +kernel
theorem dX3_hasArcsOf_0 : decode cX3_hasArcsOf 0 = .ok (.aload_n 0, 1) := by decide +kernel
theorem dX3_hasArcsOf_1 : decode cX3_hasArcsOf 1 = .ok (.getfield 31, 3) := by decide +kernel
theorem dX3_hasArcsOf_4 : decode cX3_hasArcsOf 4 = .ok (.aload_n 1, 1) := by decide +kernel
theorem dX3_hasArcsOf_5 : decode cX3_hasArcsOf 5 = .ok (.getfield 31, 3) := by decide +kernel
theorem dX3_hasArcsOf_8 : decode cX3_hasArcsOf 8 = .ok (.if_icmp .eq 5, 3) := by decide +kernel
theorem dX3_hasArcsOf_11 : decode cX3_hasArcsOf 11 = .ok (.iconst 0, 1) := by decide +kernel
theorem dX3_hasArcsOf_12 : decode cX3_hasArcsOf 12 = .ok (.ireturn, 1) := by decide +kernel
theorem dX3_hasArcsOf_13 : decode cX3_hasArcsOf 13 = .ok (.iconst 0, 1) := by decide +kernel
theorem dX3_hasArcsOf_14 : decode cX3_hasArcsOf 14 = .ok (.istore_n 2, 1) := by decide +kernel
theorem dX3_hasArcsOf_15 : decode cX3_hasArcsOf 15 = .ok (.iload_n 2, 1) := by decide +kernel
theorem dX3_hasArcsOf_16 : decode cX3_hasArcsOf 16 = .ok (.aload_n 0, 1) := by decide +kernel
theorem dX3_hasArcsOf_17 : decode cX3_hasArcsOf 17 = .ok (.getfield 31, 3) := by decide +kernel
theorem dX3_hasArcsOf_20 : decode cX3_hasArcsOf 20 = .ok (.if_icmp .ge 26, 3) := by decide +kernel
theorem dX3_hasArcsOf_23 : decode cX3_hasArcsOf 23 = .ok (.aload_n 0, 1) := by decide +kernel
theorem dX3_hasArcsOf_24 : decode cX3_hasArcsOf 24 = .ok (.getfield 9, 3) := by decide +kernel
theorem dX3_hasArcsOf_27 : decode cX3_hasArcsOf 27 = .ok (.iload_n 2, 1) := by decide +kernel
theorem dX3_hasArcsOf_28 : decode cX3_hasArcsOf 28 = .ok (.iaload, 1) := by decide +kernel
theorem dX3_hasArcsOf_29 : decode cX3_hasArcsOf 29 = .ok (.aload_n 1, 1) := by decide +kernel
theorem dX3_hasArcsOf_30 : decode cX3_hasArcsOf 30 = .ok (.getfield 9, 3) := by decide +kernel
theorem dX3_hasArcsOf_33 : decode cX3_hasArcsOf 33 = .ok (.iload_n 2, 1) := by decide +kernel
theorem dX3_hasArcsOf_34 : decode cX3_hasArcsOf 34 = .ok (.iaload, 1) := by decide +kernel
theorem dX3_hasArcsOf_35 : decode cX3_hasArcsOf 35 = .ok (.if_icmp .eq 5, 3) := by decide +kernel
theorem dX3_hasArcsOf_38 : decode cX3_hasArcsOf 38 = .ok (.iconst 0, 1) := by decide +kernel
theorem dX3_hasArcsOf_39 : decode cX3_hasArcsOf 39 = .ok (.ireturn, 1) := by decide +kernel
theorem dX3_hasArcsOf_40 : decode cX3_hasArcsOf 40 = .ok (.iinc 2 1, 3) := by decide +kernel
theorem dX3_hasArcsOf_43 : decode cX3_hasArcsOf 43 = .ok (.goto (-28), 3) := by decide +kernel
theorem dX3_hasArcsOf_46 : decode cX3_hasArcsOf 46 = .ok (.iconst 1, 1) := by decide +kernel
theorem dX3_hasArcsOf_47 : decode cX3_hasArcsOf 47 = .ok (.ireturn, 1) := by decide +kernel
set_option maxRecDepth 20000 in
theorem ggX4_init_X3_init : GoodIn wsX4_init wsX3_init := goodIn_r _ [10, 11, 2, 3, 12, 13, 14, 15, 16, 17, 18, 19, 20, 7, 21, 22, 23, 26, 27, 28, 29, 30, 31, 32] (by decide +kernel) (by decide +kernel)
set_option maxRecDepth 20000 in
theorem gX4_init_X3_init : GoodIn wsX4_init (wsX3_init) := ggX4_init_X3_init
theorem dX4_init_0 : decode cX4_init 0 = .ok (.aload_n 0, 1) := by decide +kernel
theorem dX4_init_1 : decode cX4_init 1 = .ok (.invokespecial 3, 3) := by decide +kernel
theorem dX4_init_4 : decode cX4_init 4 = .ok (.aload_n 0, 1) := by decide +kernel
theorem dX4_init_5 : decode cX4_init 5 = .ok (.bipush 10, 2) := by decide +kernel
theorem dX4_init_7 : decode cX4_init 7 = .ok (.anewarray 9, 3) := by decide +kernel
theorem dX4_init_10 : decode cX4_init 10 = .ok (.putfield 11, 3) := by decide +kernel
theorem dX4_init_13 : decode cX4_init 13 = .ok (.iconst 0, 1) := by decide +kernel
theorem dX4_init_14 : decode cX4_init 14 = .ok (.istore_n 1, 1) := by decide +kernel
theorem dX4_init_15 : decode cX4_init 15 = .ok (.iload_n 1, 1) := by decide +kernel
theorem dX4_init_16 : decode cX4_init 16 = .ok (.bipush 10, 2) := by decide +kernel
theorem dX4_init_18 : decode cX4_init 18 = .ok (.if_icmp .ge 22, 3) := by decide +kernel
theorem dX4_init_21 : decode cX4_init 21 = .ok (.aload_n 0, 1) := by decide +kernel
theorem dX4_init_22 : decode cX4_init 22 = .ok (.getfield 11, 3) := by decide +kernel
theorem dX4_init_25 : decode cX4_init 25 = .ok (.iload_n 1, 1) := by decide +kernel
theorem dX4_init_26 : decode cX4_init 26 = .ok (.new 9, 3) := by decide +kernel
theorem dX4_init_29 : decode cX4_init 29 = .ok (.dup, 1) := by decide +kernel
theorem dX4_init_30 : decode cX4_init 30 = .ok (.invokespecial 17, 3) := by decide +kernel
theorem dX4_init_33 : decode cX4_init 33 = .ok (.aastore, 1) := by decide +kernel
theorem dX4_init_34 : decode cX4_init 34 = .ok (.iinc 1 1, 3) := by decide +kernel
theorem dX4_init_37 : decode cX4_init 37 = .ok (.goto (-22), 3) := by decide +kernel
theorem dX4_init_40 : decode cX4_init 40 = .ok (.return_, 1) := by decide +kernel
set_option maxRecDepth 20000 in
theorem ggX4_push_X4_loseOldest : GoodIn wsX4_push wsX4_loseOldest := goodIn_r _ [7, 2, 1, 23, 24] (by decide +kernel) (by decide +kernel)
set_option maxRecDepth 20000 in
theorem gX4_push_X4_loseOldest : GoodIn wsX4_push (wsV RX4 22 RX4 yX4_loseOldest wsX4_loseOldest) := goodIn_app (goodIn_of _ (by decide +kernel)) ggX4_push_X4_loseOldest
set_option maxRecDepth 20000 in
theorem ggX4_push_X3_copyOf : GoodIn wsX4_push wsX3_copyOf := goodIn_r _ [12, 13, 14, 15, 16, 17, 18, 19, 20, 21, 22, 25, 26, 27, 28, 29, 30, 31] (by decide +kernel) (by decide +kernel)
set_option maxRecDepth 20000 in
theorem gX4_push_X3_copyOf : GoodIn wsX4_push (wsV RX4 25 RX3 yX3_copyOf wsX3_copyOf) := goodIn_app (goodIn_of _ (by decide +kernel)) ggX4_push_X3_copyOf
theorem dX4_push_0 : decode cX4_push 0 = .ok (.aload_n 0, 1) := by decide +kernel
theorem dX4_push_1 : decode cX4_push 1 = .ok (.getfield 18, 3) := by decide +kernel
theorem dX4_push_4 : decode cX4_push 4 = .ok (.bipush 10, 2) := by decide +kernel
theorem dX4_push_6 : decode cX4_push 6 = .ok (.if_icmp .lt 7, 3) := by decide +kernel
theorem dX4_push_9 : decode cX4_push 9 = .ok (.aload_n 0, 1) := by decide +kernel
theorem dX4_push_10 : decode cX4_push 10 = .ok (.invokevirtual 22, 3) := by decide +kernel
theorem dX4_push_13 : decode cX4_push 13 = .ok (.aload_n 0, 1) := by decide +kernel
theorem dX4_push_14 : decode cX4_push 14 = .ok (.getfield 11, 3) := by decide +kernel
theorem dX4_push_17 : decode cX4_push 17 = .ok (.aload_n 0, 1) := by decide +kernel
theorem dX4_push_18 : decode cX4_push 18 = .ok (.getfield 18, 3) := by decide +kernel
theorem dX4_push_21 : decode cX4_push 21 = .ok (.aaload, 1) := by decide +kernel
theorem dX4_push_22 : decode cX4_push 22 = .ok (.aload_n 1, 1) := by decide +kernel
theorem dX4_push_23 : decode cX4_push 23 = .ok (.invokevirtual 25, 3) := by decide +kernel
theorem dX4_push_26 : decode cX4_push 26 = .ok (.aload_n 0, 1) := by decide +kernel
theorem dX4_push_27 : decode cX4_push 27 = .ok (.dup, 1) := by decide +kernel
theorem dX4_push_28 : decode cX4_push 28 = .ok (.getfield 18, 3) := by decide +kernel
theorem dX4_push_31 : decode cX4_push 31 = .ok (.iconst 1, 1) := by decide +kernel
theorem dX4_push_32 : decode cX4_push 32 = .ok (.iadd, 1) := by decide +kernel
theorem dX4_push_33 : decode cX4_push 33 = .ok (.putfield 18, 3) := by decide +kernel
theorem dX4_push_36 : decode cX4_push 36 = .ok (.return_, 1) := by decide +kernel
set_option maxRecDepth 20000 in
theorem ggX4_pop_X3_copyOf : GoodIn wsX4_pop wsX3_copyOf := goodIn_r _ [7, 8, 9, 10, 11, 12, 13, 14, 15, 16, 17, 20, 21, 22, 23, 24, 25, 26] (by decide +kernel) (by decide +kernel)
set_option maxRecDepth 20000 in
theorem gX4_pop_X3_copyOf : GoodIn wsX4_pop (wsV RX4 25 RX3 yX3_copyOf wsX3_copyOf) := goodIn_app (goodIn_of _ (by decide +kernel)) ggX4_pop_X3_copyOf
theorem dX4_pop_0 : decode cX4_pop 0 = .ok (.aload_n 0, 1) := by decide +kernel
theorem dX4_pop_1 : decode cX4_pop 1 = .ok (.getfield 18, 3) := by decide +kernel
theorem dX4_pop_4 : decode cX4_pop 4 = .ok (.ifCond .ne 5, 3) := by decide +kernel
theorem dX4_pop_7 : decode cX4_pop 7 = .ok (.iconst 0, 1) := by decide +kernel
theorem dX4_pop_8 : decode cX4_pop 8 = .ok (.ireturn, 1) := by decide +kernel
theorem dX4_pop_9 : decode cX4_pop 9 = .ok (.aload_n 0, 1) := by decide +kernel
theorem dX4_pop_10 : decode cX4_pop 10 = .ok (.dup, 1) := by decide +kernel
theorem dX4_pop_11 : decode cX4_pop 11 = .ok (.getfield 18, 3) := by decide +kernel
theorem dX4_pop_14 : decode cX4_pop 14 = .ok (.iconst 1, 1) := by decide +kernel
theorem dX4_pop_15 : decode cX4_pop 15 = .ok (.isub, 1) := by decide +kernel
theorem dX4_pop_16 : decode cX4_pop 16 = .ok (.putfield 18, 3) := by decide +kernel
theorem dX4_pop_19 : decode cX4_pop 19 = .ok (.aload_n 1, 1) := by decide +kernel
theorem dX4_pop_20 : decode cX4_pop 20 = .ok (.aload_n 0, 1) := by decide +kernel
theorem dX4_pop_21 : decode cX4_pop 21 = .ok (.getfield 11, 3) := by decide +kernel
theorem dX4_pop_24 : decode cX4_pop 24 = .ok (.aload_n 0, 1) := by decide +kernel
theorem dX4_pop_25 : decode cX4_pop 25 = .ok (.getfield 18, 3) := by decide +kernel
theorem dX4_pop_28 : decode cX4_pop 28 = .ok (.aaload, 1) := by decide +kernel
theorem dX4_pop_29 : decode cX4_pop 29 = .ok (.invokevirtual 25, 3) := by decide +kernel
theorem dX4_pop_32 : decode cX4_pop 32 = .ok (.iconst 1, 1) := by decide +kernel
theorem dX4_pop_33 : decode cX4_pop 33 = .ok (.ireturn, 1) := by decide +kernel
theorem dX4_loseOldest_0 : decode cX4_loseOldest 0 = .ok (.aload_n 0, 1) := by decide +kernel
theorem dX4_loseOldest_1 : decode cX4_loseOldest 1 = .ok (.getfield 11, 3) := by decide +kernel
theorem dX4_loseOldest_4 : decode cX4_loseOldest 4 = .ok (.iconst 0, 1) := by decide +kernel
theorem dX4_loseOldest_5 : decode cX4_loseOldest 5 = .ok (.aaload, 1) := by decide +kernel
theorem dX4_loseOldest_6 : decode cX4_loseOldest 6 = .ok (.astore_n 1, 1) := by decide +kernel
theorem dX4_loseOldest_7 : decode cX4_loseOldest 7 = .ok (.iconst 1, 1) := by decide +kernel
theorem dX4_loseOldest_8 : decode cX4_loseOldest 8 = .ok (.istore_n 2, 1) := by decide +kernel
theorem dX4_loseOldest_9 : decode cX4_loseOldest 9 = .ok (.iload_n 2, 1) := by decide +kernel
theorem dX4_loseOldest_10 : decode cX4_loseOldest 10 = .ok (.bipush 10, 2) := by decide +kernel
theorem dX4_loseOldest_12 : decode cX4_loseOldest 12 = .ok (.if_icmp .ge 23, 3) := by decide +kernel
theorem dX4_loseOldest_15 : decode cX4_loseOldest 15 = .ok (.aload_n 0, 1) := by decide +kernel
theorem dX4_loseOldest_16 : decode cX4_loseOldest 16 = .ok (.getfield 11, 3) := by decide +kernel
theorem dX4_loseOldest_19 : decode cX4_loseOldest 19 = .ok (.iload_n 2, 1) := by decide +kernel
theorem dX4_loseOldest_20 : decode cX4_loseOldest 20 = .ok (.iconst 1, 1) := by decide +kernel
theorem dX4_loseOldest_21 : decode cX4_loseOldest 21 = .ok (.isub, 1) := by decide +kernel
theorem dX4_loseOldest_22 : decode cX4_loseOldest 22 = .ok (.aload_n 0, 1) := by decide +kernel
theorem dX4_loseOldest_23 : decode cX4_loseOldest 23 = .ok (.getfield 11, 3) := by decide +kernel
theorem dX4_loseOldest_26 : decode cX4_loseOldest 26 = .ok (.iload_n 2, 1) := by decide +kernel
theorem dX4_loseOldest_27 : decode cX4_loseOldest 27 = .ok (.aaload, 1) := by decide +kernel
theorem dX4_loseOldest_28 : decode cX4_loseOldest 28 = .ok (.aastore, 1) := by decide +kernel
theorem dX4_loseOldest_29 : decode cX4_loseOldest 29 = .ok (.iinc 2 1, 3) := by decide +kernel
theorem dX4_loseOldest_32 : decode cX4_loseOldest 32 = .ok (.goto (-23), 3) := by decide +kernel
theorem dX4_loseOldest_35 : decode cX4_loseOldest 35 = .ok (.aload_n 0, 1) := by decide +kernel
theorem dX4_loseOldest_36 : decode cX4_loseOldest 36 = .ok (.getfield 11, 3) := by decide +kernel
theorem dX4_loseOldest_39 : decode cX4_loseOldest 39 = .ok (.bipush 9, 2) := by decide +kernel
theorem dX4_loseOldest_41 : decode cX4_loseOldest 41 = .ok (.aload_n 1, 1) := by decide +kernel
theorem dX4_loseOldest_42 : decode cX4_loseOldest 42 = .ok (.aastore, 1) := by decide +kernel
theorem dX4_loseOldest_43 : decode cX4_loseOldest 43 = .ok (.aload_n 0, 1) := by decide +kernel
theorem dX4_loseOldest_44 : decode cX4_loseOldest 44 = .ok (.bipush 9, 2) := by decide +kernel
theorem dX4_loseOldest_46 : decode cX4_loseOldest 46 = .ok (.putfield 18, 3) := by decide +kernel
theorem dX4_loseOldest_49 : decode cX4_loseOldest 49 = .ok (.return_, 1) := by decide +kernel
theorem dX5_init_0 : decode cX5_init 0 = .ok (.aload_n 0, 1) := by decide +kernel
theorem dX5_init_1 : decode cX5_init 1 = .ok (.invokespecial 3, 3) := by decide +kernel
theorem dX5_init_4 : decode cX5_init 4 = .ok (.aload_n 0, 1) := by decide +kernel
theorem dX5_init_5 : decode cX5_init 5 = .ok (.bipush 12, 2) := by decide +kernel
theorem dX5_init_7 : decode cX5_init 7 = .ok (.newarray .int, 2) := by decide +kernel
theorem dX5_init_9 : decode cX5_init 9 = .ok (.putfield 9, 3) := by decide +kernel
theorem dX5_init_12 : decode cX5_init 12 = .ok (.return_, 1) := by decide +kernel
theorem dX5_empty_0 : decode cX5_empty 0 = .ok (.aload_n 0, 1) := by decide +kernel
theorem dX5_empty_1 : decode cX5_empty 1 = .ok (.iconst 0, 1) := by decide +kernel
theorem dX5_empty_2 : decode cX5_empty 2 = .ok (.putfield 15, 3) := by decide +kernel
theorem dX5_empty_5 : decode cX5_empty 5 = .ok (.aload_n 0, 1) := by decide +kernel
theorem dX5_empty_6 : decode cX5_empty 6 = .ok (.iconst 0, 1) := by decide +kernel
theorem dX5_empty_7 : decode cX5_empty 7 = .ok (.putfield 19, 3) := by decide +kernel
theorem dX5_empty_10 : decode cX5_empty 10 = .ok (.aload_n 0, 1) := by decide +kernel
theorem dX5_empty_11 : decode cX5_empty 11 = .ok (.iconst 0, 1) := by decide +kernel
theorem dX5_empty_12 : decode cX5_empty 12 = .ok (.putfield 22, 3) := by decide +kernel
theorem dX5_empty_15 : decode cX5_empty 15 = .ok (.return_, 1) := by decide +kernel
theorem dX5_append_0 : decode cX5_append 0 = .ok (.aload_n 0, 1) := by decide +kernel
theorem dX5_append_1 : decode cX5_append 1 = .ok (.getfield 15, 3) := by decide +kernel
theorem dX5_append_4 : decode cX5_append 4 = .ok (.bipush 6, 2) := by decide +kernel
theorem dX5_append_6 : decode cX5_append 6 = .ok (.if_icmp .lt 5, 3) := by decide +kernel
theorem dX5_append_9 : decode cX5_append 9 = .ok (.iconst 0, 1) := by decide +kernel
theorem dX5_append_10 : decode cX5_append 10 = .ok (.ireturn, 1) := by decide +kernel
theorem dX5_append_11 : decode cX5_append 11 = .ok (.iload_n 2, 1) := by decide +kernel
theorem dX5_append_12 : decode cX5_append 12 = .ok (.iconst 1, 1) := by decide +kernel
theorem dX5_append_13 : decode cX5_append 13 = .ok (.if_icmp .ne 18, 3) := by decide +kernel
theorem dX5_append_16 : decode cX5_append 16 = .ok (.aload_n 0, 1) := by decide +kernel
theorem dX5_append_17 : decode cX5_append 17 = .ok (.dup, 1) := by decide +kernel
theorem dX5_append_18 : decode cX5_append 18 = .ok (.getfield 19, 3) := by decide +kernel
theorem dX5_append_21 : decode cX5_append 21 = .ok (.iconst 1, 1) := by decide +kernel
theorem dX5_append_22 : decode cX5_append 22 = .ok (.iload_n 1, 1) := by decide +kernel
theorem dX5_append_23 : decode cX5_append 23 = .ok (.ishl, 1) := by decide +kernel
theorem dX5_append_24 : decode cX5_append 24 = .ok (.ior, 1) := by decide +kernel
theorem dX5_append_25 : decode cX5_append 25 = .ok (.putfield 19, 3) := by decide +kernel
theorem dX5_append_28 : decode cX5_append 28 = .ok (.goto 15, 3) := by decide +kernel
theorem dX5_append_31 : decode cX5_append 31 = .ok (.aload_n 0, 1) := by decide +kernel
theorem dX5_append_32 : decode cX5_append 32 = .ok (.dup, 1) := by decide +kernel
theorem dX5_append_33 : decode cX5_append 33 = .ok (.getfield 22, 3) := by decide +kernel
theorem dX5_append_36 : decode cX5_append 36 = .ok (.iconst 1, 1) := by decide +kernel
theorem dX5_append_37 : decode cX5_append 37 = .ok (.iload_n 1, 1) := by decide +kernel
theorem dX5_append_38 : decode cX5_append 38 = .ok (.ishl, 1) := by decide +kernel
theorem dX5_append_39 : decode cX5_append 39 = .ok (.ior, 1) := by decide +kernel
theorem dX5_append_40 : decode cX5_append 40 = .ok (.putfield 22, 3) := by decide +kernel
theorem dX5_append_43 : decode cX5_append 43 = .ok (.aload_n 0, 1) := by decide +kernel
theorem dX5_append_44 : decode cX5_append 44 = .ok (.dup, 1) := by decide +kernel
theorem dX5_append_45 : decode cX5_append 45 = .ok (.getfield 15, 3) := by decide +kernel
theorem dX5_append_48 : decode cX5_append 48 = .ok (.iconst 1, 1) := by decide +kernel
theorem dX5_append_49 : decode cX5_append 49 = .ok (.iadd, 1) := by decide +kernel
theorem dX5_append_50 : decode cX5_append 50 = .ok (.putfield 15, 3) := by decide +kernel
theorem dX5_append_53 : decode cX5_append 53 = .ok (.iconst 1, 1) := by decide +kernel
theorem dX5_append_54 : decode cX5_append 54 = .ok (.ireturn, 1) := by decide +kernel
set_option maxRecDepth 20000 in
theorem ggX5_weigh_J7_fill_53178 : GoodIn wsX5_weigh wsJ7_fill_53178 := goodIn_r _ [8] (by decide +kernel) (by decide +kernel)
set_option maxRecDepth 20000 in
theorem gX5_weigh_J7_fill_53178 : GoodIn wsX5_weigh (va_wsS RX5 31 yJ7_fill_53178 wsJ7_fill_53178) := goodIn_app (goodIn_of _ (by decide +kernel)) ggX5_weigh_J7_fill_53178
set_option maxRecDepth 20000 in
theorem ggX5_weigh_X3_canTake : GoodIn wsX5_weigh wsX3_canTake := goodIn_r _ [13, 14, 15, 16, 12, 17, 18, 19, 20, 21, 22, 23, 24, 25, 26, 27, 28, 29, 30, 31, 32, 33, 34, 35, 36, 37, 38, 39, 40, 41, 73, 74, 75, 76, 77, 78, 79] (by decide +kernel) (by decide +kernel)
set_option maxRecDepth 20000 in
theorem gX5_weigh_X3_canTake : GoodIn wsX5_weigh (wsV RX5 42 RX3 yX3_canTake wsX3_canTake) := goodIn_app (goodIn_of _ (by decide +kernel)) ggX5_weigh_X3_canTake
set_option maxRecDepth 20000 in
theorem ggX5_weigh_X8_codeOf : GoodIn wsX5_weigh wsX8_codeOf := goodIn_r _ [43] (by decide +kernel) (by decide +kernel)
set_option maxRecDepth 20000 in
theorem gX5_weigh_X8_codeOf_n46 : GoodIn wsX5_weigh (wsX8_codeOf) := ggX5_weigh_X8_codeOf
set_option maxRecDepth 20000 in
theorem ggX5_weigh_X3_movedBy : GoodIn wsX5_weigh wsX3_movedBy := goodIn_r _ [47, 31, 32, 33, 12, 34, 35, 36, 37, 38, 39, 40, 41, 28, 29, 30, 48, 49, 50, 51, 52, 53, 54, 55, 27, 56, 57, 58, 59, 73, 74, 75, 76, 77, 78, 79] (by decide +kernel) (by decide +kernel)
set_option maxRecDepth 20000 in
theorem gX5_weigh_X3_movedBy : GoodIn wsX5_weigh (wsV RX5 50 RX3 yX3_movedBy wsX3_movedBy) := goodIn_app (goodIn_of _ (by decide +kernel)) ggX5_weigh_X3_movedBy
set_option maxRecDepth 20000 in
theorem ggX5_weigh_X5_takeIfFits : GoodIn wsX5_weigh wsX5_takeIfFits := goodIn_r _ [64, 65, 66, 2, 1, 3, 67, 68, 69, 70, 71, 72] (by decide +kernel) (by decide +kernel)
set_option maxRecDepth 20000 in
theorem gX5_weigh_X5_takeIfFits : GoodIn wsX5_weigh (wsV RX5 53 RX5 yX5_takeIfFits wsX5_takeIfFits) := goodIn_app (goodIn_of _ (by decide +kernel)) ggX5_weigh_X5_takeIfFits
theorem dX5_weigh_0 : decode cX5_weigh 0 = .ok (.aload_n 0, 1) := by decide +kernel
theorem dX5_weigh_1 : decode cX5_weigh 1 = .ok (.iconst 0, 1) := by decide +kernel
theorem dX5_weigh_2 : decode cX5_weigh 2 = .ok (.putfield 25, 3) := by decide +kernel
theorem dX5_weigh_5 : decode cX5_weigh 5 = .ok (.aload_n 0, 1) := by decide +kernel
theorem dX5_weigh_6 : decode cX5_weigh 6 = .ok (.bipush (-9), 2) := by decide +kernel
theorem dX5_weigh_8 : decode cX5_weigh 8 = .ok (.putfield 28, 3) := by decide +kernel
theorem dX5_weigh_11 : decode cX5_weigh 11 = .ok (.aload_n 0, 1) := by decide +kernel
theorem dX5_weigh_12 : decode cX5_weigh 12 = .ok (.getfield 9, 3) := by decide +kernel
theorem dX5_weigh_15 : decode cX5_weigh 15 = .ok (.iconst 0, 1) := by decide +kernel
theorem dX5_weigh_16 : decode cX5_weigh 16 = .ok (.invokestatic 31, 3) := by decide +kernel
theorem dX5_weigh_19 : decode cX5_weigh 19 = .ok (.iconst 0, 1) := by decide +kernel
theorem dX5_weigh_20 : decode cX5_weigh 20 = .ok (.istore_n 2, 1) := by decide +kernel
theorem dX5_weigh_21 : decode cX5_weigh 21 = .ok (.iload_n 2, 1) := by decide +kernel
theorem dX5_weigh_22 : decode cX5_weigh 22 = .ok (.aload_n 1, 1) := by decide +kernel
theorem dX5_weigh_23 : decode cX5_weigh 23 = .ok (.getfield 37, 3) := by decide +kernel
theorem dX5_weigh_26 : decode cX5_weigh 26 = .ok (.if_icmp .ge 49, 3) := by decide +kernel
theorem dX5_weigh_29 : decode cX5_weigh 29 = .ok (.iconst 0, 1) := by decide +kernel
theorem dX5_weigh_30 : decode cX5_weigh 30 = .ok (.istore_n 3, 1) := by decide +kernel
theorem dX5_weigh_31 : decode cX5_weigh 31 = .ok (.iload_n 3, 1) := by decide +kernel
theorem dX5_weigh_32 : decode cX5_weigh 32 = .ok (.aload_n 1, 1) := by decide +kernel
theorem dX5_weigh_33 : decode cX5_weigh 33 = .ok (.getfield 37, 3) := by decide +kernel
theorem dX5_weigh_36 : decode cX5_weigh 36 = .ok (.if_icmp .ge 33, 3) := by decide +kernel
theorem dX5_weigh_39 : decode cX5_weigh 39 = .ok (.aload_n 1, 1) := by decide +kernel
theorem dX5_weigh_40 : decode cX5_weigh 40 = .ok (.iload_n 2, 1) := by decide +kernel
theorem dX5_weigh_41 : decode cX5_weigh 41 = .ok (.iload_n 3, 1) := by decide +kernel
theorem dX5_weigh_42 : decode cX5_weigh 42 = .ok (.invokevirtual 42, 3) := by decide +kernel
theorem dX5_weigh_45 : decode cX5_weigh 45 = .ok (.ifCond .eq 18, 3) := by decide +kernel
theorem dX5_weigh_48 : decode cX5_weigh 48 = .ok (.aload_n 0, 1) := by decide +kernel
theorem dX5_weigh_49 : decode cX5_weigh 49 = .ok (.iload_n 2, 1) := by decide +kernel
theorem dX5_weigh_50 : decode cX5_weigh 50 = .ok (.iload_n 3, 1) := by decide +kernel
theorem dX5_weigh_51 : decode cX5_weigh 51 = .ok (.invokestatic 46, 3) := by decide +kernel
theorem dX5_weigh_54 : decode cX5_weigh 54 = .ok (.aload_n 1, 1) := by decide +kernel
theorem dX5_weigh_55 : decode cX5_weigh 55 = .ok (.iload_n 2, 1) := by decide +kernel
theorem dX5_weigh_56 : decode cX5_weigh 56 = .ok (.iload_n 3, 1) := by decide +kernel
theorem dX5_weigh_57 : decode cX5_weigh 57 = .ok (.invokevirtual 50, 3) := by decide +kernel
theorem dX5_weigh_60 : decode cX5_weigh 60 = .ok (.invokevirtual 53, 3) := by decide +kernel
theorem dX5_weigh_63 : decode cX5_weigh 63 = .ok (.iinc 3 1, 3) := by decide +kernel
theorem dX5_weigh_66 : decode cX5_weigh 66 = .ok (.goto (-35), 3) := by decide +kernel
theorem dX5_weigh_69 : decode cX5_weigh 69 = .ok (.iinc 2 1, 3) := by decide +kernel
theorem dX5_weigh_72 : decode cX5_weigh 72 = .ok (.goto (-51), 3) := by decide +kernel
theorem dX5_weigh_75 : decode cX5_weigh 75 = .ok (.return_, 1) := by decide +kernel
theorem dX5_takeIfFits_0 : decode cX5_takeIfFits 0 = .ok (.aload_n 0, 1) := by decide +kernel
theorem dX5_takeIfFits_1 : decode cX5_takeIfFits 1 = .ok (.getfield 19, 3) := by decide +kernel
theorem dX5_takeIfFits_4 : decode cX5_takeIfFits 4 = .ok (.iload_n 2, 1) := by decide +kernel
theorem dX5_takeIfFits_5 : decode cX5_takeIfFits 5 = .ok (.iconst (-1), 1) := by decide +kernel
theorem dX5_takeIfFits_6 : decode cX5_takeIfFits 6 = .ok (.ixor, 1) := by decide +kernel
theorem dX5_takeIfFits_7 : decode cX5_takeIfFits 7 = .ok (.iand, 1) := by decide +kernel
theorem dX5_takeIfFits_8 : decode cX5_takeIfFits 8 = .ok (.ifCond .ne 12, 3) := by decide +kernel
theorem dX5_takeIfFits_11 : decode cX5_takeIfFits 11 = .ok (.aload_n 0, 1) := by decide +kernel
theorem dX5_takeIfFits_12 : decode cX5_takeIfFits 12 = .ok (.getfield 22, 3) := by decide +kernel
theorem dX5_takeIfFits_15 : decode cX5_takeIfFits 15 = .ok (.iload_n 2, 1) := by decide +kernel
theorem dX5_takeIfFits_16 : decode cX5_takeIfFits 16 = .ok (.iand, 1) := by decide +kernel
theorem dX5_takeIfFits_17 : decode cX5_takeIfFits 17 = .ok (.ifCond .eq 4, 3) := by decide +kernel
theorem dX5_takeIfFits_20 : decode cX5_takeIfFits 20 = .ok (.return_, 1) := by decide +kernel
theorem dX5_takeIfFits_21 : decode cX5_takeIfFits 21 = .ok (.aload_n 0, 1) := by decide +kernel
theorem dX5_takeIfFits_22 : decode cX5_takeIfFits 22 = .ok (.getfield 28, 3) := by decide +kernel
theorem dX5_takeIfFits_25 : decode cX5_takeIfFits 25 = .ok (.bipush (-9), 2) := by decide +kernel
theorem dX5_takeIfFits_27 : decode cX5_takeIfFits 27 = .ok (.if_icmp .ne 8, 3) := by decide +kernel
theorem dX5_takeIfFits_30 : decode cX5_takeIfFits 30 = .ok (.aload_n 0, 1) := by decide +kernel
theorem dX5_takeIfFits_31 : decode cX5_takeIfFits 31 = .ok (.iload_n 1, 1) := by decide +kernel
theorem dX5_takeIfFits_32 : decode cX5_takeIfFits 32 = .ok (.putfield 28, 3) := by decide +kernel
theorem dX5_takeIfFits_35 : decode cX5_takeIfFits 35 = .ok (.aload_n 0, 1) := by decide +kernel
theorem dX5_takeIfFits_36 : decode cX5_takeIfFits 36 = .ok (.dup, 1) := by decide +kernel
theorem dX5_takeIfFits_37 : decode cX5_takeIfFits 37 = .ok (.getfield 25, 3) := by decide +kernel
theorem dX5_takeIfFits_40 : decode cX5_takeIfFits 40 = .ok (.iconst 1, 1) := by decide +kernel
theorem dX5_takeIfFits_41 : decode cX5_takeIfFits 41 = .ok (.iadd, 1) := by decide +kernel
theorem dX5_takeIfFits_42 : decode cX5_takeIfFits 42 = .ok (.putfield 25, 3) := by decide +kernel
theorem dX5_takeIfFits_45 : decode cX5_takeIfFits 45 = .ok (.iconst 0, 1) := by decide +kernel
theorem dX5_takeIfFits_46 : decode cX5_takeIfFits 46 = .ok (.istore_n 3, 1) := by decide +kernel
theorem dX5_takeIfFits_47 : decode cX5_takeIfFits 47 = .ok (.iload_n 3, 1) := by decide +kernel
theorem dX5_takeIfFits_48 : decode cX5_takeIfFits 48 = .ok (.bipush 12, 2) := by decide +kernel
theorem dX5_takeIfFits_50 : decode cX5_takeIfFits 50 = .ok (.if_icmp .ge 23, 3) := by decide +kernel
theorem dX5_takeIfFits_53 : decode cX5_takeIfFits 53 = .ok (.aload_n 0, 1) := by decide +kernel
theorem dX5_takeIfFits_54 : decode cX5_takeIfFits 54 = .ok (.getfield 9, 3) := by decide +kernel
theorem dX5_takeIfFits_57 : decode cX5_takeIfFits 57 = .ok (.iload_n 3, 1) := by decide +kernel
theorem dX5_takeIfFits_58 : decode cX5_takeIfFits 58 = .ok (.dup2, 1) := by decide +kernel
theorem dX5_takeIfFits_59 : decode cX5_takeIfFits 59 = .ok (.iaload, 1) := by decide +kernel
theorem dX5_takeIfFits_60 : decode cX5_takeIfFits 60 = .ok (.iload_n 2, 1) := by decide +kernel
theorem dX5_takeIfFits_61 : decode cX5_takeIfFits 61 = .ok (.iload_n 3, 1) := by decide +kernel
theorem dX5_takeIfFits_62 : decode cX5_takeIfFits 62 = .ok (.ishr, 1) := by decide +kernel
theorem dX5_takeIfFits_63 : decode cX5_takeIfFits 63 = .ok (.iconst 1, 1) := by decide +kernel
theorem dX5_takeIfFits_64 : decode cX5_takeIfFits 64 = .ok (.iand, 1) := by decide +kernel
theorem dX5_takeIfFits_65 : decode cX5_takeIfFits 65 = .ok (.iadd, 1) := by decide +kernel
theorem dX5_takeIfFits_66 : decode cX5_takeIfFits 66 = .ok (.iastore, 1) := by decide +kernel
theorem dX5_takeIfFits_67 : decode cX5_takeIfFits 67 = .ok (.iinc 3 1, 3) := by decide +kernel
theorem dX5_takeIfFits_70 : decode cX5_takeIfFits 70 = .ok (.goto (-23), 3) := by decide +kernel
theorem dX5_takeIfFits_73 : decode cX5_takeIfFits 73 = .ok (.return_, 1) := by decide +kernel
theorem dX5_bestItem_0 : decode cX5_bestItem 0 = .ok (.aload_n 0, 1) := by decide +kernel
theorem dX5_bestItem_1 : decode cX5_bestItem 1 = .ok (.getfield 25, 3) := by decide +kernel
theorem dX5_bestItem_4 : decode cX5_bestItem 4 = .ok (.iconst 1, 1) := by decide +kernel
theorem dX5_bestItem_5 : decode cX5_bestItem 5 = .ok (.if_icmp .gt 6, 3) := by decide +kernel
theorem dX5_bestItem_8 : decode cX5_bestItem 8 = .ok (.bipush (-9), 2) := by decide +kernel
theorem dX5_bestItem_10 : decode cX5_bestItem 10 = .ok (.ireturn, 1) := by decide +kernel
theorem dX5_bestItem_11 : decode cX5_bestItem 11 = .ok (.bipush (-9), 2) := by decide +kernel
theorem dX5_bestItem_13 : decode cX5_bestItem 13 = .ok (.istore_n 2, 1) := by decide +kernel
theorem dX5_bestItem_14 : decode cX5_bestItem 14 = .ok (.aload_n 0, 1) := by decide +kernel
theorem dX5_bestItem_15 : decode cX5_bestItem 15 = .ok (.getfield 25, 3) := by decide +kernel
theorem dX5_bestItem_18 : decode cX5_bestItem 18 = .ok (.iconst 1, 1) := by decide +kernel
theorem dX5_bestItem_19 : decode cX5_bestItem 19 = .ok (.iadd, 1) := by decide +kernel
theorem dX5_bestItem_20 : decode cX5_bestItem 20 = .ok (.istore_n 3, 1) := by decide +kernel
theorem dX5_bestItem_21 : decode cX5_bestItem 21 = .ok (.iconst 0, 1) := by decide +kernel
theorem dX5_bestItem_22 : decode cX5_bestItem 22 = .ok (.istore 4, 2) := by decide +kernel
theorem dX5_bestItem_24 : decode cX5_bestItem 24 = .ok (.iload 4, 2) := by decide +kernel
theorem dX5_bestItem_26 : decode cX5_bestItem 26 = .ok (.aload_n 1, 1) := by decide +kernel
theorem dX5_bestItem_27 : decode cX5_bestItem 27 = .ok (.getfield 37, 3) := by decide +kernel
theorem dX5_bestItem_30 : decode cX5_bestItem 30 = .ok (.if_icmp .ge 45, 3) := by decide +kernel
theorem dX5_bestItem_33 : decode cX5_bestItem 33 = .ok (.aload_n 0, 1) := by decide +kernel
theorem dX5_bestItem_34 : decode cX5_bestItem 34 = .ok (.getfield 9, 3) := by decide +kernel
theorem dX5_bestItem_37 : decode cX5_bestItem 37 = .ok (.iload 4, 2) := by decide +kernel
theorem dX5_bestItem_39 : decode cX5_bestItem 39 = .ok (.iaload, 1) := by decide +kernel
theorem dX5_bestItem_40 : decode cX5_bestItem 40 = .ok (.aload_n 0, 1) := by decide +kernel
theorem dX5_bestItem_41 : decode cX5_bestItem 41 = .ok (.getfield 25, 3) := by decide +kernel
theorem dX5_bestItem_44 : decode cX5_bestItem 44 = .ok (.aload_n 0, 1) := by decide +kernel
theorem dX5_bestItem_45 : decode cX5_bestItem 45 = .ok (.getfield 9, 3) := by decide +kernel
theorem dX5_bestItem_48 : decode cX5_bestItem 48 = .ok (.iload 4, 2) := by decide +kernel
theorem dX5_bestItem_50 : decode cX5_bestItem 50 = .ok (.iaload, 1) := by decide +kernel
theorem dX5_bestItem_51 : decode cX5_bestItem 51 = .ok (.isub, 1) := by decide +kernel
theorem dX5_bestItem_52 : decode cX5_bestItem 52 = .ok (.invokestatic 57, 3) := by decide +kernel
theorem dX5_bestItem_55 : decode cX5_bestItem 55 = .ok (.istore 5, 2) := by decide +kernel
theorem dX5_bestItem_57 : decode cX5_bestItem 57 = .ok (.iload 5, 2) := by decide +kernel
theorem dX5_bestItem_59 : decode cX5_bestItem 59 = .ok (.iload_n 3, 1) := by decide +kernel
theorem dX5_bestItem_60 : decode cX5_bestItem 60 = .ok (.if_icmp .ge 9, 3) := by decide +kernel
theorem dX5_bestItem_63 : decode cX5_bestItem 63 = .ok (.iload 5, 2) := by decide +kernel
theorem dX5_bestItem_65 : decode cX5_bestItem 65 = .ok (.istore_n 3, 1) := by decide +kernel
theorem dX5_bestItem_66 : decode cX5_bestItem 66 = .ok (.iload 4, 2) := by decide +kernel
theorem dX5_bestItem_68 : decode cX5_bestItem 68 = .ok (.istore_n 2, 1) := by decide +kernel
theorem dX5_bestItem_69 : decode cX5_bestItem 69 = .ok (.iinc 4 1, 3) := by decide +kernel
theorem dX5_bestItem_72 : decode cX5_bestItem 72 = .ok (.goto (-48), 3) := by decide +kernel
theorem dX5_bestItem_75 : decode cX5_bestItem 75 = .ok (.iload_n 2, 1) := by decide +kernel
theorem dX5_bestItem_76 : decode cX5_bestItem 76 = .ok (.ireturn, 1) := by decide +kernel
set_option maxRecDepth 20000 in
theorem ggX6_init_X3_init : GoodIn wsX6_init wsX3_init := goodIn_r _ [12, 13, 2, 3, 14, 15, 16, 17, 18, 19, 20, 21, 22, 8, 23, 24, 25, 29, 30, 31, 32, 33, 34, 35] (by decide +kernel) (by decide +kernel)
set_option maxRecDepth 20000 in
theorem gX6_init_X3_init : GoodIn wsX6_init (wsX3_init) := ggX6_init_X3_init
theorem dX6_init_0 : decode cX6_init 0 = .ok (.aload_n 0, 1) := by decide +kernel
theorem dX6_init_1 : decode cX6_init 1 = .ok (.invokespecial 3, 3) := by decide +kernel
theorem dX6_init_4 : decode cX6_init 4 = .ok (.aload_n 0, 1) := by decide +kernel
theorem dX6_init_5 : decode cX6_init 5 = .ok (.sipush 4096, 3) := by decide +kernel
theorem dX6_init_8 : decode cX6_init 8 = .ok (.newarray .long, 2) := by decide +kernel
theorem dX6_init_10 : decode cX6_init 10 = .ok (.putfield 9, 3) := by decide +kernel
theorem dX6_init_13 : decode cX6_init 13 = .ok (.aload_n 0, 1) := by decide +kernel
theorem dX6_init_14 : decode cX6_init 14 = .ok (.new 15, 3) := by decide +kernel
theorem dX6_init_17 : decode cX6_init 17 = .ok (.dup, 1) := by decide +kernel
theorem dX6_init_18 : decode cX6_init 18 = .ok (.invokespecial 17, 3) := by decide +kernel
theorem dX6_init_21 : decode cX6_init 21 = .ok (.putfield 18, 3) := by decide +kernel
theorem dX6_init_24 : decode cX6_init 24 = .ok (.return_, 1) := by decide +kernel
set_option maxRecDepth 20000 in
theorem ggX6_prepare_X3_hasArcsOf : GoodIn wsX6_prepare wsX3_hasArcsOf := goodIn_r _ [8, 9, 10, 43, 44, 45, 46, 47, 48, 49] (by decide +kernel) (by decide +kernel)
set_option maxRecDepth 20000 in
theorem gX6_prepare_X3_hasArcsOf : GoodIn wsX6_prepare (wsV RX6 26 RX3 yX3_hasArcsOf wsX3_hasArcsOf) := goodIn_app (goodIn_of _ (by decide +kernel)) ggX6_prepare_X3_hasArcsOf
set_option maxRecDepth 20000 in
theorem ggX6_prepare_X3_everyItem : GoodIn wsX6_prepare wsX3_everyItem := goodIn_r _ [14, 9, 43, 44, 45, 46, 47, 48, 49] (by decide +kernel) (by decide +kernel)
set_option maxRecDepth 20000 in
theorem gX6_prepare_X3_everyItem : GoodIn wsX6_prepare (wsV RX6 30 RX3 yX3_everyItem wsX3_everyItem) := goodIn_app (goodIn_of _ (by decide +kernel)) ggX6_prepare_X3_everyItem
set_option maxRecDepth 20000 in
theorem ggX6_prepare_X6_waysOn : GoodIn wsX6_prepare wsX6_waysOn := goodIn_r _ [19, 20, 3, 21, 22, 23, 7, 24, 25, 26, 27, 28, 43, 44, 45, 46, 47, 48, 49, 40, 41, 42] (by decide +kernel) (by decide +kernel)
set_option maxRecDepth 20000 in
theorem gX6_prepare_X6_waysOn : GoodIn wsX6_prepare (wsV RX6 34 RX6 yX6_waysOn wsX6_waysOn) := goodIn_app (goodIn_of _ (by decide +kernel)) ggX6_prepare_X6_waysOn
set_option maxRecDepth 20000 in
theorem ggX6_prepare_X3_copyOf : GoodIn wsX6_prepare wsX3_copyOf := goodIn_r _ [32, 9, 33, 10, 34, 35, 36, 37, 25, 38, 39, 43, 44, 45, 46, 47, 48, 49] (by decide +kernel) (by decide +kernel)
set_option maxRecDepth 20000 in
theorem gX6_prepare_X3_copyOf : GoodIn wsX6_prepare (wsV RX6 38 RX3 yX3_copyOf wsX3_copyOf) := goodIn_app (goodIn_of _ (by decide +kernel)) ggX6_prepare_X3_copyOf
theorem dX6_prepare_0 : decode cX6_prepare 0 = .ok (.aload_n 0, 1) := by decide +kernel
theorem dX6_prepare_1 : decode cX6_prepare 1 = .ok (.getfield 22, 3) := by decide +kernel
theorem dX6_prepare_4 : decode cX6_prepare 4 = .ok (.ifCond .eq 15, 3) := by decide +kernel
theorem dX6_prepare_7 : decode cX6_prepare 7 = .ok (.aload_n 0, 1) := by decide +kernel
theorem dX6_prepare_8 : decode cX6_prepare 8 = .ok (.getfield 18, 3) := by decide +kernel
theorem dX6_prepare_11 : decode cX6_prepare 11 = .ok (.aload_n 1, 1) := by decide +kernel
theorem dX6_prepare_12 : decode cX6_prepare 12 = .ok (.invokevirtual 26, 3) := by decide +kernel
theorem dX6_prepare_15 : decode cX6_prepare 15 = .ok (.ifCond .eq 4, 3) := by decide +kernel
theorem dX6_prepare_18 : decode cX6_prepare 18 = .ok (.return_, 1) := by decide +kernel
theorem dX6_prepare_19 : decode cX6_prepare 19 = .ok (.aload_n 1, 1) := by decide +kernel
theorem dX6_prepare_20 : decode cX6_prepare 20 = .ok (.invokevirtual 30, 3) := by decide +kernel
theorem dX6_prepare_23 : decode cX6_prepare 23 = .ok (.istore_n 2, 1) := by decide +kernel
theorem dX6_prepare_24 : decode cX6_prepare 24 = .ok (.aload_n 0, 1) := by decide +kernel
theorem dX6_prepare_25 : decode cX6_prepare 25 = .ok (.getfield 9, 3) := by decide +kernel
theorem dX6_prepare_28 : decode cX6_prepare 28 = .ok (.iload_n 2, 1) := by decide +kernel
theorem dX6_prepare_29 : decode cX6_prepare 29 = .ok (.lconst 1, 1) := by decide +kernel
theorem dX6_prepare_30 : decode cX6_prepare 30 = .ok (.lastore, 1) := by decide +kernel
theorem dX6_prepare_31 : decode cX6_prepare 31 = .ok (.iload_n 2, 1) := by decide +kernel
theorem dX6_prepare_32 : decode cX6_prepare 32 = .ok (.iconst 1, 1) := by decide +kernel
theorem dX6_prepare_33 : decode cX6_prepare 33 = .ok (.isub, 1) := by decide +kernel
theorem dX6_prepare_34 : decode cX6_prepare 34 = .ok (.istore_n 3, 1) := by decide +kernel
theorem dX6_prepare_35 : decode cX6_prepare 35 = .ok (.iload_n 3, 1) := by decide +kernel
theorem dX6_prepare_36 : decode cX6_prepare 36 = .ok (.ifCond .lt 21, 3) := by decide +kernel
theorem dX6_prepare_39 : decode cX6_prepare 39 = .ok (.aload_n 0, 1) := by decide +kernel
theorem dX6_prepare_40 : decode cX6_prepare 40 = .ok (.getfield 9, 3) := by decide +kernel
theorem dX6_prepare_43 : decode cX6_prepare 43 = .ok (.iload_n 3, 1) := by decide +kernel
theorem dX6_prepare_44 : decode cX6_prepare 44 = .ok (.aload_n 0, 1) := by decide +kernel
theorem dX6_prepare_45 : decode cX6_prepare 45 = .ok (.aload_n 1, 1) := by decide +kernel
theorem dX6_prepare_46 : decode cX6_prepare 46 = .ok (.iload_n 3, 1) := by decide +kernel
theorem dX6_prepare_47 : decode cX6_prepare 47 = .ok (.invokevirtual 34, 3) := by decide +kernel
theorem dX6_prepare_50 : decode cX6_prepare 50 = .ok (.lastore, 1) := by decide +kernel
theorem dX6_prepare_51 : decode cX6_prepare 51 = .ok (.iinc 3 (-1), 3) := by decide +kernel
theorem dX6_prepare_54 : decode cX6_prepare 54 = .ok (.goto (-19), 3) := by decide +kernel
theorem dX6_prepare_57 : decode cX6_prepare 57 = .ok (.aload_n 0, 1) := by decide +kernel
theorem dX6_prepare_58 : decode cX6_prepare 58 = .ok (.getfield 18, 3) := by decide +kernel
theorem dX6_prepare_61 : decode cX6_prepare 61 = .ok (.aload_n 1, 1) := by decide +kernel
theorem dX6_prepare_62 : decode cX6_prepare 62 = .ok (.invokevirtual 38, 3) := by decide +kernel
theorem dX6_prepare_65 : decode cX6_prepare 65 = .ok (.aload_n 0, 1) := by decide +kernel
theorem dX6_prepare_66 : decode cX6_prepare 66 = .ok (.iconst 1, 1) := by decide +kernel
theorem dX6_prepare_67 : decode cX6_prepare 67 = .ok (.putfield 22, 3) := by decide +kernel
theorem dX6_prepare_70 : decode cX6_prepare 70 = .ok (.return_, 1) := by decide +kernel
set_option maxRecDepth 20000 in
theorem ggX6_waysOn_X3_isReady : GoodIn wsX6_waysOn wsX3_isReady := goodIn_r _ [7, 8, 9, 10, 11, 12, 13, 14, 15, 16, 17, 18] (by decide +kernel) (by decide +kernel)
set_option maxRecDepth 20000 in
theorem gX6_waysOn_X3_isReady : GoodIn wsX6_waysOn (wsV RX6 46 RX3 yX3_isReady wsX3_isReady) := goodIn_app (goodIn_of _ (by decide +kernel)) ggX6_waysOn_X3_isReady
theorem dX6_waysOn_0 : decode cX6_waysOn 0 = .ok (.lconst 0, 1) := by decide +kernel
theorem dX6_waysOn_1 : decode cX6_waysOn 1 = .ok (.lstore_n 3, 1) := by decide +kernel
theorem dX6_waysOn_2 : decode cX6_waysOn 2 = .ok (.iconst 0, 1) := by decide +kernel
theorem dX6_waysOn_3 : decode cX6_waysOn 3 = .ok (.istore 5, 2) := by decide +kernel
theorem dX6_waysOn_5 : decode cX6_waysOn 5 = .ok (.iload 5, 2) := by decide +kernel
theorem dX6_waysOn_7 : decode cX6_waysOn 7 = .ok (.aload_n 1, 1) := by decide +kernel
theorem dX6_waysOn_8 : decode cX6_waysOn 8 = .ok (.getfield 42, 3) := by decide +kernel
theorem dX6_waysOn_11 : decode cX6_waysOn 11 = .ok (.if_icmp .ge 33, 3) := by decide +kernel
theorem dX6_waysOn_14 : decode cX6_waysOn 14 = .ok (.aload_n 1, 1) := by decide +kernel
theorem dX6_waysOn_15 : decode cX6_waysOn 15 = .ok (.iload 5, 2) := by decide +kernel
theorem dX6_waysOn_17 : decode cX6_waysOn 17 = .ok (.iload_n 2, 1) := by decide +kernel
theorem dX6_waysOn_18 : decode cX6_waysOn 18 = .ok (.invokevirtual 46, 3) := by decide +kernel
theorem dX6_waysOn_21 : decode cX6_waysOn 21 = .ok (.ifCond .eq 17, 3) := by decide +kernel
theorem dX6_waysOn_24 : decode cX6_waysOn 24 = .ok (.lload_n 3, 1) := by decide +kernel
theorem dX6_waysOn_25 : decode cX6_waysOn 25 = .ok (.aload_n 0, 1) := by decide +kernel
theorem dX6_waysOn_26 : decode cX6_waysOn 26 = .ok (.getfield 9, 3) := by decide +kernel
theorem dX6_waysOn_29 : decode cX6_waysOn 29 = .ok (.iload_n 2, 1) := by decide +kernel
theorem dX6_waysOn_30 : decode cX6_waysOn 30 = .ok (.iconst 1, 1) := by decide +kernel
theorem dX6_waysOn_31 : decode cX6_waysOn 31 = .ok (.iload 5, 2) := by decide +kernel
theorem dX6_waysOn_33 : decode cX6_waysOn 33 = .ok (.ishl, 1) := by decide +kernel
theorem dX6_waysOn_34 : decode cX6_waysOn 34 = .ok (.ior, 1) := by decide +kernel
theorem dX6_waysOn_35 : decode cX6_waysOn 35 = .ok (.laload, 1) := by decide +kernel
theorem dX6_waysOn_36 : decode cX6_waysOn 36 = .ok (.ladd, 1) := by decide +kernel
theorem dX6_waysOn_37 : decode cX6_waysOn 37 = .ok (.lstore_n 3, 1) := by decide +kernel
theorem dX6_waysOn_38 : decode cX6_waysOn 38 = .ok (.iinc 5 1, 3) := by decide +kernel
theorem dX6_waysOn_41 : decode cX6_waysOn 41 = .ok (.goto (-36), 3) := by decide +kernel
theorem dX6_waysOn_44 : decode cX6_waysOn 44 = .ok (.lload_n 3, 1) := by decide +kernel
theorem dX6_waysOn_45 : decode cX6_waysOn 45 = .ok (.lreturn, 1) := by decide +kernel
set_option maxRecDepth 20000 in
theorem ggX6_all_X6_prepare : GoodIn wsX6_all wsX6_prepare := goodIn_r _ [6, 7, 8, 1, 9, 10, 11, 12, 13, 14, 15, 16, 17, 18, 19, 20, 21, 22, 5, 23, 24, 25, 26, 27, 28, 29, 30, 31, 32, 33, 34, 35, 36, 37, 38, 39, 40, 41, 42, 43, 44, 45, 46, 47, 48, 49, 50, 51, 52, 53] (by decide +kernel) (by decide +kernel)
set_option maxRecDepth 20000 in
theorem gX6_all_X6_prepare : GoodIn wsX6_all (wsV RX6 50 RX6 yX6_prepare wsX6_prepare) := goodIn_app (goodIn_of _ (by decide +kernel)) ggX6_all_X6_prepare
theorem dX6_all_0 : decode cX6_all 0 = .ok (.aload_n 0, 1) := by decide +kernel
theorem dX6_all_1 : decode cX6_all 1 = .ok (.aload_n 1, 1) := by decide +kernel
theorem dX6_all_2 : decode cX6_all 2 = .ok (.invokevirtual 50, 3) := by decide +kernel
theorem dX6_all_5 : decode cX6_all 5 = .ok (.aload_n 0, 1) := by decide +kernel
theorem dX6_all_6 : decode cX6_all 6 = .ok (.getfield 9, 3) := by decide +kernel
theorem dX6_all_9 : decode cX6_all 9 = .ok (.iconst 0, 1) := by decide +kernel
theorem dX6_all_10 : decode cX6_all 10 = .ok (.laload, 1) := by decide +kernel
theorem dX6_all_11 : decode cX6_all 11 = .ok (.lreturn, 1) := by decide +kernel
set_option maxRecDepth 20000 in
theorem ggX6_rank_X6_prepare : GoodIn wsX6_rank wsX6_prepare := goodIn_r _ [8, 9, 10, 3, 11, 12, 13, 14, 15, 16, 17, 18, 19, 20, 21, 22, 23, 24, 7, 25, 1, 26, 27, 28, 29, 30, 31, 32, 33, 34, 35, 36, 37, 38, 39, 40, 41, 42, 43, 44, 52, 53, 54, 45, 46, 47, 48, 49, 50, 51] (by decide +kernel) (by decide +kernel)
set_option maxRecDepth 20000 in
theorem gX6_rank_X6_prepare : GoodIn wsX6_rank (wsV RX6 50 RX6 yX6_prepare wsX6_prepare) := goodIn_app (goodIn_of _ (by decide +kernel)) ggX6_rank_X6_prepare
set_option maxRecDepth 20000 in
theorem ggX6_rank_X3_isReady : GoodIn wsX6_rank wsX3_isReady := goodIn_r _ [29, 30, 31, 32, 33, 45, 46, 47, 48, 49, 50, 51] (by decide +kernel) (by decide +kernel)
set_option maxRecDepth 20000 in
theorem gX6_rank_X3_isReady : GoodIn wsX6_rank (wsV RX6 46 RX3 yX3_isReady wsX3_isReady) := goodIn_app (goodIn_of _ (by decide +kernel)) ggX6_rank_X3_isReady
theorem dX6_rank_0 : decode cX6_rank 0 = .ok (.aload_n 0, 1) := by decide +kernel
theorem dX6_rank_1 : decode cX6_rank 1 = .ok (.aload_n 1, 1) := by decide +kernel
theorem dX6_rank_2 : decode cX6_rank 2 = .ok (.invokevirtual 50, 3) := by decide +kernel
theorem dX6_rank_5 : decode cX6_rank 5 = .ok (.lconst 0, 1) := by decide +kernel
theorem dX6_rank_6 : decode cX6_rank 6 = .ok (.lstore_n 2, 1) := by decide +kernel
theorem dX6_rank_7 : decode cX6_rank 7 = .ok (.iconst 0, 1) := by decide +kernel
theorem dX6_rank_8 : decode cX6_rank 8 = .ok (.istore 4, 2) := by decide +kernel
theorem dX6_rank_10 : decode cX6_rank 10 = .ok (.iconst 0, 1) := by decide +kernel
theorem dX6_rank_11 : decode cX6_rank 11 = .ok (.istore 5, 2) := by decide +kernel
theorem dX6_rank_13 : decode cX6_rank 13 = .ok (.iload 5, 2) := by decide +kernel
theorem dX6_rank_15 : decode cX6_rank 15 = .ok (.aload_n 1, 1) := by decide +kernel
theorem dX6_rank_16 : decode cX6_rank 16 = .ok (.getfield 42, 3) := by decide +kernel
theorem dX6_rank_19 : decode cX6_rank 19 = .ok (.if_icmp .ge 69, 3) := by decide +kernel
theorem dX6_rank_22 : decode cX6_rank 22 = .ok (.aload_n 1, 1) := by decide +kernel
theorem dX6_rank_23 : decode cX6_rank 23 = .ok (.getfield 53, 3) := by decide +kernel
theorem dX6_rank_26 : decode cX6_rank 26 = .ok (.iload 5, 2) := by decide +kernel
theorem dX6_rank_28 : decode cX6_rank 28 = .ok (.iaload, 1) := by decide +kernel
theorem dX6_rank_29 : decode cX6_rank 29 = .ok (.istore 6, 2) := by decide +kernel
theorem dX6_rank_31 : decode cX6_rank 31 = .ok (.iconst 0, 1) := by decide +kernel
theorem dX6_rank_32 : decode cX6_rank 32 = .ok (.istore 7, 2) := by decide +kernel
theorem dX6_rank_34 : decode cX6_rank 34 = .ok (.iload 7, 2) := by decide +kernel
theorem dX6_rank_36 : decode cX6_rank 36 = .ok (.iload 6, 2) := by decide +kernel
theorem dX6_rank_38 : decode cX6_rank 38 = .ok (.if_icmp .ge 35, 3) := by decide +kernel
theorem dX6_rank_41 : decode cX6_rank 41 = .ok (.aload_n 1, 1) := by decide +kernel
theorem dX6_rank_42 : decode cX6_rank 42 = .ok (.iload 7, 2) := by decide +kernel
theorem dX6_rank_44 : decode cX6_rank 44 = .ok (.iload 4, 2) := by decide +kernel
theorem dX6_rank_46 : decode cX6_rank 46 = .ok (.invokevirtual 46, 3) := by decide +kernel
theorem dX6_rank_49 : decode cX6_rank 49 = .ok (.ifCond .eq 18, 3) := by decide +kernel
theorem dX6_rank_52 : decode cX6_rank 52 = .ok (.lload_n 2, 1) := by decide +kernel
theorem dX6_rank_53 : decode cX6_rank 53 = .ok (.aload_n 0, 1) := by decide +kernel
theorem dX6_rank_54 : decode cX6_rank 54 = .ok (.getfield 9, 3) := by decide +kernel
theorem dX6_rank_57 : decode cX6_rank 57 = .ok (.iload 4, 2) := by decide +kernel
theorem dX6_rank_59 : decode cX6_rank 59 = .ok (.iconst 1, 1) := by decide +kernel
theorem dX6_rank_60 : decode cX6_rank 60 = .ok (.iload 7, 2) := by decide +kernel
theorem dX6_rank_62 : decode cX6_rank 62 = .ok (.ishl, 1) := by decide +kernel
theorem dX6_rank_63 : decode cX6_rank 63 = .ok (.ior, 1) := by decide +kernel
theorem dX6_rank_64 : decode cX6_rank 64 = .ok (.laload, 1) := by decide +kernel
theorem dX6_rank_65 : decode cX6_rank 65 = .ok (.ladd, 1) := by decide +kernel
theorem dX6_rank_66 : decode cX6_rank 66 = .ok (.lstore_n 2, 1) := by decide +kernel
theorem dX6_rank_67 : decode cX6_rank 67 = .ok (.iinc 7 1, 3) := by decide +kernel
theorem dX6_rank_70 : decode cX6_rank 70 = .ok (.goto (-36), 3) := by decide +kernel
theorem dX6_rank_73 : decode cX6_rank 73 = .ok (.iload 4, 2) := by decide +kernel
theorem dX6_rank_75 : decode cX6_rank 75 = .ok (.iconst 1, 1) := by decide +kernel
theorem dX6_rank_76 : decode cX6_rank 76 = .ok (.iload 6, 2) := by decide +kernel
theorem dX6_rank_78 : decode cX6_rank 78 = .ok (.ishl, 1) := by decide +kernel
theorem dX6_rank_79 : decode cX6_rank 79 = .ok (.ior, 1) := by decide +kernel
theorem dX6_rank_80 : decode cX6_rank 80 = .ok (.istore 4, 2) := by decide +kernel
theorem dX6_rank_82 : decode cX6_rank 82 = .ok (.iinc 5 1, 3) := by decide +kernel
theorem dX6_rank_85 : decode cX6_rank 85 = .ok (.goto (-72), 3) := by decide +kernel
theorem dX6_rank_88 : decode cX6_rank 88 = .ok (.lload_n 2, 1) := by decide +kernel
theorem dX6_rank_89 : decode cX6_rank 89 = .ok (.lreturn, 1) := by decide +kernel
set_option maxRecDepth 20000 in
theorem ggX6_itemOf_X6_all : GoodIn wsX6_itemOf wsX6_all := goodIn_r _ [7, 2, 8, 9, 10, 6, 11, 12, 13, 14, 15, 16, 17, 18, 19, 20, 21, 22, 23, 24, 25, 26, 27, 28, 1, 29, 30, 31, 32, 33, 34, 35, 36, 37, 38, 39, 40, 41, 42, 43, 44, 45, 46, 47, 55, 56, 57, 48, 49, 50, 51, 52, 53, 54] (by decide +kernel) (by decide +kernel)
set_option maxRecDepth 20000 in
theorem gX6_itemOf_X6_all : GoodIn wsX6_itemOf (wsV RX6 57 RX6 yX6_all wsX6_all) := goodIn_app (goodIn_of _ (by decide +kernel)) ggX6_itemOf_X6_all
set_option maxRecDepth 20000 in
theorem ggX6_itemOf_X3_isReady : GoodIn wsX6_itemOf wsX3_isReady := goodIn_r _ [32, 33, 34, 35, 36, 48, 49, 50, 51, 52, 53, 54] (by decide +kernel) (by decide +kernel)
set_option maxRecDepth 20000 in
theorem gX6_itemOf_X3_isReady : GoodIn wsX6_itemOf (wsV RX6 46 RX3 yX3_isReady wsX3_isReady) := goodIn_app (goodIn_of _ (by decide +kernel)) ggX6_itemOf_X3_isReady
theorem dX6_itemOf_0 : decode cX6_itemOf 0 = .ok (.lload_n 2, 1) := by decide +kernel
theorem dX6_itemOf_1 : decode cX6_itemOf 1 = .ok (.aload_n 0, 1) := by decide +kernel
theorem dX6_itemOf_2 : decode cX6_itemOf 2 = .ok (.aload_n 1, 1) := by decide +kernel
theorem dX6_itemOf_3 : decode cX6_itemOf 3 = .ok (.invokevirtual 57, 3) := by decide +kernel
theorem dX6_itemOf_6 : decode cX6_itemOf 6 = .ok (.lcmp, 1) := by decide +kernel
theorem dX6_itemOf_7 : decode cX6_itemOf 7 = .ok (.ifCond .lt 6, 3) := by decide +kernel
theorem dX6_itemOf_10 : decode cX6_itemOf 10 = .ok (.bipush (-9), 2) := by decide +kernel
theorem dX6_itemOf_12 : decode cX6_itemOf 12 = .ok (.ireturn, 1) := by decide +kernel
theorem dX6_itemOf_13 : decode cX6_itemOf 13 = .ok (.lload_n 2, 1) := by decide +kernel
theorem dX6_itemOf_14 : decode cX6_itemOf 14 = .ok (.lstore 5, 2) := by decide +kernel
theorem dX6_itemOf_16 : decode cX6_itemOf 16 = .ok (.iconst 0, 1) := by decide +kernel
theorem dX6_itemOf_17 : decode cX6_itemOf 17 = .ok (.istore 7, 2) := by decide +kernel
theorem dX6_itemOf_19 : decode cX6_itemOf 19 = .ok (.bipush (-9), 2) := by decide +kernel
theorem dX6_itemOf_21 : decode cX6_itemOf 21 = .ok (.istore 8, 2) := by decide +kernel
theorem dX6_itemOf_23 : decode cX6_itemOf 23 = .ok (.iconst 0, 1) := by decide +kernel
theorem dX6_itemOf_24 : decode cX6_itemOf 24 = .ok (.istore 9, 2) := by decide +kernel
theorem dX6_itemOf_26 : decode cX6_itemOf 26 = .ok (.iload 9, 2) := by decide +kernel
theorem dX6_itemOf_28 : decode cX6_itemOf 28 = .ok (.iload 4, 2) := by decide +kernel
theorem dX6_itemOf_30 : decode cX6_itemOf 30 = .ok (.if_icmp .gt 92, 3) := by decide +kernel
theorem dX6_itemOf_33 : decode cX6_itemOf 33 = .ok (.iconst 0, 1) := by decide +kernel
theorem dX6_itemOf_34 : decode cX6_itemOf 34 = .ok (.istore 10, 2) := by decide +kernel
theorem dX6_itemOf_36 : decode cX6_itemOf 36 = .ok (.iload 10, 2) := by decide +kernel
theorem dX6_itemOf_38 : decode cX6_itemOf 38 = .ok (.aload_n 1, 1) := by decide +kernel
theorem dX6_itemOf_39 : decode cX6_itemOf 39 = .ok (.getfield 42, 3) := by decide +kernel
theorem dX6_itemOf_42 : decode cX6_itemOf 42 = .ok (.if_icmp .ge 74, 3) := by decide +kernel
theorem dX6_itemOf_45 : decode cX6_itemOf 45 = .ok (.aload_n 1, 1) := by decide +kernel
theorem dX6_itemOf_46 : decode cX6_itemOf 46 = .ok (.iload 10, 2) := by decide +kernel
theorem dX6_itemOf_48 : decode cX6_itemOf 48 = .ok (.iload 7, 2) := by decide +kernel
theorem dX6_itemOf_50 : decode cX6_itemOf 50 = .ok (.invokevirtual 46, 3) := by decide +kernel
theorem dX6_itemOf_53 : decode cX6_itemOf 53 = .ok (.ifCond .ne 6, 3) := by decide +kernel
theorem dX6_itemOf_56 : decode cX6_itemOf 56 = .ok (.goto 54, 3) := by decide +kernel
theorem dX6_itemOf_59 : decode cX6_itemOf 59 = .ok (.lload 5, 2) := by decide +kernel
theorem dX6_itemOf_61 : decode cX6_itemOf 61 = .ok (.aload_n 0, 1) := by decide +kernel
theorem dX6_itemOf_62 : decode cX6_itemOf 62 = .ok (.getfield 9, 3) := by decide +kernel
theorem dX6_itemOf_65 : decode cX6_itemOf 65 = .ok (.iload 7, 2) := by decide +kernel
theorem dX6_itemOf_67 : decode cX6_itemOf 67 = .ok (.iconst 1, 1) := by decide +kernel
theorem dX6_itemOf_68 : decode cX6_itemOf 68 = .ok (.iload 10, 2) := by decide +kernel
theorem dX6_itemOf_70 : decode cX6_itemOf 70 = .ok (.ishl, 1) := by decide +kernel
theorem dX6_itemOf_71 : decode cX6_itemOf 71 = .ok (.ior, 1) := by decide +kernel
theorem dX6_itemOf_72 : decode cX6_itemOf 72 = .ok (.laload, 1) := by decide +kernel
theorem dX6_itemOf_73 : decode cX6_itemOf 73 = .ok (.lcmp, 1) := by decide +kernel
theorem dX6_itemOf_74 : decode cX6_itemOf 74 = .ok (.ifCond .ge 19, 3) := by decide +kernel
theorem dX6_itemOf_77 : decode cX6_itemOf 77 = .ok (.iload 10, 2) := by decide +kernel
theorem dX6_itemOf_79 : decode cX6_itemOf 79 = .ok (.istore 8, 2) := by decide +kernel
theorem dX6_itemOf_81 : decode cX6_itemOf 81 = .ok (.iload 7, 2) := by decide +kernel
theorem dX6_itemOf_83 : decode cX6_itemOf 83 = .ok (.iconst 1, 1) := by decide +kernel
theorem dX6_itemOf_84 : decode cX6_itemOf 84 = .ok (.iload 10, 2) := by decide +kernel
theorem dX6_itemOf_86 : decode cX6_itemOf 86 = .ok (.ishl, 1) := by decide +kernel
theorem dX6_itemOf_87 : decode cX6_itemOf 87 = .ok (.ior, 1) := by decide +kernel
theorem dX6_itemOf_88 : decode cX6_itemOf 88 = .ok (.istore 7, 2) := by decide +kernel
theorem dX6_itemOf_90 : decode cX6_itemOf 90 = .ok (.goto 26, 3) := by decide +kernel
theorem dX6_itemOf_93 : decode cX6_itemOf 93 = .ok (.lload 5, 2) := by decide +kernel
theorem dX6_itemOf_95 : decode cX6_itemOf 95 = .ok (.aload_n 0, 1) := by decide +kernel
theorem dX6_itemOf_96 : decode cX6_itemOf 96 = .ok (.getfield 9, 3) := by decide +kernel
theorem dX6_itemOf_99 : decode cX6_itemOf 99 = .ok (.iload 7, 2) := by decide +kernel
theorem dX6_itemOf_101 : decode cX6_itemOf 101 = .ok (.iconst 1, 1) := by decide +kernel
theorem dX6_itemOf_102 : decode cX6_itemOf 102 = .ok (.iload 10, 2) := by decide +kernel
theorem dX6_itemOf_104 : decode cX6_itemOf 104 = .ok (.ishl, 1) := by decide +kernel
theorem dX6_itemOf_105 : decode cX6_itemOf 105 = .ok (.ior, 1) := by decide +kernel
theorem dX6_itemOf_106 : decode cX6_itemOf 106 = .ok (.laload, 1) := by decide +kernel
theorem dX6_itemOf_107 : decode cX6_itemOf 107 = .ok (.lsub, 1) := by decide +kernel
theorem dX6_itemOf_108 : decode cX6_itemOf 108 = .ok (.lstore 5, 2) := by decide +kernel
theorem dX6_itemOf_110 : decode cX6_itemOf 110 = .ok (.iinc 10 1, 3) := by decide +kernel
theorem dX6_itemOf_113 : decode cX6_itemOf 113 = .ok (.goto (-77), 3) := by decide +kernel
theorem dX6_itemOf_116 : decode cX6_itemOf 116 = .ok (.iinc 9 1, 3) := by decide +kernel
theorem dX6_itemOf_119 : decode cX6_itemOf 119 = .ok (.goto (-93), 3) := by decide +kernel
theorem dX6_itemOf_122 : decode cX6_itemOf 122 = .ok (.iload 8, 2) := by decide +kernel
theorem dX6_itemOf_124 : decode cX6_itemOf 124 = .ok (.ireturn, 1) := by decide +kernel
theorem dX7_init_0 : decode cX7_init 0 = .ok (.aload_n 0, 1) := by decide +kernel
theorem dX7_init_1 : decode cX7_init 1 = .ok (.invokespecial 3, 3) := by decide +kernel
theorem dX7_init_4 : decode cX7_init 4 = .ok (.aload_n 0, 1) := by decide +kernel
theorem dX7_init_5 : decode cX7_init 5 = .ok (.bipush 120, 2) := by decide +kernel
theorem dX7_init_7 : decode cX7_init 7 = .ok (.newarray .int, 2) := by decide +kernel
theorem dX7_init_9 : decode cX7_init 9 = .ok (.putfield 9, 3) := by decide +kernel
theorem dX7_init_12 : decode cX7_init 12 = .ok (.return_, 1) := by decide +kernel
theorem dX7_append_0 : decode cX7_append 0 = .ok (.aload_n 0, 1) := by decide +kernel
theorem dX7_append_1 : decode cX7_append 1 = .ok (.getfield 15, 3) := by decide +kernel
theorem dX7_append_4 : decode cX7_append 4 = .ok (.bipush 120, 2) := by decide +kernel
theorem dX7_append_6 : decode cX7_append 6 = .ok (.if_icmp .lt 5, 3) := by decide +kernel
theorem dX7_append_9 : decode cX7_append 9 = .ok (.iconst 0, 1) := by decide +kernel
theorem dX7_append_10 : decode cX7_append 10 = .ok (.ireturn, 1) := by decide +kernel
theorem dX7_append_11 : decode cX7_append 11 = .ok (.aload_n 0, 1) := by decide +kernel
theorem dX7_append_12 : decode cX7_append 12 = .ok (.getfield 9, 3) := by decide +kernel
theorem dX7_append_15 : decode cX7_append 15 = .ok (.aload_n 0, 1) := by decide +kernel
theorem dX7_append_16 : decode cX7_append 16 = .ok (.getfield 15, 3) := by decide +kernel
theorem dX7_append_19 : decode cX7_append 19 = .ok (.iload_n 1, 1) := by decide +kernel
theorem dX7_append_20 : decode cX7_append 20 = .ok (.iastore, 1) := by decide +kernel
theorem dX7_append_21 : decode cX7_append 21 = .ok (.aload_n 0, 1) := by decide +kernel
theorem dX7_append_22 : decode cX7_append 22 = .ok (.dup, 1) := by decide +kernel
theorem dX7_append_23 : decode cX7_append 23 = .ok (.getfield 15, 3) := by decide +kernel
theorem dX7_append_26 : decode cX7_append 26 = .ok (.iconst 1, 1) := by decide +kernel
theorem dX7_append_27 : decode cX7_append 27 = .ok (.iadd, 1) := by decide +kernel
theorem dX7_append_28 : decode cX7_append 28 = .ok (.putfield 15, 3) := by decide +kernel
theorem dX7_append_31 : decode cX7_append 31 = .ok (.iconst 1, 1) := by decide +kernel
theorem dX7_append_32 : decode cX7_append 32 = .ok (.ireturn, 1) := by decide +kernel
set_option maxRecDepth 20000 in
theorem ggX7_readInto_X3_begin : GoodIn wsX7_readInto wsX3_begin := goodIn_r _ [8, 9, 10, 11, 12, 13, 14, 121, 122, 123, 124, 125, 126, 127] (by decide +kernel) (by decide +kernel)
set_option maxRecDepth 20000 in
theorem gX7_readInto_X3_begin : GoodIn wsX7_readInto (wsV RX7 19 RX3 yX3_begin wsX3_begin) := goodIn_app (goodIn_of _ (by decide +kernel)) ggX7_readInto_X3_begin
set_option maxRecDepth 20000 in
theorem ggX7_readInto_X7_nextToken : GoodIn wsX7_readInto wsX7_nextToken := goodIn_r _ [19, 1, 3, 20, 21, 2, 22, 23, 24, 18, 25, 26, 27, 28, 29, 30, 31, 32, 33, 34, 115, 116, 117, 118, 119, 120] (by decide +kernel) (by decide +kernel)
set_option maxRecDepth 20000 in
theorem gX7_readInto_X7_nextToken : GoodIn wsX7_readInto (wsV RX7 28 RX7 yX7_nextToken wsX7_nextToken) := goodIn_app (goodIn_of _ (by decide +kernel)) ggX7_readInto_X7_nextToken
set_option maxRecDepth 20000 in
theorem ggX7_readInto_X7_readEntry : GoodIn wsX7_readInto wsX7_readEntry := goodIn_r _ [38, 2, 39, 40, 41, 18, 42, 30, 43, 44, 45, 46, 15, 16, 17, 19, 1, 3, 20, 21, 22, 23, 24, 25, 26, 27, 28, 29, 31, 32, 33, 34, 4, 5, 6, 7, 8, 9, 10, 11, 12, 13, 14, 47, 48, 49, 50, 51, 52, 53, 54, 55, 56, 57, 58, 59, 60, 61, 62, 63, 64, 65, 66, 67, 68, 69, 70, 71, 72, 73, 74, 75, 76, 77, 78, 79, 80, 81, 82, 83, 84, 85, 86, 87, 88, 89, 90, 91, 92, 93, 94, 95, 96, 97, 98, 99, 100, 101, 102, 103, 104, 105, 106, 107, 108, 109, 110, 111, 112, 113, 114, 115, 116, 117, 118, 119, 120, 121, 122, 123, 124, 125, 126, 127] (by decide +kernel) (by decide +kernel)
set_option maxRecDepth 20000 in
theorem gX7_readInto_X7_readEntry : GoodIn wsX7_readInto (wsV RX7 35 RX7 yX7_readEntry wsX7_readEntry) := goodIn_app (goodIn_of _ (by decide +kernel)) ggX7_readInto_X7_readEntry
theorem dX7_readInto_0 : decode cX7_readInto 0 = .ok (.aload_n 1, 1) := by decide +kernel
theorem dX7_readInto_1 : decode cX7_readInto 1 = .ok (.iconst 4, 1) := by decide +kernel
theorem dX7_readInto_2 : decode cX7_readInto 2 = .ok (.invokevirtual 19, 3) := by decide +kernel
theorem dX7_readInto_5 : decode cX7_readInto 5 = .ok (.aload_n 0, 1) := by decide +kernel
theorem dX7_readInto_6 : decode cX7_readInto 6 = .ok (.iconst 0, 1) := by decide +kernel
theorem dX7_readInto_7 : decode cX7_readInto 7 = .ok (.putfield 25, 3) := by decide +kernel
theorem dX7_readInto_10 : decode cX7_readInto 10 = .ok (.iconst 0, 1) := by decide +kernel
theorem dX7_readInto_11 : decode cX7_readInto 11 = .ok (.istore_n 2, 1) := by decide +kernel
theorem dX7_readInto_12 : decode cX7_readInto 12 = .ok (.iconst 0, 1) := by decide +kernel
theorem dX7_readInto_13 : decode cX7_readInto 13 = .ok (.istore_n 3, 1) := by decide +kernel
theorem dX7_readInto_14 : decode cX7_readInto 14 = .ok (.iload_n 3, 1) := by decide +kernel
theorem dX7_readInto_15 : decode cX7_readInto 15 = .ok (.bipush 120, 2) := by decide +kernel
theorem dX7_readInto_17 : decode cX7_readInto 17 = .ok (.if_icmp .gt 53, 3) := by decide +kernel
theorem dX7_readInto_20 : decode cX7_readInto 20 = .ok (.aload_n 0, 1) := by decide +kernel
theorem dX7_readInto_21 : decode cX7_readInto 21 = .ok (.invokevirtual 28, 3) := by decide +kernel
theorem dX7_readInto_24 : decode cX7_readInto 24 = .ok (.aload_n 0, 1) := by decide +kernel
theorem dX7_readInto_25 : decode cX7_readInto 25 = .ok (.getfield 31, 3) := by decide +kernel
theorem dX7_readInto_28 : decode cX7_readInto 28 = .ok (.bipush 101, 2) := by decide +kernel
theorem dX7_readInto_30 : decode cX7_readInto 30 = .ok (.if_icmp .ne 6, 3) := by decide +kernel
theorem dX7_readInto_33 : decode cX7_readInto 33 = .ok (.goto 37, 3) := by decide +kernel
theorem dX7_readInto_36 : decode cX7_readInto 36 = .ok (.aload_n 0, 1) := by decide +kernel
theorem dX7_readInto_37 : decode cX7_readInto 37 = .ok (.aload_n 1, 1) := by decide +kernel
theorem dX7_readInto_38 : decode cX7_readInto 38 = .ok (.iload_n 2, 1) := by decide +kernel
theorem dX7_readInto_39 : decode cX7_readInto 39 = .ok (.ifCond .ne 7, 3) := by decide +kernel
theorem dX7_readInto_42 : decode cX7_readInto 42 = .ok (.iconst 1, 1) := by decide +kernel
theorem dX7_readInto_43 : decode cX7_readInto 43 = .ok (.goto 4, 3) := by decide +kernel
theorem dX7_readInto_46 : decode cX7_readInto 46 = .ok (.iconst 0, 1) := by decide +kernel
theorem dX7_readInto_47 : decode cX7_readInto 47 = .ok (.invokevirtual 35, 3) := by decide +kernel
theorem dX7_readInto_50 : decode cX7_readInto 50 = .ok (.ifCond .ne 11, 3) := by decide +kernel
theorem dX7_readInto_53 : decode cX7_readInto 53 = .ok (.bipush (-10), 2) := by decide +kernel
theorem dX7_readInto_55 : decode cX7_readInto 55 = .ok (.aload_n 0, 1) := by decide +kernel
theorem dX7_readInto_56 : decode cX7_readInto 56 = .ok (.getfield 39, 3) := by decide +kernel
theorem dX7_readInto_59 : decode cX7_readInto 59 = .ok (.isub, 1) := by decide +kernel
theorem dX7_readInto_60 : decode cX7_readInto 60 = .ok (.ireturn, 1) := by decide +kernel
theorem dX7_readInto_61 : decode cX7_readInto 61 = .ok (.iinc 2 1, 3) := by decide +kernel
theorem dX7_readInto_64 : decode cX7_readInto 64 = .ok (.iinc 3 1, 3) := by decide +kernel
theorem dX7_readInto_67 : decode cX7_readInto 67 = .ok (.goto (-53), 3) := by decide +kernel
theorem dX7_readInto_70 : decode cX7_readInto 70 = .ok (.iload_n 2, 1) := by decide +kernel
theorem dX7_readInto_71 : decode cX7_readInto 71 = .ok (.ireturn, 1) := by decide +kernel
set_option maxRecDepth 20000 in
theorem ggX7_readEntry_X7_readItems : GoodIn wsX7_readEntry wsX7_readItems := goodIn_r _ [6, 7, 8, 9, 10, 5, 11, 1, 12, 13, 14, 15, 16, 17, 18, 19, 20, 21, 22, 23, 24, 25, 26, 27, 28, 29, 30, 31, 32, 33, 34, 35, 36, 37, 38, 39, 40, 41, 42, 111, 112, 113, 114, 115, 116, 117, 118, 119, 120, 121, 122, 123] (by decide +kernel) (by decide +kernel)
set_option maxRecDepth 20000 in
theorem gX7_readEntry_X7_readItems : GoodIn wsX7_readEntry (wsV RX7 42 RX7 yX7_readItems wsX7_readItems) := goodIn_app (goodIn_of _ (by decide +kernel)) ggX7_readEntry_X7_readItems
set_option maxRecDepth 20000 in
theorem ggX7_readEntry_X7_readArc : GoodIn wsX7_readEntry wsX7_readArc := goodIn_r _ [46, 47, 7, 8, 9, 10, 5, 11, 1, 12, 13, 14, 15, 16, 17, 18, 19, 20, 21, 22, 23, 24, 25, 26, 27, 28, 29, 30, 31, 48, 49, 50, 35, 51, 52, 53, 54, 55, 56, 57, 58, 59, 37, 60, 61, 62, 63, 39, 64, 65, 66, 67, 68, 69, 70, 42, 71, 72, 73, 74, 41, 40, 75, 76, 77, 78, 38, 79, 80, 81, 82, 83, 84, 85, 86, 87, 88, 89, 90, 91, 92, 93, 94, 95, 96, 97, 98, 99, 100, 101, 102, 103, 104, 105, 106, 107, 108, 109, 110, 117, 118, 119, 120, 121, 122, 123, 111, 112, 113, 114, 115, 116] (by decide +kernel) (by decide +kernel)
set_option maxRecDepth 20000 in
theorem gX7_readEntry_X7_readArc : GoodIn wsX7_readEntry (wsV RX7 46 RX7 yX7_readArc wsX7_readArc) := goodIn_app (goodIn_of _ (by decide +kernel)) ggX7_readEntry_X7_readArc
set_option maxRecDepth 20000 in
theorem ggX7_readEntry_X7_nextToken : GoodIn wsX7_readEntry wsX7_nextToken := goodIn_r _ [15, 16, 17, 18, 19, 1, 20, 21, 22, 5, 23, 24, 25, 26, 27, 7, 28, 29, 30, 31, 111, 112, 113, 114, 115, 116] (by decide +kernel) (by decide +kernel)
set_option maxRecDepth 20000 in
theorem gX7_readEntry_X7_nextToken : GoodIn wsX7_readEntry (wsV RX7 28 RX7 yX7_nextToken wsX7_nextToken) := goodIn_app (goodIn_of _ (by decide +kernel)) ggX7_readEntry_X7_nextToken
theorem dX7_readEntry_0 : decode cX7_readEntry 0 = .ok (.iconst 0, 1) := by decide +kernel
theorem dX7_readEntry_1 : decode cX7_readEntry 1 = .ok (.istore_n 3, 1) := by decide +kernel
theorem dX7_readEntry_2 : decode cX7_readEntry 2 = .ok (.aload_n 0, 1) := by decide +kernel
theorem dX7_readEntry_3 : decode cX7_readEntry 3 = .ok (.getfield 31, 3) := by decide +kernel
theorem dX7_readEntry_6 : decode cX7_readEntry 6 = .ok (.bipush 110, 2) := by decide +kernel
theorem dX7_readEntry_8 : decode cX7_readEntry 8 = .ok (.if_icmp .ne 24, 3) := by decide +kernel
theorem dX7_readEntry_11 : decode cX7_readEntry 11 = .ok (.iload_n 2, 1) := by decide +kernel
theorem dX7_readEntry_12 : decode cX7_readEntry 12 = .ok (.ifCond .eq 15, 3) := by decide +kernel
theorem dX7_readEntry_15 : decode cX7_readEntry 15 = .ok (.aload_n 0, 1) := by decide +kernel
theorem dX7_readEntry_16 : decode cX7_readEntry 16 = .ok (.aload_n 1, 1) := by decide +kernel
theorem dX7_readEntry_17 : decode cX7_readEntry 17 = .ok (.invokevirtual 42, 3) := by decide +kernel
theorem dX7_readEntry_20 : decode cX7_readEntry 20 = .ok (.ifCond .eq 7, 3) := by decide +kernel
theorem dX7_readEntry_23 : decode cX7_readEntry 23 = .ok (.iconst 1, 1) := by decide +kernel
theorem dX7_readEntry_24 : decode cX7_readEntry 24 = .ok (.goto 4, 3) := by decide +kernel
theorem dX7_readEntry_27 : decode cX7_readEntry 27 = .ok (.iconst 0, 1) := by decide +kernel
theorem dX7_readEntry_28 : decode cX7_readEntry 28 = .ok (.istore_n 3, 1) := by decide +kernel
theorem dX7_readEntry_29 : decode cX7_readEntry 29 = .ok (.goto 18, 3) := by decide +kernel
theorem dX7_readEntry_32 : decode cX7_readEntry 32 = .ok (.aload_n 0, 1) := by decide +kernel
theorem dX7_readEntry_33 : decode cX7_readEntry 33 = .ok (.getfield 31, 3) := by decide +kernel
theorem dX7_readEntry_36 : decode cX7_readEntry 36 = .ok (.bipush 97, 2) := by decide +kernel
theorem dX7_readEntry_38 : decode cX7_readEntry 38 = .ok (.if_icmp .ne 9, 3) := by decide +kernel
theorem dX7_readEntry_41 : decode cX7_readEntry 41 = .ok (.aload_n 0, 1) := by decide +kernel
theorem dX7_readEntry_42 : decode cX7_readEntry 42 = .ok (.aload_n 1, 1) := by decide +kernel
theorem dX7_readEntry_43 : decode cX7_readEntry 43 = .ok (.invokevirtual 46, 3) := by decide +kernel
theorem dX7_readEntry_46 : decode cX7_readEntry 46 = .ok (.istore_n 3, 1) := by decide +kernel
theorem dX7_readEntry_47 : decode cX7_readEntry 47 = .ok (.iload_n 3, 1) := by decide +kernel
theorem dX7_readEntry_48 : decode cX7_readEntry 48 = .ok (.ifCond .ne 5, 3) := by decide +kernel
theorem dX7_readEntry_51 : decode cX7_readEntry 51 = .ok (.iconst 0, 1) := by decide +kernel
theorem dX7_readEntry_52 : decode cX7_readEntry 52 = .ok (.ireturn, 1) := by decide +kernel
theorem dX7_readEntry_53 : decode cX7_readEntry 53 = .ok (.aload_n 0, 1) := by decide +kernel
theorem dX7_readEntry_54 : decode cX7_readEntry 54 = .ok (.invokevirtual 28, 3) := by decide +kernel
theorem dX7_readEntry_57 : decode cX7_readEntry 57 = .ok (.aload_n 0, 1) := by decide +kernel
theorem dX7_readEntry_58 : decode cX7_readEntry 58 = .ok (.getfield 31, 3) := by decide +kernel
theorem dX7_readEntry_61 : decode cX7_readEntry 61 = .ok (.bipush 59, 2) := by decide +kernel
theorem dX7_readEntry_63 : decode cX7_readEntry 63 = .ok (.if_icmp .ne 7, 3) := by decide +kernel
theorem dX7_readEntry_66 : decode cX7_readEntry 66 = .ok (.iconst 1, 1) := by decide +kernel
theorem dX7_readEntry_67 : decode cX7_readEntry 67 = .ok (.goto 4, 3) := by decide +kernel
theorem dX7_readEntry_70 : decode cX7_readEntry 70 = .ok (.iconst 0, 1) := by decide +kernel
theorem dX7_readEntry_71 : decode cX7_readEntry 71 = .ok (.ireturn, 1) := by decide +kernel
set_option maxRecDepth 20000 in
theorem ggX7_readItems_X7_readNumber : GoodIn wsX7_readItems wsX7_readNumber := goodIn_r _ [6, 7, 1, 8, 9, 10, 5, 11, 12, 13, 14, 15, 16, 17, 18, 19, 20, 21, 22, 23, 24, 25, 26, 27, 39, 40, 41, 42, 43, 44] (by decide +kernel) (by decide +kernel)
set_option maxRecDepth 20000 in
theorem gX7_readItems_X7_readNumber : GoodIn wsX7_readItems (wsV RX7 49 RX7 yX7_readNumber wsX7_readNumber) := goodIn_app (goodIn_of _ (by decide +kernel)) ggX7_readItems_X7_readNumber
set_option maxRecDepth 20000 in
theorem ggX7_readItems_X3_begin : GoodIn wsX7_readItems wsX3_begin := goodIn_r _ [32, 33, 34, 35, 36, 37, 38, 45, 46, 47, 48, 49, 50, 51] (by decide +kernel) (by decide +kernel)
set_option maxRecDepth 20000 in
theorem gX7_readItems_X3_begin : GoodIn wsX7_readItems (wsV RX7 19 RX3 yX3_begin wsX3_begin) := goodIn_app (goodIn_of _ (by decide +kernel)) ggX7_readItems_X3_begin
theorem dX7_readItems_0 : decode cX7_readItems 0 = .ok (.aload_n 0, 1) := by decide +kernel
theorem dX7_readItems_1 : decode cX7_readItems 1 = .ok (.iconst 1, 1) := by decide +kernel
theorem dX7_readItems_2 : decode cX7_readItems 2 = .ok (.bipush 12, 2) := by decide +kernel
theorem dX7_readItems_4 : decode cX7_readItems 4 = .ok (.invokevirtual 49, 3) := by decide +kernel
theorem dX7_readItems_7 : decode cX7_readItems 7 = .ok (.ifCond .ne 5, 3) := by decide +kernel
theorem dX7_readItems_10 : decode cX7_readItems 10 = .ok (.iconst 0, 1) := by decide +kernel
theorem dX7_readItems_11 : decode cX7_readItems 11 = .ok (.ireturn, 1) := by decide +kernel
theorem dX7_readItems_12 : decode cX7_readItems 12 = .ok (.aload_n 1, 1) := by decide +kernel
theorem dX7_readItems_13 : decode cX7_readItems 13 = .ok (.aload_n 0, 1) := by decide +kernel
theorem dX7_readItems_14 : decode cX7_readItems 14 = .ok (.getfield 53, 3) := by decide +kernel
theorem dX7_readItems_17 : decode cX7_readItems 17 = .ok (.invokevirtual 19, 3) := by decide +kernel
theorem dX7_readItems_20 : decode cX7_readItems 20 = .ok (.iconst 1, 1) := by decide +kernel
theorem dX7_readItems_21 : decode cX7_readItems 21 = .ok (.ireturn, 1) := by decide +kernel
set_option maxRecDepth 20000 in
theorem ggX7_readArc_X7_readNumber : GoodIn wsX7_readArc wsX7_readNumber := goodIn_r _ [7, 8, 2, 9, 10, 11, 6, 12, 13, 14, 15, 16, 17, 18, 19, 20, 21, 22, 23, 24, 25, 26, 27, 28, 106, 107, 108, 109, 110, 111] (by decide +kernel) (by decide +kernel)
set_option maxRecDepth 20000 in
theorem gX7_readArc_X7_readNumber : GoodIn wsX7_readArc (wsV RX7 49 RX7 yX7_readNumber wsX7_readNumber) := goodIn_app (goodIn_of _ (by decide +kernel)) ggX7_readArc_X7_readNumber
set_option maxRecDepth 20000 in
theorem ggX7_readArc_X3_canTake : GoodIn wsX7_readArc wsX3_canTake := goodIn_r _ [33, 34, 35, 36, 32, 37, 38, 39, 40, 41, 42, 43, 44, 45, 46, 47, 48, 49, 50, 51, 52, 53, 54, 55, 56, 57, 58, 59, 60, 61, 99, 100, 101, 102, 103, 104, 105] (by decide +kernel) (by decide +kernel)
set_option maxRecDepth 20000 in
theorem gX7_readArc_X3_canTake : GoodIn wsX7_readArc (wsV RX7 59 RX3 yX3_canTake wsX3_canTake) := goodIn_app (goodIn_of _ (by decide +kernel)) ggX7_readArc_X3_canTake
set_option maxRecDepth 20000 in
theorem ggX7_readArc_X3_put : GoodIn wsX7_readArc wsX3_put := goodIn_r _ [65, 47, 61, 66, 51, 52, 53, 32, 54, 55, 56, 57, 58, 59, 60, 48, 49, 50, 67, 68, 69, 70, 71, 72, 73, 74, 75, 76, 77, 78, 79, 80, 81, 82, 42, 83, 84, 85, 86, 87, 88, 89, 90, 91, 92, 93, 94, 95, 96, 97, 98, 99, 100, 101, 102, 103, 104, 105] (by decide +kernel) (by decide +kernel)
set_option maxRecDepth 20000 in
theorem gX7_readArc_X3_put : GoodIn wsX7_readArc (wsV RX7 62 RX3 yX3_put wsX3_put) := goodIn_app (goodIn_of _ (by decide +kernel)) ggX7_readArc_X3_put
theorem dX7_readArc_0 : decode cX7_readArc 0 = .ok (.aload_n 0, 1) := by decide +kernel
theorem dX7_readArc_1 : decode cX7_readArc 1 = .ok (.iconst 0, 1) := by decide +kernel
theorem dX7_readArc_2 : decode cX7_readArc 2 = .ok (.aload_n 1, 1) := by decide +kernel
theorem dX7_readArc_3 : decode cX7_readArc 3 = .ok (.getfield 56, 3) := by decide +kernel
theorem dX7_readArc_6 : decode cX7_readArc 6 = .ok (.iconst 1, 1) := by decide +kernel
theorem dX7_readArc_7 : decode cX7_readArc 7 = .ok (.isub, 1) := by decide +kernel
theorem dX7_readArc_8 : decode cX7_readArc 8 = .ok (.invokevirtual 49, 3) := by decide +kernel
theorem dX7_readArc_11 : decode cX7_readArc 11 = .ok (.ifCond .ne 5, 3) := by decide +kernel
theorem dX7_readArc_14 : decode cX7_readArc 14 = .ok (.iconst 0, 1) := by decide +kernel
theorem dX7_readArc_15 : decode cX7_readArc 15 = .ok (.ireturn, 1) := by decide +kernel
theorem dX7_readArc_16 : decode cX7_readArc 16 = .ok (.aload_n 0, 1) := by decide +kernel
theorem dX7_readArc_17 : decode cX7_readArc 17 = .ok (.getfield 53, 3) := by decide +kernel
theorem dX7_readArc_20 : decode cX7_readArc 20 = .ok (.istore_n 2, 1) := by decide +kernel
theorem dX7_readArc_21 : decode cX7_readArc 21 = .ok (.aload_n 0, 1) := by decide +kernel
theorem dX7_readArc_22 : decode cX7_readArc 22 = .ok (.iconst 0, 1) := by decide +kernel
theorem dX7_readArc_23 : decode cX7_readArc 23 = .ok (.aload_n 1, 1) := by decide +kernel
theorem dX7_readArc_24 : decode cX7_readArc 24 = .ok (.getfield 56, 3) := by decide +kernel
theorem dX7_readArc_27 : decode cX7_readArc 27 = .ok (.iconst 1, 1) := by decide +kernel
theorem dX7_readArc_28 : decode cX7_readArc 28 = .ok (.isub, 1) := by decide +kernel
theorem dX7_readArc_29 : decode cX7_readArc 29 = .ok (.invokevirtual 49, 3) := by decide +kernel
theorem dX7_readArc_32 : decode cX7_readArc 32 = .ok (.ifCond .eq 15, 3) := by decide +kernel
theorem dX7_readArc_35 : decode cX7_readArc 35 = .ok (.aload_n 1, 1) := by decide +kernel
theorem dX7_readArc_36 : decode cX7_readArc 36 = .ok (.iload_n 2, 1) := by decide +kernel
theorem dX7_readArc_37 : decode cX7_readArc 37 = .ok (.aload_n 0, 1) := by decide +kernel
theorem dX7_readArc_38 : decode cX7_readArc 38 = .ok (.getfield 53, 3) := by decide +kernel
theorem dX7_readArc_41 : decode cX7_readArc 41 = .ok (.invokevirtual 59, 3) := by decide +kernel
theorem dX7_readArc_44 : decode cX7_readArc 44 = .ok (.ifCond .ne 5, 3) := by decide +kernel
theorem dX7_readArc_47 : decode cX7_readArc 47 = .ok (.iconst 0, 1) := by decide +kernel
theorem dX7_readArc_48 : decode cX7_readArc 48 = .ok (.ireturn, 1) := by decide +kernel
theorem dX7_readArc_49 : decode cX7_readArc 49 = .ok (.aload_n 1, 1) := by decide +kernel
theorem dX7_readArc_50 : decode cX7_readArc 50 = .ok (.iload_n 2, 1) := by decide +kernel
theorem dX7_readArc_51 : decode cX7_readArc 51 = .ok (.aload_n 0, 1) := by decide +kernel
theorem dX7_readArc_52 : decode cX7_readArc 52 = .ok (.getfield 53, 3) := by decide +kernel
theorem dX7_readArc_55 : decode cX7_readArc 55 = .ok (.invokevirtual 62, 3) := by decide +kernel
theorem dX7_readArc_58 : decode cX7_readArc 58 = .ok (.pop, 1) := by decide +kernel
theorem dX7_readArc_59 : decode cX7_readArc 59 = .ok (.iconst 1, 1) := by decide +kernel
theorem dX7_readArc_60 : decode cX7_readArc 60 = .ok (.ireturn, 1) := by decide +kernel
set_option maxRecDepth 20000 in
theorem ggX7_readNumber_X7_nextToken : GoodIn wsX7_readNumber wsX7_nextToken := goodIn_r _ [7, 8, 9, 10, 11, 1, 12, 13, 14, 6, 15, 16, 17, 18, 19, 2, 20, 21, 22, 23, 24, 25, 26, 27, 28, 29] (by decide +kernel) (by decide +kernel)
set_option maxRecDepth 20000 in
theorem gX7_readNumber_X7_nextToken : GoodIn wsX7_readNumber (wsV RX7 28 RX7 yX7_nextToken wsX7_nextToken) := goodIn_app (goodIn_of _ (by decide +kernel)) ggX7_readNumber_X7_nextToken
theorem dX7_readNumber_0 : decode cX7_readNumber 0 = .ok (.aload_n 0, 1) := by decide +kernel
theorem dX7_readNumber_1 : decode cX7_readNumber 1 = .ok (.invokevirtual 28, 3) := by decide +kernel
theorem dX7_readNumber_4 : decode cX7_readNumber 4 = .ok (.aload_n 0, 1) := by decide +kernel
theorem dX7_readNumber_5 : decode cX7_readNumber 5 = .ok (.getfield 31, 3) := by decide +kernel
theorem dX7_readNumber_8 : decode cX7_readNumber 8 = .ok (.bipush 100, 2) := by decide +kernel
theorem dX7_readNumber_10 : decode cX7_readNumber 10 = .ok (.if_icmp .ne 23, 3) := by decide +kernel
theorem dX7_readNumber_13 : decode cX7_readNumber 13 = .ok (.aload_n 0, 1) := by decide +kernel
theorem dX7_readNumber_14 : decode cX7_readNumber 14 = .ok (.getfield 53, 3) := by decide +kernel
theorem dX7_readNumber_17 : decode cX7_readNumber 17 = .ok (.iload_n 1, 1) := by decide +kernel
theorem dX7_readNumber_18 : decode cX7_readNumber 18 = .ok (.if_icmp .lt 15, 3) := by decide +kernel
theorem dX7_readNumber_21 : decode cX7_readNumber 21 = .ok (.aload_n 0, 1) := by decide +kernel
theorem dX7_readNumber_22 : decode cX7_readNumber 22 = .ok (.getfield 53, 3) := by decide +kernel
theorem dX7_readNumber_25 : decode cX7_readNumber 25 = .ok (.iload_n 2, 1) := by decide +kernel
theorem dX7_readNumber_26 : decode cX7_readNumber 26 = .ok (.if_icmp .gt 7, 3) := by decide +kernel
theorem dX7_readNumber_29 : decode cX7_readNumber 29 = .ok (.iconst 1, 1) := by decide +kernel
theorem dX7_readNumber_30 : decode cX7_readNumber 30 = .ok (.goto 4, 3) := by decide +kernel
theorem dX7_readNumber_33 : decode cX7_readNumber 33 = .ok (.iconst 0, 1) := by decide +kernel
theorem dX7_readNumber_34 : decode cX7_readNumber 34 = .ok (.ireturn, 1) := by decide +kernel
set_option maxRecDepth 20000 in
theorem ggX7_nextToken_X7_isDigit : GoodIn wsX7_nextToken wsX7_isDigit := goodIn_r _ [10, 4, 20, 21, 22, 23, 24, 25] (by decide +kernel) (by decide +kernel)
set_option maxRecDepth 20000 in
theorem gX7_nextToken_X7_isDigit : GoodIn wsX7_nextToken (wsV RX7 66 RX7 yX7_isDigit wsX7_isDigit) := goodIn_app (goodIn_of _ (by decide +kernel)) ggX7_nextToken_X7_isDigit
set_option maxRecDepth 20000 in
theorem ggX7_nextToken_X7_readDigits : GoodIn wsX7_nextToken wsX7_readDigits := goodIn_r _ [14, 15, 1, 3, 4, 16, 17, 18, 19, 2, 5, 6, 7, 8, 9, 10, 20, 21, 22, 23, 24, 25] (by decide +kernel) (by decide +kernel)
set_option maxRecDepth 20000 in
theorem gX7_nextToken_X7_readDigits : GoodIn wsX7_nextToken (wsV RX7 70 RX7 yX7_readDigits wsX7_readDigits) := goodIn_app (goodIn_of _ (by decide +kernel)) ggX7_nextToken_X7_readDigits
theorem dX7_nextToken_0 : decode cX7_nextToken 0 = .ok (.aload_n 0, 1) := by decide +kernel
theorem dX7_nextToken_1 : decode cX7_nextToken 1 = .ok (.aload_n 0, 1) := by decide +kernel
theorem dX7_nextToken_2 : decode cX7_nextToken 2 = .ok (.getfield 25, 3) := by decide +kernel
theorem dX7_nextToken_5 : decode cX7_nextToken 5 = .ok (.putfield 39, 3) := by decide +kernel
theorem dX7_nextToken_8 : decode cX7_nextToken 8 = .ok (.aload_n 0, 1) := by decide +kernel
theorem dX7_nextToken_9 : decode cX7_nextToken 9 = .ok (.getfield 39, 3) := by decide +kernel
theorem dX7_nextToken_12 : decode cX7_nextToken 12 = .ok (.aload_n 0, 1) := by decide +kernel
theorem dX7_nextToken_13 : decode cX7_nextToken 13 = .ok (.getfield 15, 3) := by decide +kernel
theorem dX7_nextToken_16 : decode cX7_nextToken 16 = .ok (.if_icmp .ge 30, 3) := by decide +kernel
theorem dX7_nextToken_19 : decode cX7_nextToken 19 = .ok (.aload_n 0, 1) := by decide +kernel
theorem dX7_nextToken_20 : decode cX7_nextToken 20 = .ok (.getfield 9, 3) := by decide +kernel
theorem dX7_nextToken_23 : decode cX7_nextToken 23 = .ok (.aload_n 0, 1) := by decide +kernel
theorem dX7_nextToken_24 : decode cX7_nextToken 24 = .ok (.getfield 39, 3) := by decide +kernel
theorem dX7_nextToken_27 : decode cX7_nextToken 27 = .ok (.iaload, 1) := by decide +kernel
theorem dX7_nextToken_28 : decode cX7_nextToken 28 = .ok (.bipush 32, 2) := by decide +kernel
theorem dX7_nextToken_30 : decode cX7_nextToken 30 = .ok (.if_icmp .ne 16, 3) := by decide +kernel
theorem dX7_nextToken_33 : decode cX7_nextToken 33 = .ok (.aload_n 0, 1) := by decide +kernel
theorem dX7_nextToken_34 : decode cX7_nextToken 34 = .ok (.dup, 1) := by decide +kernel
theorem dX7_nextToken_35 : decode cX7_nextToken 35 = .ok (.getfield 39, 3) := by decide +kernel
theorem dX7_nextToken_38 : decode cX7_nextToken 38 = .ok (.iconst 1, 1) := by decide +kernel
theorem dX7_nextToken_39 : decode cX7_nextToken 39 = .ok (.iadd, 1) := by decide +kernel
theorem dX7_nextToken_40 : decode cX7_nextToken 40 = .ok (.putfield 39, 3) := by decide +kernel
theorem dX7_nextToken_43 : decode cX7_nextToken 43 = .ok (.goto (-35), 3) := by decide +kernel
theorem dX7_nextToken_46 : decode cX7_nextToken 46 = .ok (.aload_n 0, 1) := by decide +kernel
theorem dX7_nextToken_47 : decode cX7_nextToken 47 = .ok (.aload_n 0, 1) := by decide +kernel
theorem dX7_nextToken_48 : decode cX7_nextToken 48 = .ok (.getfield 39, 3) := by decide +kernel
theorem dX7_nextToken_51 : decode cX7_nextToken 51 = .ok (.putfield 25, 3) := by decide +kernel
theorem dX7_nextToken_54 : decode cX7_nextToken 54 = .ok (.aload_n 0, 1) := by decide +kernel
theorem dX7_nextToken_55 : decode cX7_nextToken 55 = .ok (.getfield 39, 3) := by decide +kernel
theorem dX7_nextToken_58 : decode cX7_nextToken 58 = .ok (.aload_n 0, 1) := by decide +kernel
theorem dX7_nextToken_59 : decode cX7_nextToken 59 = .ok (.getfield 15, 3) := by decide +kernel
theorem dX7_nextToken_62 : decode cX7_nextToken 62 = .ok (.if_icmp .lt 12, 3) := by decide +kernel
theorem dX7_nextToken_65 : decode cX7_nextToken 65 = .ok (.aload_n 0, 1) := by decide +kernel
theorem dX7_nextToken_66 : decode cX7_nextToken 66 = .ok (.bipush 101, 2) := by decide +kernel
theorem dX7_nextToken_68 : decode cX7_nextToken 68 = .ok (.putfield 31, 3) := by decide +kernel
theorem dX7_nextToken_71 : decode cX7_nextToken 71 = .ok (.goto 80, 3) := by decide +kernel
theorem dX7_nextToken_74 : decode cX7_nextToken 74 = .ok (.aload_n 0, 1) := by decide +kernel
theorem dX7_nextToken_75 : decode cX7_nextToken 75 = .ok (.aload_n 0, 1) := by decide +kernel
theorem dX7_nextToken_76 : decode cX7_nextToken 76 = .ok (.getfield 39, 3) := by decide +kernel
theorem dX7_nextToken_79 : decode cX7_nextToken 79 = .ok (.invokevirtual 66, 3) := by decide +kernel
theorem dX7_nextToken_82 : decode cX7_nextToken 82 = .ok (.ifCond .eq 10, 3) := by decide +kernel
theorem dX7_nextToken_85 : decode cX7_nextToken 85 = .ok (.aload_n 0, 1) := by decide +kernel
theorem dX7_nextToken_86 : decode cX7_nextToken 86 = .ok (.invokevirtual 70, 3) := by decide +kernel
theorem dX7_nextToken_89 : decode cX7_nextToken 89 = .ok (.goto 62, 3) := by decide +kernel
theorem dX7_nextToken_92 : decode cX7_nextToken 92 = .ok (.aload_n 0, 1) := by decide +kernel
theorem dX7_nextToken_93 : decode cX7_nextToken 93 = .ok (.getfield 9, 3) := by decide +kernel
theorem dX7_nextToken_96 : decode cX7_nextToken 96 = .ok (.aload_n 0, 1) := by decide +kernel
theorem dX7_nextToken_97 : decode cX7_nextToken 97 = .ok (.getfield 39, 3) := by decide +kernel
theorem dX7_nextToken_100 : decode cX7_nextToken 100 = .ok (.iaload, 1) := by decide +kernel
theorem dX7_nextToken_101 : decode cX7_nextToken 101 = .ok (.istore_n 1, 1) := by decide +kernel
theorem dX7_nextToken_102 : decode cX7_nextToken 102 = .ok (.iload_n 1, 1) := by decide +kernel
theorem dX7_nextToken_103 : decode cX7_nextToken 103 = .ok (.bipush 110, 2) := by decide +kernel
theorem dX7_nextToken_105 : decode cX7_nextToken 105 = .ok (.if_icmp .eq 15, 3) := by decide +kernel
theorem dX7_nextToken_108 : decode cX7_nextToken 108 = .ok (.iload_n 1, 1) := by decide +kernel
theorem dX7_nextToken_109 : decode cX7_nextToken 109 = .ok (.bipush 97, 2) := by decide +kernel
theorem dX7_nextToken_111 : decode cX7_nextToken 111 = .ok (.if_icmp .eq 9, 3) := by decide +kernel
theorem dX7_nextToken_114 : decode cX7_nextToken 114 = .ok (.iload_n 1, 1) := by decide +kernel
theorem dX7_nextToken_115 : decode cX7_nextToken 115 = .ok (.bipush 59, 2) := by decide +kernel
theorem dX7_nextToken_117 : decode cX7_nextToken 117 = .ok (.if_icmp .ne 7, 3) := by decide +kernel
theorem dX7_nextToken_120 : decode cX7_nextToken 120 = .ok (.iconst 1, 1) := by decide +kernel
theorem dX7_nextToken_121 : decode cX7_nextToken 121 = .ok (.goto 4, 3) := by decide +kernel
theorem dX7_nextToken_124 : decode cX7_nextToken 124 = .ok (.iconst 0, 1) := by decide +kernel
theorem dX7_nextToken_125 : decode cX7_nextToken 125 = .ok (.istore_n 2, 1) := by decide +kernel
theorem dX7_nextToken_126 : decode cX7_nextToken 126 = .ok (.aload_n 0, 1) := by decide +kernel
theorem dX7_nextToken_127 : decode cX7_nextToken 127 = .ok (.iload_n 2, 1) := by decide +kernel
theorem dX7_nextToken_128 : decode cX7_nextToken 128 = .ok (.ifCond .eq 8, 3) := by decide +kernel
theorem dX7_nextToken_131 : decode cX7_nextToken 131 = .ok (.iload_n 1, 1) := by decide +kernel
theorem dX7_nextToken_132 : decode cX7_nextToken 132 = .ok (.i2c, 1) := by decide +kernel
theorem dX7_nextToken_133 : decode cX7_nextToken 133 = .ok (.goto 5, 3) := by decide +kernel
theorem dX7_nextToken_136 : decode cX7_nextToken 136 = .ok (.bipush 119, 2) := by decide +kernel
theorem dX7_nextToken_138 : decode cX7_nextToken 138 = .ok (.putfield 31, 3) := by decide +kernel
theorem dX7_nextToken_141 : decode cX7_nextToken 141 = .ok (.aload_n 0, 1) := by decide +kernel
theorem dX7_nextToken_142 : decode cX7_nextToken 142 = .ok (.dup, 1) := by decide +kernel
theorem dX7_nextToken_143 : decode cX7_nextToken 143 = .ok (.getfield 25, 3) := by decide +kernel
theorem dX7_nextToken_146 : decode cX7_nextToken 146 = .ok (.iconst 1, 1) := by decide +kernel
theorem dX7_nextToken_147 : decode cX7_nextToken 147 = .ok (.iadd, 1) := by decide +kernel
theorem dX7_nextToken_148 : decode cX7_nextToken 148 = .ok (.putfield 25, 3) := by decide +kernel
theorem dX7_nextToken_151 : decode cX7_nextToken 151 = .ok (.return_, 1) := by decide +kernel
set_option maxRecDepth 20000 in
theorem ggX7_readDigits_X7_isDigit : GoodIn wsX7_readDigits wsX7_isDigit := goodIn_r _ [15, 4, 16, 17, 18, 19, 20, 21] (by decide +kernel) (by decide +kernel)
set_option maxRecDepth 20000 in
theorem gX7_readDigits_X7_isDigit : GoodIn wsX7_readDigits (wsV RX7 66 RX7 yX7_isDigit wsX7_isDigit) := goodIn_app (goodIn_of _ (by decide +kernel)) ggX7_readDigits_X7_isDigit
theorem dX7_readDigits_0 : decode cX7_readDigits 0 = .ok (.aload_n 0, 1) := by decide +kernel
theorem dX7_readDigits_1 : decode cX7_readDigits 1 = .ok (.iconst 0, 1) := by decide +kernel
theorem dX7_readDigits_2 : decode cX7_readDigits 2 = .ok (.putfield 53, 3) := by decide +kernel
theorem dX7_readDigits_5 : decode cX7_readDigits 5 = .ok (.aload_n 0, 1) := by decide +kernel
theorem dX7_readDigits_6 : decode cX7_readDigits 6 = .ok (.getfield 25, 3) := by decide +kernel
theorem dX7_readDigits_9 : decode cX7_readDigits 9 = .ok (.aload_n 0, 1) := by decide +kernel
theorem dX7_readDigits_10 : decode cX7_readDigits 10 = .ok (.getfield 15, 3) := by decide +kernel
theorem dX7_readDigits_13 : decode cX7_readDigits 13 = .ok (.if_icmp .ge 56, 3) := by decide +kernel
theorem dX7_readDigits_16 : decode cX7_readDigits 16 = .ok (.aload_n 0, 1) := by decide +kernel
theorem dX7_readDigits_17 : decode cX7_readDigits 17 = .ok (.aload_n 0, 1) := by decide +kernel
theorem dX7_readDigits_18 : decode cX7_readDigits 18 = .ok (.getfield 25, 3) := by decide +kernel
theorem dX7_readDigits_21 : decode cX7_readDigits 21 = .ok (.invokevirtual 66, 3) := by decide +kernel
theorem dX7_readDigits_24 : decode cX7_readDigits 24 = .ok (.ifCond .eq 45, 3) := by decide +kernel
theorem dX7_readDigits_27 : decode cX7_readDigits 27 = .ok (.aload_n 0, 1) := by decide +kernel
theorem dX7_readDigits_28 : decode cX7_readDigits 28 = .ok (.bipush 10, 2) := by decide +kernel
theorem dX7_readDigits_30 : decode cX7_readDigits 30 = .ok (.aload_n 0, 1) := by decide +kernel
theorem dX7_readDigits_31 : decode cX7_readDigits 31 = .ok (.getfield 53, 3) := by decide +kernel
theorem dX7_readDigits_34 : decode cX7_readDigits 34 = .ok (.imul, 1) := by decide +kernel
theorem dX7_readDigits_35 : decode cX7_readDigits 35 = .ok (.aload_n 0, 1) := by decide +kernel
theorem dX7_readDigits_36 : decode cX7_readDigits 36 = .ok (.getfield 9, 3) := by decide +kernel
theorem dX7_readDigits_39 : decode cX7_readDigits 39 = .ok (.aload_n 0, 1) := by decide +kernel
theorem dX7_readDigits_40 : decode cX7_readDigits 40 = .ok (.getfield 25, 3) := by decide +kernel
theorem dX7_readDigits_43 : decode cX7_readDigits 43 = .ok (.iaload, 1) := by decide +kernel
theorem dX7_readDigits_44 : decode cX7_readDigits 44 = .ok (.iadd, 1) := by decide +kernel
theorem dX7_readDigits_45 : decode cX7_readDigits 45 = .ok (.bipush 48, 2) := by decide +kernel
theorem dX7_readDigits_47 : decode cX7_readDigits 47 = .ok (.isub, 1) := by decide +kernel
theorem dX7_readDigits_48 : decode cX7_readDigits 48 = .ok (.bipush 100, 2) := by decide +kernel
theorem dX7_readDigits_50 : decode cX7_readDigits 50 = .ok (.invokestatic 73, 3) := by decide +kernel
theorem dX7_readDigits_53 : decode cX7_readDigits 53 = .ok (.putfield 53, 3) := by decide +kernel
theorem dX7_readDigits_56 : decode cX7_readDigits 56 = .ok (.aload_n 0, 1) := by decide +kernel
theorem dX7_readDigits_57 : decode cX7_readDigits 57 = .ok (.dup, 1) := by decide +kernel
theorem dX7_readDigits_58 : decode cX7_readDigits 58 = .ok (.getfield 25, 3) := by decide +kernel
theorem dX7_readDigits_61 : decode cX7_readDigits 61 = .ok (.iconst 1, 1) := by decide +kernel
theorem dX7_readDigits_62 : decode cX7_readDigits 62 = .ok (.iadd, 1) := by decide +kernel
theorem dX7_readDigits_63 : decode cX7_readDigits 63 = .ok (.putfield 25, 3) := by decide +kernel
theorem dX7_readDigits_66 : decode cX7_readDigits 66 = .ok (.goto (-61), 3) := by decide +kernel
theorem dX7_readDigits_69 : decode cX7_readDigits 69 = .ok (.aload_n 0, 1) := by decide +kernel
theorem dX7_readDigits_70 : decode cX7_readDigits 70 = .ok (.getfield 9, 3) := by decide +kernel
theorem dX7_readDigits_73 : decode cX7_readDigits 73 = .ok (.aload_n 0, 1) := by decide +kernel
theorem dX7_readDigits_74 : decode cX7_readDigits 74 = .ok (.getfield 39, 3) := by decide +kernel
theorem dX7_readDigits_77 : decode cX7_readDigits 77 = .ok (.iaload, 1) := by decide +kernel
theorem dX7_readDigits_78 : decode cX7_readDigits 78 = .ok (.bipush 48, 2) := by decide +kernel
theorem dX7_readDigits_80 : decode cX7_readDigits 80 = .ok (.if_icmp .ne 20, 3) := by decide +kernel
theorem dX7_readDigits_83 : decode cX7_readDigits 83 = .ok (.aload_n 0, 1) := by decide +kernel
theorem dX7_readDigits_84 : decode cX7_readDigits 84 = .ok (.getfield 25, 3) := by decide +kernel
theorem dX7_readDigits_87 : decode cX7_readDigits 87 = .ok (.aload_n 0, 1) := by decide +kernel
theorem dX7_readDigits_88 : decode cX7_readDigits 88 = .ok (.getfield 39, 3) := by decide +kernel
theorem dX7_readDigits_91 : decode cX7_readDigits 91 = .ok (.iconst 1, 1) := by decide +kernel
theorem dX7_readDigits_92 : decode cX7_readDigits 92 = .ok (.iadd, 1) := by decide +kernel
theorem dX7_readDigits_93 : decode cX7_readDigits 93 = .ok (.if_icmp .le 7, 3) := by decide +kernel
theorem dX7_readDigits_96 : decode cX7_readDigits 96 = .ok (.iconst 1, 1) := by decide +kernel
theorem dX7_readDigits_97 : decode cX7_readDigits 97 = .ok (.goto 4, 3) := by decide +kernel
theorem dX7_readDigits_100 : decode cX7_readDigits 100 = .ok (.iconst 0, 1) := by decide +kernel
theorem dX7_readDigits_101 : decode cX7_readDigits 101 = .ok (.istore_n 1, 1) := by decide +kernel
theorem dX7_readDigits_102 : decode cX7_readDigits 102 = .ok (.aload_n 0, 1) := by decide +kernel
theorem dX7_readDigits_103 : decode cX7_readDigits 103 = .ok (.iload_n 1, 1) := by decide +kernel
theorem dX7_readDigits_104 : decode cX7_readDigits 104 = .ok (.ifCond .ne 12, 3) := by decide +kernel
theorem dX7_readDigits_107 : decode cX7_readDigits 107 = .ok (.aload_n 0, 1) := by decide +kernel
theorem dX7_readDigits_108 : decode cX7_readDigits 108 = .ok (.getfield 53, 3) := by decide +kernel
theorem dX7_readDigits_111 : decode cX7_readDigits 111 = .ok (.bipush 99, 2) := by decide +kernel
theorem dX7_readDigits_113 : decode cX7_readDigits 113 = .ok (.if_icmp .le 8, 3) := by decide +kernel
theorem dX7_readDigits_116 : decode cX7_readDigits 116 = .ok (.bipush 119, 2) := by decide +kernel
theorem dX7_readDigits_118 : decode cX7_readDigits 118 = .ok (.goto 5, 3) := by decide +kernel
theorem dX7_readDigits_121 : decode cX7_readDigits 121 = .ok (.bipush 100, 2) := by decide +kernel
theorem dX7_readDigits_123 : decode cX7_readDigits 123 = .ok (.putfield 31, 3) := by decide +kernel
theorem dX7_readDigits_126 : decode cX7_readDigits 126 = .ok (.return_, 1) := by decide +kernel
theorem dX7_isDigit_0 : decode cX7_isDigit 0 = .ok (.aload_n 0, 1) := by decide +kernel
theorem dX7_isDigit_1 : decode cX7_isDigit 1 = .ok (.getfield 9, 3) := by decide +kernel
theorem dX7_isDigit_4 : decode cX7_isDigit 4 = .ok (.iload_n 1, 1) := by decide +kernel
theorem dX7_isDigit_5 : decode cX7_isDigit 5 = .ok (.iaload, 1) := by decide +kernel
theorem dX7_isDigit_6 : decode cX7_isDigit 6 = .ok (.bipush 48, 2) := by decide +kernel
theorem dX7_isDigit_8 : decode cX7_isDigit 8 = .ok (.if_icmp .lt 18, 3) := by decide +kernel
theorem dX7_isDigit_11 : decode cX7_isDigit 11 = .ok (.aload_n 0, 1) := by decide +kernel
theorem dX7_isDigit_12 : decode cX7_isDigit 12 = .ok (.getfield 9, 3) := by decide +kernel
theorem dX7_isDigit_15 : decode cX7_isDigit 15 = .ok (.iload_n 1, 1) := by decide +kernel
theorem dX7_isDigit_16 : decode cX7_isDigit 16 = .ok (.iaload, 1) := by decide +kernel
theorem dX7_isDigit_17 : decode cX7_isDigit 17 = .ok (.bipush 57, 2) := by decide +kernel
theorem dX7_isDigit_19 : decode cX7_isDigit 19 = .ok (.if_icmp .gt 7, 3) := by decide +kernel
theorem dX7_isDigit_22 : decode cX7_isDigit 22 = .ok (.iconst 1, 1) := by decide +kernel
theorem dX7_isDigit_23 : decode cX7_isDigit 23 = .ok (.goto 4, 3) := by decide +kernel
theorem dX7_isDigit_26 : decode cX7_isDigit 26 = .ok (.iconst 0, 1) := by decide +kernel
theorem dX7_isDigit_27 : decode cX7_isDigit 27 = .ok (.ireturn, 1) := by decide +kernel
set_option maxRecDepth 20000 in
theorem ggX8_init_X3_init : GoodIn wsX8_init wsX3_init := goodIn_r _ [42, 43, 2, 3, 44, 45, 46, 47, 48, 49, 50, 51, 52, 6, 53, 54, 55, 93, 94, 95, 96, 97, 98, 99] (by decide +kernel) (by decide +kernel)
set_option maxRecDepth 20000 in
theorem gX8_init_X3_init : GoodIn wsX8_init (wsX3_init) := ggX8_init_X3_init
set_option maxRecDepth 20000 in
theorem ggX8_init_X7_init : GoodIn wsX8_init wsX7_init := goodIn_r _ [57, 58, 2, 3, 44, 59, 111, 112, 113, 114, 115, 116] (by decide +kernel) (by decide +kernel)
set_option maxRecDepth 20000 in
theorem gX8_init_X7_init_n21 : GoodIn wsX8_init (wsX7_init) := ggX8_init_X7_init
set_option maxRecDepth 20000 in
theorem ggX8_init_X0_init : GoodIn wsX8_init wsX0_init := goodIn_r _ [61, 62, 2, 3, 44, 63, 64, 117, 118, 119] (by decide +kernel) (by decide +kernel)
set_option maxRecDepth 20000 in
theorem gX8_init_X0_init_n28 : GoodIn wsX8_init (wsX0_init) := ggX8_init_X0_init
set_option maxRecDepth 20000 in
theorem ggX8_init_X4_init : GoodIn wsX8_init wsX4_init := goodIn_r _ [67, 68, 2, 3, 69, 70, 5, 6, 71, 41, 42, 43, 44, 45, 46, 47, 48, 49, 50, 51, 52, 53, 54, 55, 120, 121, 93, 94, 95, 96, 97, 98, 99] (by decide +kernel) (by decide +kernel)
set_option maxRecDepth 20000 in
theorem gX8_init_X4_init : GoodIn wsX8_init (wsX4_init) := ggX8_init_X4_init
set_option maxRecDepth 20000 in
theorem ggX8_init_X2_init : GoodIn wsX8_init wsX2_init := goodIn_r _ [73, 74, 2, 3, 44, 75, 76, 122, 123, 124] (by decide +kernel) (by decide +kernel)
set_option maxRecDepth 20000 in
theorem gX8_init_X2_init_n42 : GoodIn wsX8_init (wsX2_init) := ggX8_init_X2_init
set_option maxRecDepth 20000 in
theorem ggX8_init_X5_init : GoodIn wsX8_init wsX5_init := goodIn_r _ [78, 79, 2, 3, 44, 80, 125, 126, 127, 128, 129, 130] (by decide +kernel) (by decide +kernel)
set_option maxRecDepth 20000 in
theorem gX8_init_X5_init_n49 : GoodIn wsX8_init (wsX5_init) := ggX8_init_X5_init
set_option maxRecDepth 20000 in
theorem ggX8_init_X6_init : GoodIn wsX8_init wsX6_init := goodIn_r _ [82, 83, 2, 3, 84, 85, 86, 5, 6, 87, 88, 41, 42, 43, 44, 45, 46, 47, 48, 49, 50, 51, 52, 53, 54, 55, 131, 132, 133, 93, 94, 95, 96, 97, 98, 99] (by decide +kernel) (by decide +kernel)
set_option maxRecDepth 20000 in
theorem gX8_init_X6_init_n56 : GoodIn wsX8_init (wsX6_init) := ggX8_init_X6_init
set_option maxRecDepth 20000 in
theorem ggX8_init_X1_init : GoodIn wsX8_init wsX1_init := goodIn_r _ [90, 91, 2, 3, 44, 92, 134] (by decide +kernel) (by decide +kernel)
set_option maxRecDepth 20000 in
theorem gX8_init_X1_init_n63 : GoodIn wsX8_init (wsX1_init) := ggX8_init_X1_init
