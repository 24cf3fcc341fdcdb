theorem dX0_init_0 : decode cX0_init 0 = .ok (.aload_n 0, 1) := by decide +kernel
theorem dX0_init_1 : decode cX0_init 1 = .ok (.invokespecial 3, 3) := by decide +kernel
theorem dX0_init_4 : decode cX0_init 4 = .ok (.aload_n 0, 1) := by decide +kernel
theorem dX0_init_5 : decode cX0_init 5 = .ok (.bipush 20, 2) := by decide +kernel
theorem dX0_init_7 : decode cX0_init 7 = .ok (.newarray .int, 2) := by decide +kernel
theorem dX0_init_9 : decode cX0_init 9 = .ok (.putfield 9, 3) := by decide +kernel
theorem dX0_init_12 : decode cX0_init 12 = .ok (.aload_n 0, 1) := by decide +kernel
theorem dX0_init_13 : decode cX0_init 13 = .ok (.bipush 20, 2) := by decide +kernel
theorem dX0_init_15 : decode cX0_init 15 = .ok (.newarray .int, 2) := by decide +kernel
theorem dX0_init_17 : decode cX0_init 17 = .ok (.putfield 15, 3) := by decide +kernel
theorem dX0_init_20 : decode cX0_init 20 = .ok (.return_, 1) := by decide +kernel
theorem dX0_has_0 : decode cX0_has 0 = .ok (.iload_n 1, 1) := by decide +kernel
theorem dX0_has_1 : decode cX0_has 1 = .ok (.ifCond .lt 15, 3) := by decide +kernel
theorem dX0_has_4 : decode cX0_has 4 = .ok (.iload_n 1, 1) := by decide +kernel
theorem dX0_has_5 : decode cX0_has 5 = .ok (.aload_n 0, 1) := by decide +kernel
theorem dX0_has_6 : decode cX0_has 6 = .ok (.getfield 18, 3) := by decide +kernel
theorem dX0_has_9 : decode cX0_has 9 = .ok (.if_icmp .ge 7, 3) := by decide +kernel
theorem dX0_has_12 : decode cX0_has 12 = .ok (.iconst 1, 1) := by decide +kernel
theorem dX0_has_13 : decode cX0_has 13 = .ok (.goto 4, 3) := by decide +kernel
theorem dX0_has_16 : decode cX0_has 16 = .ok (.iconst 0, 1) := by decide +kernel
theorem dX0_has_17 : decode cX0_has 17 = .ok (.ireturn, 1) := by decide +kernel
theorem dX0_add_0 : decode cX0_add 0 = .ok (.aload_n 0, 1) := by decide +kernel
theorem dX0_add_1 : decode cX0_add 1 = .ok (.getfield 18, 3) := by decide +kernel
theorem dX0_add_4 : decode cX0_add 4 = .ok (.bipush 20, 2) := by decide +kernel
theorem dX0_add_6 : decode cX0_add 6 = .ok (.if_icmp .lt 5, 3) := by decide +kernel
theorem dX0_add_9 : decode cX0_add 9 = .ok (.iconst (-1), 1) := by decide +kernel
theorem dX0_add_10 : decode cX0_add 10 = .ok (.ireturn, 1) := by decide +kernel
theorem dX0_add_11 : decode cX0_add 11 = .ok (.aload_n 0, 1) := by decide +kernel
theorem dX0_add_12 : decode cX0_add 12 = .ok (.getfield 9, 3) := by decide +kernel
theorem dX0_add_15 : decode cX0_add 15 = .ok (.aload_n 0, 1) := by decide +kernel
theorem dX0_add_16 : decode cX0_add 16 = .ok (.getfield 18, 3) := by decide +kernel
theorem dX0_add_19 : decode cX0_add 19 = .ok (.iload_n 1, 1) := by decide +kernel
theorem dX0_add_20 : decode cX0_add 20 = .ok (.iastore, 1) := by decide +kernel
theorem dX0_add_21 : decode cX0_add 21 = .ok (.aload_n 0, 1) := by decide +kernel
theorem dX0_add_22 : decode cX0_add 22 = .ok (.getfield 15, 3) := by decide +kernel
theorem dX0_add_25 : decode cX0_add 25 = .ok (.aload_n 0, 1) := by decide +kernel
theorem dX0_add_26 : decode cX0_add 26 = .ok (.getfield 18, 3) := by decide +kernel
theorem dX0_add_29 : decode cX0_add 29 = .ok (.iload_n 2, 1) := by decide +kernel
theorem dX0_add_30 : decode cX0_add 30 = .ok (.iastore, 1) := by decide +kernel
theorem dX0_add_31 : decode cX0_add 31 = .ok (.aload_n 0, 1) := by decide +kernel
theorem dX0_add_32 : decode cX0_add 32 = .ok (.dup, 1) := by decide +kernel
theorem dX0_add_33 : decode cX0_add 33 = .ok (.getfield 18, 3) := by decide +kernel
theorem dX0_add_36 : decode cX0_add 36 = .ok (.iconst 1, 1) := by decide +kernel
theorem dX0_add_37 : decode cX0_add 37 = .ok (.iadd, 1) := by decide +kernel
theorem dX0_add_38 : decode cX0_add 38 = .ok (.putfield 18, 3) := by decide +kernel
theorem dX0_add_41 : decode cX0_add 41 = .ok (.aload_n 0, 1) := by decide +kernel
theorem dX0_add_42 : decode cX0_add 42 = .ok (.getfield 18, 3) := by decide +kernel
theorem dX0_add_45 : decode cX0_add 45 = .ok (.iconst 1, 1) := by decide +kernel
theorem dX0_add_46 : decode cX0_add 46 = .ok (.isub, 1) := by decide +kernel
theorem dX0_add_47 : decode cX0_add 47 = .ok (.ireturn, 1) := by decide +kernel
set_option maxRecDepth 20000 in
theorem ggX0_unitOf_X0_has : GoodIn wsX0_unitOf wsX0_has := goodIn_r _ [6, 7, 8, 9, 10] (by decide +kernel) (by decide +kernel)
set_option maxRecDepth 20000 in
theorem gX0_unitOf_X0_has : GoodIn wsX0_unitOf (wsV RX0 22 RX0 yX0_has wsX0_has) := goodIn_app (goodIn_of _ (by decide +kernel)) ggX0_unitOf_X0_has
theorem dX0_unitOf_0 : decode cX0_unitOf 0 = .ok (.aload_n 0, 1) := by decide +kernel
theorem dX0_unitOf_1 : decode cX0_unitOf 1 = .ok (.iload_n 1, 1) := by decide +kernel
theorem dX0_unitOf_2 : decode cX0_unitOf 2 = .ok (.invokevirtual 22, 3) := by decide +kernel
theorem dX0_unitOf_5 : decode cX0_unitOf 5 = .ok (.ifCond .eq 12, 3) := by decide +kernel
theorem dX0_unitOf_8 : decode cX0_unitOf 8 = .ok (.aload_n 0, 1) := by decide +kernel
theorem dX0_unitOf_9 : decode cX0_unitOf 9 = .ok (.getfield 9, 3) := by decide +kernel
theorem dX0_unitOf_12 : decode cX0_unitOf 12 = .ok (.iload_n 1, 1) := by decide +kernel
theorem dX0_unitOf_13 : decode cX0_unitOf 13 = .ok (.iaload, 1) := by decide +kernel
theorem dX0_unitOf_14 : decode cX0_unitOf 14 = .ok (.goto 4, 3) := by decide +kernel
theorem dX0_unitOf_17 : decode cX0_unitOf 17 = .ok (.iconst (-1), 1) := by decide +kernel
theorem dX0_unitOf_18 : decode cX0_unitOf 18 = .ok (.ireturn, 1) := by decide +kernel
set_option maxRecDepth 20000 in
theorem ggX0_pageOf_X0_has : GoodIn wsX0_pageOf wsX0_has := goodIn_r _ [6, 7, 8, 9, 10] (by decide +kernel) (by decide +kernel)
set_option maxRecDepth 20000 in
theorem gX0_pageOf_X0_has : GoodIn wsX0_pageOf (wsV RX0 22 RX0 yX0_has wsX0_has) := goodIn_app (goodIn_of _ (by decide +kernel)) ggX0_pageOf_X0_has
theorem dX0_pageOf_0 : decode cX0_pageOf 0 = .ok (.aload_n 0, 1) := by decide +kernel
theorem dX0_pageOf_1 : decode cX0_pageOf 1 = .ok (.iload_n 1, 1) := by decide +kernel
theorem dX0_pageOf_2 : decode cX0_pageOf 2 = .ok (.invokevirtual 22, 3) := by decide +kernel
theorem dX0_pageOf_5 : decode cX0_pageOf 5 = .ok (.ifCond .eq 12, 3) := by decide +kernel
theorem dX0_pageOf_8 : decode cX0_pageOf 8 = .ok (.aload_n 0, 1) := by decide +kernel
theorem dX0_pageOf_9 : decode cX0_pageOf 9 = .ok (.getfield 15, 3) := by decide +kernel
theorem dX0_pageOf_12 : decode cX0_pageOf 12 = .ok (.iload_n 1, 1) := by decide +kernel
theorem dX0_pageOf_13 : decode cX0_pageOf 13 = .ok (.iaload, 1) := by decide +kernel
theorem dX0_pageOf_14 : decode cX0_pageOf 14 = .ok (.goto 4, 3) := by decide +kernel
theorem dX0_pageOf_17 : decode cX0_pageOf 17 = .ok (.iconst (-1), 1) := by decide +kernel
theorem dX0_pageOf_18 : decode cX0_pageOf 18 = .ok (.ireturn, 1) := by decide +kernel
theorem dX0_moveBehind_0 : decode cX0_moveBehind 0 = .ok (.iconst 0, 1) := by decide +kernel
theorem dX0_moveBehind_1 : decode cX0_moveBehind 1 = .ok (.istore_n 3, 1) := by decide +kernel
theorem dX0_moveBehind_2 : decode cX0_moveBehind 2 = .ok (.iload_n 3, 1) := by decide +kernel
theorem dX0_moveBehind_3 : decode cX0_moveBehind 3 = .ok (.aload_n 0, 1) := by decide +kernel
theorem dX0_moveBehind_4 : decode cX0_moveBehind 4 = .ok (.getfield 18, 3) := by decide +kernel
theorem dX0_moveBehind_7 : decode cX0_moveBehind 7 = .ok (.if_icmp .ge 29, 3) := by decide +kernel
theorem dX0_moveBehind_10 : decode cX0_moveBehind 10 = .ok (.aload_n 0, 1) := by decide +kernel
theorem dX0_moveBehind_11 : decode cX0_moveBehind 11 = .ok (.getfield 9, 3) := by decide +kernel
theorem dX0_moveBehind_14 : decode cX0_moveBehind 14 = .ok (.iload_n 3, 1) := by decide +kernel
theorem dX0_moveBehind_15 : decode cX0_moveBehind 15 = .ok (.iaload, 1) := by decide +kernel
theorem dX0_moveBehind_16 : decode cX0_moveBehind 16 = .ok (.iload_n 1, 1) := by decide +kernel
theorem dX0_moveBehind_17 : decode cX0_moveBehind 17 = .ok (.if_icmp .le 13, 3) := by decide +kernel
theorem dX0_moveBehind_20 : decode cX0_moveBehind 20 = .ok (.aload_n 0, 1) := by decide +kernel
theorem dX0_moveBehind_21 : decode cX0_moveBehind 21 = .ok (.getfield 9, 3) := by decide +kernel
theorem dX0_moveBehind_24 : decode cX0_moveBehind 24 = .ok (.iload_n 3, 1) := by decide +kernel
theorem dX0_moveBehind_25 : decode cX0_moveBehind 25 = .ok (.dup2, 1) := by decide +kernel
theorem dX0_moveBehind_26 : decode cX0_moveBehind 26 = .ok (.iaload, 1) := by decide +kernel
theorem dX0_moveBehind_27 : decode cX0_moveBehind 27 = .ok (.iload_n 2, 1) := by decide +kernel
theorem dX0_moveBehind_28 : decode cX0_moveBehind 28 = .ok (.iadd, 1) := by decide +kernel
theorem dX0_moveBehind_29 : decode cX0_moveBehind 29 = .ok (.iastore, 1) := by decide +kernel
theorem dX0_moveBehind_30 : decode cX0_moveBehind 30 = .ok (.iinc 3 1, 3) := by decide +kernel
theorem dX0_moveBehind_33 : decode cX0_moveBehind 33 = .ok (.goto (-31), 3) := by decide +kernel
theorem dX0_moveBehind_36 : decode cX0_moveBehind 36 = .ok (.return_, 1) := by decide +kernel
theorem dX0_drop_0 : decode cX0_drop 0 = .ok (.aload_n 0, 1) := by decide +kernel
theorem dX0_drop_1 : decode cX0_drop 1 = .ok (.iconst 0, 1) := by decide +kernel
theorem dX0_drop_2 : decode cX0_drop 2 = .ok (.putfield 18, 3) := by decide +kernel
theorem dX0_drop_5 : decode cX0_drop 5 = .ok (.return_, 1) := by decide +kernel
set_option maxRecDepth 20000 in
theorem ggX1_init_X1_pair : GoodIn wsX1_init wsX1_pair := goodIn_r _ [15] (by decide +kernel) (by decide +kernel)
set_option maxRecDepth 20000 in
theorem gX1_init_X1_pair : GoodIn wsX1_init (va_wsS RX1 34 yX1_pair wsX1_pair) := goodIn_app (goodIn_of _ (by decide +kernel)) ggX1_init_X1_pair
theorem dX1_init_0 : decode cX1_init 0 = .ok (.aload_n 0, 1) := by decide +kernel
theorem dX1_init_1 : decode cX1_init 1 = .ok (.invokespecial 3, 3) := by decide +kernel
theorem dX1_init_4 : decode cX1_init 4 = .ok (.aload_n 0, 1) := by decide +kernel
theorem dX1_init_5 : decode cX1_init 5 = .ok (.bipush 30, 2) := by decide +kernel
theorem dX1_init_7 : decode cX1_init 7 = .ok (.putfield 9, 3) := by decide +kernel
theorem dX1_init_10 : decode cX1_init 10 = .ok (.aload_n 0, 1) := by decide +kernel
theorem dX1_init_11 : decode cX1_init 11 = .ok (.iconst 1, 1) := by decide +kernel
theorem dX1_init_12 : decode cX1_init 12 = .ok (.putfield 15, 3) := by decide +kernel
theorem dX1_init_15 : decode cX1_init 15 = .ok (.aload_n 0, 1) := by decide +kernel
theorem dX1_init_16 : decode cX1_init 16 = .ok (.iconst 1, 1) := by decide +kernel
theorem dX1_init_17 : decode cX1_init 17 = .ok (.putfield 18, 3) := by decide +kernel
theorem dX1_init_20 : decode cX1_init 20 = .ok (.aload_n 0, 1) := by decide +kernel
theorem dX1_init_21 : decode cX1_init 21 = .ok (.bipush 20, 2) := by decide +kernel
theorem dX1_init_23 : decode cX1_init 23 = .ok (.putfield 21, 3) := by decide +kernel
theorem dX1_init_26 : decode cX1_init 26 = .ok (.aload_n 0, 1) := by decide +kernel
theorem dX1_init_27 : decode cX1_init 27 = .ok (.bipush 60, 2) := by decide +kernel
theorem dX1_init_29 : decode cX1_init 29 = .ok (.putfield 24, 3) := by decide +kernel
theorem dX1_init_32 : decode cX1_init 32 = .ok (.aload_n 0, 1) := by decide +kernel
theorem dX1_init_33 : decode cX1_init 33 = .ok (.bipush 100, 2) := by decide +kernel
theorem dX1_init_35 : decode cX1_init 35 = .ok (.putfield 27, 3) := by decide +kernel
theorem dX1_init_38 : decode cX1_init 38 = .ok (.aload_n 0, 1) := by decide +kernel
theorem dX1_init_39 : decode cX1_init 39 = .ok (.sipush 784, 3) := by decide +kernel
theorem dX1_init_42 : decode cX1_init 42 = .ok (.newarray .int, 2) := by decide +kernel
theorem dX1_init_44 : decode cX1_init 44 = .ok (.putfield 30, 3) := by decide +kernel
theorem dX1_init_47 : decode cX1_init 47 = .ok (.aload_n 0, 1) := by decide +kernel
theorem dX1_init_48 : decode cX1_init 48 = .ok (.getfield 30, 3) := by decide +kernel
theorem dX1_init_51 : decode cX1_init 51 = .ok (.bipush 26, 2) := by decide +kernel
theorem dX1_init_53 : decode cX1_init 53 = .ok (.bipush 26, 2) := by decide +kernel
theorem dX1_init_55 : decode cX1_init 55 = .ok (.invokestatic 34, 3) := by decide +kernel
theorem dX1_init_58 : decode cX1_init 58 = .ok (.iconst 5, 1) := by decide +kernel
theorem dX1_init_59 : decode cX1_init 59 = .ok (.iastore, 1) := by decide +kernel
theorem dX1_init_60 : decode cX1_init 60 = .ok (.return_, 1) := by decide +kernel
set_option maxRecDepth 20000 in
theorem ggX1_kindOf_X10_isLetter : GoodIn wsX1_kindOf wsX10_isLetter := goodIn_r _ [3] (by decide +kernel) (by decide +kernel)
set_option maxRecDepth 20000 in
theorem gX1_kindOf_X10_isLetter_n38 : GoodIn wsX1_kindOf (wsX10_isLetter) := ggX1_kindOf_X10_isLetter
theorem dX1_kindOf_0 : decode cX1_kindOf 0 = .ok (.iload_n 0, 1) := by decide +kernel
theorem dX1_kindOf_1 : decode cX1_kindOf 1 = .ok (.invokestatic 38, 3) := by decide +kernel
theorem dX1_kindOf_4 : decode cX1_kindOf 4 = .ok (.ifCond .eq 8, 3) := by decide +kernel
theorem dX1_kindOf_7 : decode cX1_kindOf 7 = .ok (.iload_n 0, 1) := by decide +kernel
theorem dX1_kindOf_8 : decode cX1_kindOf 8 = .ok (.bipush 97, 2) := by decide +kernel
theorem dX1_kindOf_10 : decode cX1_kindOf 10 = .ok (.isub, 1) := by decide +kernel
theorem dX1_kindOf_11 : decode cX1_kindOf 11 = .ok (.ireturn, 1) := by decide +kernel
theorem dX1_kindOf_12 : decode cX1_kindOf 12 = .ok (.iload_n 0, 1) := by decide +kernel
theorem dX1_kindOf_13 : decode cX1_kindOf 13 = .ok (.bipush 32, 2) := by decide +kernel
theorem dX1_kindOf_15 : decode cX1_kindOf 15 = .ok (.if_icmp .ne 8, 3) := by decide +kernel
theorem dX1_kindOf_18 : decode cX1_kindOf 18 = .ok (.bipush 26, 2) := by decide +kernel
theorem dX1_kindOf_20 : decode cX1_kindOf 20 = .ok (.goto 5, 3) := by decide +kernel
theorem dX1_kindOf_23 : decode cX1_kindOf 23 = .ok (.bipush 27, 2) := by decide +kernel
theorem dX1_kindOf_25 : decode cX1_kindOf 25 = .ok (.ireturn, 1) := by decide +kernel
theorem dX1_longest_0 : decode cX1_longest 0 = .ok (.aload_n 0, 1) := by decide +kernel
theorem dX1_longest_1 : decode cX1_longest 1 = .ok (.getfield 9, 3) := by decide +kernel
theorem dX1_longest_4 : decode cX1_longest 4 = .ok (.ireturn, 1) := by decide +kernel
theorem dX1_spread_0 : decode cX1_spread 0 = .ok (.aload_n 0, 1) := by decide +kernel
theorem dX1_spread_1 : decode cX1_spread 1 = .ok (.getfield 15, 3) := by decide +kernel
theorem dX1_spread_4 : decode cX1_spread 4 = .ok (.ireturn, 1) := by decide +kernel
set_option maxRecDepth 20000 in
theorem ggX1_changeLine_X10_within : GoodIn wsX1_changeLine wsX10_within := goodIn_r _ [5] (by decide +kernel) (by decide +kernel)
set_option maxRecDepth 20000 in
theorem gX1_changeLine_X10_within_n42 : GoodIn wsX1_changeLine (wsX10_within) := ggX1_changeLine_X10_within
theorem dX1_changeLine_0 : decode cX1_changeLine 0 = .ok (.iload_n 1, 1) := by decide +kernel
theorem dX1_changeLine_1 : decode cX1_changeLine 1 = .ok (.bipush 10, 2) := by decide +kernel
theorem dX1_changeLine_3 : decode cX1_changeLine 3 = .ok (.bipush 60, 2) := by decide +kernel
theorem dX1_changeLine_5 : decode cX1_changeLine 5 = .ok (.invokestatic 42, 3) := by decide +kernel
theorem dX1_changeLine_8 : decode cX1_changeLine 8 = .ok (.ifCond .eq 12, 3) := by decide +kernel
theorem dX1_changeLine_11 : decode cX1_changeLine 11 = .ok (.iload_n 2, 1) := by decide +kernel
theorem dX1_changeLine_12 : decode cX1_changeLine 12 = .ok (.iconst 1, 1) := by decide +kernel
theorem dX1_changeLine_13 : decode cX1_changeLine 13 = .ok (.iconst 3, 1) := by decide +kernel
theorem dX1_changeLine_14 : decode cX1_changeLine 14 = .ok (.invokestatic 42, 3) := by decide +kernel
theorem dX1_changeLine_17 : decode cX1_changeLine 17 = .ok (.ifCond .ne 5, 3) := by decide +kernel
theorem dX1_changeLine_20 : decode cX1_changeLine 20 = .ok (.iconst 0, 1) := by decide +kernel
theorem dX1_changeLine_21 : decode cX1_changeLine 21 = .ok (.ireturn, 1) := by decide +kernel
theorem dX1_changeLine_22 : decode cX1_changeLine 22 = .ok (.aload_n 0, 1) := by decide +kernel
theorem dX1_changeLine_23 : decode cX1_changeLine 23 = .ok (.iload_n 1, 1) := by decide +kernel
theorem dX1_changeLine_24 : decode cX1_changeLine 24 = .ok (.putfield 9, 3) := by decide +kernel
theorem dX1_changeLine_27 : decode cX1_changeLine 27 = .ok (.aload_n 0, 1) := by decide +kernel
theorem dX1_changeLine_28 : decode cX1_changeLine 28 = .ok (.iload_n 2, 1) := by decide +kernel
theorem dX1_changeLine_29 : decode cX1_changeLine 29 = .ok (.putfield 15, 3) := by decide +kernel
theorem dX1_changeLine_32 : decode cX1_changeLine 32 = .ok (.iconst 1, 1) := by decide +kernel
theorem dX1_changeLine_33 : decode cX1_changeLine 33 = .ok (.ireturn, 1) := by decide +kernel
set_option maxRecDepth 20000 in
theorem ggX1_changeStrains_X10_within : GoodIn wsX1_changeStrains wsX10_within := goodIn_r _ [8] (by decide +kernel) (by decide +kernel)
set_option maxRecDepth 20000 in
theorem gX1_changeStrains_X10_within_n42 : GoodIn wsX1_changeStrains (wsX10_within) := ggX1_changeStrains_X10_within
set_option maxRecDepth 20000 in
theorem ggX1_changeStrains_X1_pair : GoodIn wsX1_changeStrains wsX1_pair := goodIn_r _ [12] (by decide +kernel) (by decide +kernel)
set_option maxRecDepth 20000 in
theorem gX1_changeStrains_X1_pair : GoodIn wsX1_changeStrains (va_wsS RX1 34 yX1_pair wsX1_pair) := goodIn_app (goodIn_of _ (by decide +kernel)) ggX1_changeStrains_X1_pair
theorem dX1_changeStrains_0 : decode cX1_changeStrains 0 = .ok (.iload_n 2, 1) := by decide +kernel
theorem dX1_changeStrains_1 : decode cX1_changeStrains 1 = .ok (.iconst 0, 1) := by decide +kernel
theorem dX1_changeStrains_2 : decode cX1_changeStrains 2 = .ok (.sipush 10000, 3) := by decide +kernel
theorem dX1_changeStrains_5 : decode cX1_changeStrains 5 = .ok (.invokestatic 42, 3) := by decide +kernel
theorem dX1_changeStrains_8 : decode cX1_changeStrains 8 = .ok (.ifCond .eq 30, 3) := by decide +kernel
theorem dX1_changeStrains_11 : decode cX1_changeStrains 11 = .ok (.iload_n 3, 1) := by decide +kernel
theorem dX1_changeStrains_12 : decode cX1_changeStrains 12 = .ok (.iconst 0, 1) := by decide +kernel
theorem dX1_changeStrains_13 : decode cX1_changeStrains 13 = .ok (.sipush 10000, 3) := by decide +kernel
theorem dX1_changeStrains_16 : decode cX1_changeStrains 16 = .ok (.invokestatic 42, 3) := by decide +kernel
theorem dX1_changeStrains_19 : decode cX1_changeStrains 19 = .ok (.ifCond .eq 19, 3) := by decide +kernel
theorem dX1_changeStrains_22 : decode cX1_changeStrains 22 = .ok (.iload 4, 2) := by decide +kernel
theorem dX1_changeStrains_24 : decode cX1_changeStrains 24 = .ok (.iconst 0, 1) := by decide +kernel
theorem dX1_changeStrains_25 : decode cX1_changeStrains 25 = .ok (.sipush 10000, 3) := by decide +kernel
theorem dX1_changeStrains_28 : decode cX1_changeStrains 28 = .ok (.invokestatic 42, 3) := by decide +kernel
theorem dX1_changeStrains_31 : decode cX1_changeStrains 31 = .ok (.ifCond .eq 7, 3) := by decide +kernel
theorem dX1_changeStrains_34 : decode cX1_changeStrains 34 = .ok (.iconst 1, 1) := by decide +kernel
theorem dX1_changeStrains_35 : decode cX1_changeStrains 35 = .ok (.goto 4, 3) := by decide +kernel
theorem dX1_changeStrains_38 : decode cX1_changeStrains 38 = .ok (.iconst 0, 1) := by decide +kernel
theorem dX1_changeStrains_39 : decode cX1_changeStrains 39 = .ok (.istore 6, 2) := by decide +kernel
theorem dX1_changeStrains_41 : decode cX1_changeStrains 41 = .ok (.iload 6, 2) := by decide +kernel
theorem dX1_changeStrains_43 : decode cX1_changeStrains 43 = .ok (.ifCond .eq 25, 3) := by decide +kernel
theorem dX1_changeStrains_46 : decode cX1_changeStrains 46 = .ok (.iload_n 1, 1) := by decide +kernel
theorem dX1_changeStrains_47 : decode cX1_changeStrains 47 = .ok (.iconst 0, 1) := by decide +kernel
theorem dX1_changeStrains_48 : decode cX1_changeStrains 48 = .ok (.bipush 100, 2) := by decide +kernel
theorem dX1_changeStrains_50 : decode cX1_changeStrains 50 = .ok (.invokestatic 42, 3) := by decide +kernel
theorem dX1_changeStrains_53 : decode cX1_changeStrains 53 = .ok (.ifCond .eq 15, 3) := by decide +kernel
theorem dX1_changeStrains_56 : decode cX1_changeStrains 56 = .ok (.iload 5, 2) := by decide +kernel
theorem dX1_changeStrains_58 : decode cX1_changeStrains 58 = .ok (.iconst 0, 1) := by decide +kernel
theorem dX1_changeStrains_59 : decode cX1_changeStrains 59 = .ok (.sipush 1000, 3) := by decide +kernel
theorem dX1_changeStrains_62 : decode cX1_changeStrains 62 = .ok (.invokestatic 42, 3) := by decide +kernel
theorem dX1_changeStrains_65 : decode cX1_changeStrains 65 = .ok (.ifCond .ne 5, 3) := by decide +kernel
theorem dX1_changeStrains_68 : decode cX1_changeStrains 68 = .ok (.iconst 0, 1) := by decide +kernel
theorem dX1_changeStrains_69 : decode cX1_changeStrains 69 = .ok (.ireturn, 1) := by decide +kernel
theorem dX1_changeStrains_70 : decode cX1_changeStrains 70 = .ok (.aload_n 0, 1) := by decide +kernel
theorem dX1_changeStrains_71 : decode cX1_changeStrains 71 = .ok (.iload_n 1, 1) := by decide +kernel
theorem dX1_changeStrains_72 : decode cX1_changeStrains 72 = .ok (.putfield 18, 3) := by decide +kernel
theorem dX1_changeStrains_75 : decode cX1_changeStrains 75 = .ok (.aload_n 0, 1) := by decide +kernel
theorem dX1_changeStrains_76 : decode cX1_changeStrains 76 = .ok (.iload_n 2, 1) := by decide +kernel
theorem dX1_changeStrains_77 : decode cX1_changeStrains 77 = .ok (.putfield 21, 3) := by decide +kernel
theorem dX1_changeStrains_80 : decode cX1_changeStrains 80 = .ok (.aload_n 0, 1) := by decide +kernel
theorem dX1_changeStrains_81 : decode cX1_changeStrains 81 = .ok (.iload_n 3, 1) := by decide +kernel
theorem dX1_changeStrains_82 : decode cX1_changeStrains 82 = .ok (.putfield 24, 3) := by decide +kernel
theorem dX1_changeStrains_85 : decode cX1_changeStrains 85 = .ok (.aload_n 0, 1) := by decide +kernel
theorem dX1_changeStrains_86 : decode cX1_changeStrains 86 = .ok (.iload 4, 2) := by decide +kernel
theorem dX1_changeStrains_88 : decode cX1_changeStrains 88 = .ok (.putfield 27, 3) := by decide +kernel
theorem dX1_changeStrains_91 : decode cX1_changeStrains 91 = .ok (.aload_n 0, 1) := by decide +kernel
theorem dX1_changeStrains_92 : decode cX1_changeStrains 92 = .ok (.getfield 30, 3) := by decide +kernel
theorem dX1_changeStrains_95 : decode cX1_changeStrains 95 = .ok (.bipush 26, 2) := by decide +kernel
theorem dX1_changeStrains_97 : decode cX1_changeStrains 97 = .ok (.bipush 26, 2) := by decide +kernel
theorem dX1_changeStrains_99 : decode cX1_changeStrains 99 = .ok (.invokestatic 34, 3) := by decide +kernel
theorem dX1_changeStrains_102 : decode cX1_changeStrains 102 = .ok (.iload 5, 2) := by decide +kernel
theorem dX1_changeStrains_104 : decode cX1_changeStrains 104 = .ok (.iastore, 1) := by decide +kernel
theorem dX1_changeStrains_105 : decode cX1_changeStrains 105 = .ok (.iconst 1, 1) := by decide +kernel
theorem dX1_changeStrains_106 : decode cX1_changeStrains 106 = .ok (.ireturn, 1) := by decide +kernel
set_option maxRecDepth 20000 in
theorem ggX1_changeLikeness_X10_isLetter : GoodIn wsX1_changeLikeness wsX10_isLetter := goodIn_r _ [4] (by decide +kernel) (by decide +kernel)
set_option maxRecDepth 20000 in
theorem gX1_changeLikeness_X10_isLetter_n38 : GoodIn wsX1_changeLikeness (wsX10_isLetter) := ggX1_changeLikeness_X10_isLetter
set_option maxRecDepth 20000 in
theorem ggX1_changeLikeness_X10_within : GoodIn wsX1_changeLikeness wsX10_within := goodIn_r _ [6] (by decide +kernel) (by decide +kernel)
set_option maxRecDepth 20000 in
theorem gX1_changeLikeness_X10_within_n42 : GoodIn wsX1_changeLikeness (wsX10_within) := ggX1_changeLikeness_X10_within
set_option maxRecDepth 20000 in
theorem ggX1_changeLikeness_X1_kindOf : GoodIn wsX1_changeLikeness wsX1_kindOf := goodIn_r _ [10, 2, 3, 4] (by decide +kernel) (by decide +kernel)
set_option maxRecDepth 20000 in
theorem gX1_changeLikeness_X1_kindOf : GoodIn wsX1_changeLikeness (va_wsS RX1 46 yX1_kindOf wsX1_kindOf) := goodIn_app (goodIn_of _ (by decide +kernel)) ggX1_changeLikeness_X1_kindOf
set_option maxRecDepth 20000 in
theorem ggX1_changeLikeness_X1_pair : GoodIn wsX1_changeLikeness wsX1_pair := goodIn_r _ [13] (by decide +kernel) (by decide +kernel)
set_option maxRecDepth 20000 in
theorem gX1_changeLikeness_X1_pair : GoodIn wsX1_changeLikeness (va_wsS RX1 34 yX1_pair wsX1_pair) := goodIn_app (goodIn_of _ (by decide +kernel)) ggX1_changeLikeness_X1_pair
theorem dX1_changeLikeness_0 : decode cX1_changeLikeness 0 = .ok (.iload_n 1, 1) := by decide +kernel
theorem dX1_changeLikeness_1 : decode cX1_changeLikeness 1 = .ok (.invokestatic 38, 3) := by decide +kernel
theorem dX1_changeLikeness_4 : decode cX1_changeLikeness 4 = .ok (.ifCond .eq 21, 3) := by decide +kernel
theorem dX1_changeLikeness_7 : decode cX1_changeLikeness 7 = .ok (.iload_n 2, 1) := by decide +kernel
theorem dX1_changeLikeness_8 : decode cX1_changeLikeness 8 = .ok (.invokestatic 38, 3) := by decide +kernel
theorem dX1_changeLikeness_11 : decode cX1_changeLikeness 11 = .ok (.ifCond .eq 14, 3) := by decide +kernel
theorem dX1_changeLikeness_14 : decode cX1_changeLikeness 14 = .ok (.iload_n 3, 1) := by decide +kernel
theorem dX1_changeLikeness_15 : decode cX1_changeLikeness 15 = .ok (.iconst 0, 1) := by decide +kernel
theorem dX1_changeLikeness_16 : decode cX1_changeLikeness 16 = .ok (.sipush 1000, 3) := by decide +kernel
theorem dX1_changeLikeness_19 : decode cX1_changeLikeness 19 = .ok (.invokestatic 42, 3) := by decide +kernel
theorem dX1_changeLikeness_22 : decode cX1_changeLikeness 22 = .ok (.ifCond .ne 5, 3) := by decide +kernel
theorem dX1_changeLikeness_25 : decode cX1_changeLikeness 25 = .ok (.iconst (-1), 1) := by decide +kernel
theorem dX1_changeLikeness_26 : decode cX1_changeLikeness 26 = .ok (.ireturn, 1) := by decide +kernel
theorem dX1_changeLikeness_27 : decode cX1_changeLikeness 27 = .ok (.aload_n 0, 1) := by decide +kernel
theorem dX1_changeLikeness_28 : decode cX1_changeLikeness 28 = .ok (.getfield 30, 3) := by decide +kernel
theorem dX1_changeLikeness_31 : decode cX1_changeLikeness 31 = .ok (.iload_n 1, 1) := by decide +kernel
theorem dX1_changeLikeness_32 : decode cX1_changeLikeness 32 = .ok (.invokestatic 46, 3) := by decide +kernel
theorem dX1_changeLikeness_35 : decode cX1_changeLikeness 35 = .ok (.iload_n 2, 1) := by decide +kernel
theorem dX1_changeLikeness_36 : decode cX1_changeLikeness 36 = .ok (.invokestatic 46, 3) := by decide +kernel
theorem dX1_changeLikeness_39 : decode cX1_changeLikeness 39 = .ok (.invokestatic 34, 3) := by decide +kernel
theorem dX1_changeLikeness_42 : decode cX1_changeLikeness 42 = .ok (.iaload, 1) := by decide +kernel
theorem dX1_changeLikeness_43 : decode cX1_changeLikeness 43 = .ok (.istore 4, 2) := by decide +kernel
theorem dX1_changeLikeness_45 : decode cX1_changeLikeness 45 = .ok (.aload_n 0, 1) := by decide +kernel
theorem dX1_changeLikeness_46 : decode cX1_changeLikeness 46 = .ok (.getfield 30, 3) := by decide +kernel
theorem dX1_changeLikeness_49 : decode cX1_changeLikeness 49 = .ok (.iload_n 1, 1) := by decide +kernel
theorem dX1_changeLikeness_50 : decode cX1_changeLikeness 50 = .ok (.invokestatic 46, 3) := by decide +kernel
theorem dX1_changeLikeness_53 : decode cX1_changeLikeness 53 = .ok (.iload_n 2, 1) := by decide +kernel
theorem dX1_changeLikeness_54 : decode cX1_changeLikeness 54 = .ok (.invokestatic 46, 3) := by decide +kernel
theorem dX1_changeLikeness_57 : decode cX1_changeLikeness 57 = .ok (.invokestatic 34, 3) := by decide +kernel
theorem dX1_changeLikeness_60 : decode cX1_changeLikeness 60 = .ok (.iload_n 3, 1) := by decide +kernel
theorem dX1_changeLikeness_61 : decode cX1_changeLikeness 61 = .ok (.iastore, 1) := by decide +kernel
theorem dX1_changeLikeness_62 : decode cX1_changeLikeness 62 = .ok (.aload_n 0, 1) := by decide +kernel
theorem dX1_changeLikeness_63 : decode cX1_changeLikeness 63 = .ok (.getfield 30, 3) := by decide +kernel
theorem dX1_changeLikeness_66 : decode cX1_changeLikeness 66 = .ok (.iload_n 2, 1) := by decide +kernel
theorem dX1_changeLikeness_67 : decode cX1_changeLikeness 67 = .ok (.invokestatic 46, 3) := by decide +kernel
theorem dX1_changeLikeness_70 : decode cX1_changeLikeness 70 = .ok (.iload_n 1, 1) := by decide +kernel
theorem dX1_changeLikeness_71 : decode cX1_changeLikeness 71 = .ok (.invokestatic 46, 3) := by decide +kernel
theorem dX1_changeLikeness_74 : decode cX1_changeLikeness 74 = .ok (.invokestatic 34, 3) := by decide +kernel
theorem dX1_changeLikeness_77 : decode cX1_changeLikeness 77 = .ok (.iload_n 3, 1) := by decide +kernel
theorem dX1_changeLikeness_78 : decode cX1_changeLikeness 78 = .ok (.iastore, 1) := by decide +kernel
theorem dX1_changeLikeness_79 : decode cX1_changeLikeness 79 = .ok (.iload 4, 2) := by decide +kernel
theorem dX1_changeLikeness_81 : decode cX1_changeLikeness 81 = .ok (.ireturn, 1) := by decide +kernel
set_option maxRecDepth 20000 in
theorem ggX1_strainOfPlace_X1_pair : GoodIn wsX1_strainOfPlace wsX1_pair := goodIn_r _ [5] (by decide +kernel) (by decide +kernel)
set_option maxRecDepth 20000 in
theorem gX1_strainOfPlace_X1_pair : GoodIn wsX1_strainOfPlace (va_wsS RX1 34 yX1_pair wsX1_pair) := goodIn_app (goodIn_of _ (by decide +kernel)) ggX1_strainOfPlace_X1_pair
theorem dX1_strainOfPlace_0 : decode cX1_strainOfPlace 0 = .ok (.aload_n 0, 1) := by decide +kernel
theorem dX1_strainOfPlace_1 : decode cX1_strainOfPlace 1 = .ok (.getfield 30, 3) := by decide +kernel
theorem dX1_strainOfPlace_4 : decode cX1_strainOfPlace 4 = .ok (.iload_n 1, 1) := by decide +kernel
theorem dX1_strainOfPlace_5 : decode cX1_strainOfPlace 5 = .ok (.iload_n 2, 1) := by decide +kernel
theorem dX1_strainOfPlace_6 : decode cX1_strainOfPlace 6 = .ok (.invokestatic 34, 3) := by decide +kernel
theorem dX1_strainOfPlace_9 : decode cX1_strainOfPlace 9 = .ok (.iaload, 1) := by decide +kernel
theorem dX1_strainOfPlace_10 : decode cX1_strainOfPlace 10 = .ok (.ireturn, 1) := by decide +kernel
set_option maxRecDepth 20000 in
theorem ggX1_strainOfLine_X1_strainOfEnd : GoodIn wsX1_strainOfLine wsX1_strainOfEnd := goodIn_r _ [7, 8, 9, 10, 11, 12, 13, 14, 15, 16, 17] (by decide +kernel) (by decide +kernel)
set_option maxRecDepth 20000 in
theorem gX1_strainOfLine_X1_strainOfEnd : GoodIn wsX1_strainOfLine (wsV RX1 50 RX1 yX1_strainOfEnd wsX1_strainOfEnd) := goodIn_app (goodIn_of _ (by decide +kernel)) ggX1_strainOfLine_X1_strainOfEnd
theorem dX1_strainOfLine_0 : decode cX1_strainOfLine 0 = .ok (.aload_n 0, 1) := by decide +kernel
theorem dX1_strainOfLine_1 : decode cX1_strainOfLine 1 = .ok (.getfield 9, 3) := by decide +kernel
theorem dX1_strainOfLine_4 : decode cX1_strainOfLine 4 = .ok (.iload_n 1, 1) := by decide +kernel
theorem dX1_strainOfLine_5 : decode cX1_strainOfLine 5 = .ok (.isub, 1) := by decide +kernel
theorem dX1_strainOfLine_6 : decode cX1_strainOfLine 6 = .ok (.istore_n 3, 1) := by decide +kernel
theorem dX1_strainOfLine_7 : decode cX1_strainOfLine 7 = .ok (.iload_n 3, 1) := by decide +kernel
theorem dX1_strainOfLine_8 : decode cX1_strainOfLine 8 = .ok (.iload_n 3, 1) := by decide +kernel
theorem dX1_strainOfLine_9 : decode cX1_strainOfLine 9 = .ok (.imul, 1) := by decide +kernel
theorem dX1_strainOfLine_10 : decode cX1_strainOfLine 10 = .ok (.aload_n 0, 1) := by decide +kernel
theorem dX1_strainOfLine_11 : decode cX1_strainOfLine 11 = .ok (.getfield 18, 3) := by decide +kernel
theorem dX1_strainOfLine_14 : decode cX1_strainOfLine 14 = .ok (.imul, 1) := by decide +kernel
theorem dX1_strainOfLine_15 : decode cX1_strainOfLine 15 = .ok (.aload_n 0, 1) := by decide +kernel
theorem dX1_strainOfLine_16 : decode cX1_strainOfLine 16 = .ok (.iload_n 2, 1) := by decide +kernel
theorem dX1_strainOfLine_17 : decode cX1_strainOfLine 17 = .ok (.invokevirtual 50, 3) := by decide +kernel
theorem dX1_strainOfLine_20 : decode cX1_strainOfLine 20 = .ok (.iadd, 1) := by decide +kernel
theorem dX1_strainOfLine_21 : decode cX1_strainOfLine 21 = .ok (.ireturn, 1) := by decide +kernel
theorem dX1_strainOfEnd_0 : decode cX1_strainOfEnd 0 = .ok (.iload_n 1, 1) := by decide +kernel
theorem dX1_strainOfEnd_1 : decode cX1_strainOfEnd 1 = .ok (.tableswitch 43 44 47 #[33, 38, 31, 33], 31) := by decide +kernel
theorem dX1_strainOfEnd_32 : decode cX1_strainOfEnd 32 = .ok (.iconst 0, 1) := by decide +kernel
theorem dX1_strainOfEnd_33 : decode cX1_strainOfEnd 33 = .ok (.ireturn, 1) := by decide +kernel
theorem dX1_strainOfEnd_34 : decode cX1_strainOfEnd 34 = .ok (.aload_n 0, 1) := by decide +kernel
theorem dX1_strainOfEnd_35 : decode cX1_strainOfEnd 35 = .ok (.getfield 21, 3) := by decide +kernel
theorem dX1_strainOfEnd_38 : decode cX1_strainOfEnd 38 = .ok (.ireturn, 1) := by decide +kernel
theorem dX1_strainOfEnd_39 : decode cX1_strainOfEnd 39 = .ok (.aload_n 0, 1) := by decide +kernel
theorem dX1_strainOfEnd_40 : decode cX1_strainOfEnd 40 = .ok (.getfield 27, 3) := by decide +kernel
theorem dX1_strainOfEnd_43 : decode cX1_strainOfEnd 43 = .ok (.ireturn, 1) := by decide +kernel
theorem dX1_strainOfEnd_44 : decode cX1_strainOfEnd 44 = .ok (.aload_n 0, 1) := by decide +kernel
theorem dX1_strainOfEnd_45 : decode cX1_strainOfEnd 45 = .ok (.getfield 24, 3) := by decide +kernel
theorem dX1_strainOfEnd_48 : decode cX1_strainOfEnd 48 = .ok (.ireturn, 1) := by decide +kernel
theorem dX1_pair_0 : decode cX1_pair 0 = .ok (.iload_n 0, 1) := by decide +kernel
theorem dX1_pair_1 : decode cX1_pair 1 = .ok (.bipush 28, 2) := by decide +kernel
theorem dX1_pair_3 : decode cX1_pair 3 = .ok (.imul, 1) := by decide +kernel
theorem dX1_pair_4 : decode cX1_pair 4 = .ok (.iload_n 1, 1) := by decide +kernel
theorem dX1_pair_5 : decode cX1_pair 5 = .ok (.iadd, 1) := by decide +kernel
theorem dX1_pair_6 : decode cX1_pair 6 = .ok (.ireturn, 1) := by decide +kernel
theorem dX2_init_0 : decode cX2_init 0 = .ok (.aload_n 0, 1) := by decide +kernel
theorem dX2_init_1 : decode cX2_init 1 = .ok (.invokespecial 1, 3) := by decide +kernel
theorem dX2_init_4 : decode cX2_init 4 = .ok (.aload_n 0, 1) := by decide +kernel
theorem dX2_init_5 : decode cX2_init 5 = .ok (.bipush 10, 2) := by decide +kernel
theorem dX2_init_7 : decode cX2_init 7 = .ok (.putfield 7, 3) := by decide +kernel
theorem dX2_init_10 : decode cX2_init 10 = .ok (.aload_n 0, 1) := by decide +kernel
theorem dX2_init_11 : decode cX2_init 11 = .ok (.iconst 3, 1) := by decide +kernel
theorem dX2_init_12 : decode cX2_init 12 = .ok (.putfield 13, 3) := by decide +kernel
theorem dX2_init_15 : decode cX2_init 15 = .ok (.return_, 1) := by decide +kernel
set_option maxRecDepth 20000 in
theorem ggX2_change_X10_within : GoodIn wsX2_change wsX10_within := goodIn_r _ [5] (by decide +kernel) (by decide +kernel)
set_option maxRecDepth 20000 in
theorem gX2_change_X10_within_n16 : GoodIn wsX2_change (wsX10_within) := ggX2_change_X10_within
theorem dX2_change_0 : decode cX2_change 0 = .ok (.iload_n 1, 1) := by decide +kernel
theorem dX2_change_1 : decode cX2_change 1 = .ok (.iconst 2, 1) := by decide +kernel
theorem dX2_change_2 : decode cX2_change 2 = .ok (.bipush 40, 2) := by decide +kernel
theorem dX2_change_4 : decode cX2_change 4 = .ok (.invokestatic 16, 3) := by decide +kernel
theorem dX2_change_7 : decode cX2_change 7 = .ok (.ifCond .eq 13, 3) := by decide +kernel
theorem dX2_change_10 : decode cX2_change 10 = .ok (.iload_n 2, 1) := by decide +kernel
theorem dX2_change_11 : decode cX2_change 11 = .ok (.iconst 2, 1) := by decide +kernel
theorem dX2_change_12 : decode cX2_change 12 = .ok (.bipush 7, 2) := by decide +kernel
theorem dX2_change_14 : decode cX2_change 14 = .ok (.invokestatic 16, 3) := by decide +kernel
theorem dX2_change_17 : decode cX2_change 17 = .ok (.ifCond .ne 5, 3) := by decide +kernel
theorem dX2_change_20 : decode cX2_change 20 = .ok (.iconst 0, 1) := by decide +kernel
theorem dX2_change_21 : decode cX2_change 21 = .ok (.ireturn, 1) := by decide +kernel
theorem dX2_change_22 : decode cX2_change 22 = .ok (.aload_n 0, 1) := by decide +kernel
theorem dX2_change_23 : decode cX2_change 23 = .ok (.iload_n 1, 1) := by decide +kernel
theorem dX2_change_24 : decode cX2_change 24 = .ok (.putfield 7, 3) := by decide +kernel
theorem dX2_change_27 : decode cX2_change 27 = .ok (.aload_n 0, 1) := by decide +kernel
theorem dX2_change_28 : decode cX2_change 28 = .ok (.iload_n 2, 1) := by decide +kernel
theorem dX2_change_29 : decode cX2_change 29 = .ok (.putfield 13, 3) := by decide +kernel
theorem dX2_change_32 : decode cX2_change 32 = .ok (.iconst 1, 1) := by decide +kernel
theorem dX2_change_33 : decode cX2_change 33 = .ok (.ireturn, 1) := by decide +kernel
theorem dX2_pageOf_0 : decode cX2_pageOf 0 = .ok (.iload_n 1, 1) := by decide +kernel
theorem dX2_pageOf_1 : decode cX2_pageOf 1 = .ok (.aload_n 0, 1) := by decide +kernel
theorem dX2_pageOf_2 : decode cX2_pageOf 2 = .ok (.getfield 7, 3) := by decide +kernel
theorem dX2_pageOf_5 : decode cX2_pageOf 5 = .ok (.idiv, 1) := by decide +kernel
theorem dX2_pageOf_6 : decode cX2_pageOf 6 = .ok (.ireturn, 1) := by decide +kernel
theorem dX2_tintOf_0 : decode cX2_tintOf 0 = .ok (.iload_n 1, 1) := by decide +kernel
theorem dX2_tintOf_1 : decode cX2_tintOf 1 = .ok (.aload_n 0, 1) := by decide +kernel
theorem dX2_tintOf_2 : decode cX2_tintOf 2 = .ok (.getfield 7, 3) := by decide +kernel
theorem dX2_tintOf_5 : decode cX2_tintOf 5 = .ok (.irem, 1) := by decide +kernel
theorem dX2_tintOf_6 : decode cX2_tintOf 6 = .ok (.iload_n 1, 1) := by decide +kernel
theorem dX2_tintOf_7 : decode cX2_tintOf 7 = .ok (.aload_n 0, 1) := by decide +kernel
theorem dX2_tintOf_8 : decode cX2_tintOf 8 = .ok (.getfield 7, 3) := by decide +kernel
theorem dX2_tintOf_11 : decode cX2_tintOf 11 = .ok (.idiv, 1) := by decide +kernel
theorem dX2_tintOf_12 : decode cX2_tintOf 12 = .ok (.iadd, 1) := by decide +kernel
theorem dX2_tintOf_13 : decode cX2_tintOf 13 = .ok (.aload_n 0, 1) := by decide +kernel
theorem dX2_tintOf_14 : decode cX2_tintOf 14 = .ok (.getfield 13, 3) := by decide +kernel
theorem dX2_tintOf_17 : decode cX2_tintOf 17 = .ok (.irem, 1) := by decide +kernel
theorem dX2_tintOf_18 : decode cX2_tintOf 18 = .ok (.ireturn, 1) := by decide +kernel
set_option maxRecDepth 20000 in
theorem ggX3_init_X9_init : GoodIn wsX3_init wsX9_init := goodIn_r _ [11, 12, 2, 3, 13, 14, 15, 16, 17, 18, 19, 20] (by decide +kernel) (by decide +kernel)
set_option maxRecDepth 20000 in
theorem gX3_init_X9_init_n11 : GoodIn wsX3_init (wsX9_init) := ggX3_init_X9_init
theorem dX3_init_0 : decode cX3_init 0 = .ok (.aload_n 0, 1) := by decide +kernel
theorem dX3_init_1 : decode cX3_init 1 = .ok (.invokespecial 3, 3) := by decide +kernel
theorem dX3_init_4 : decode cX3_init 4 = .ok (.aload_n 0, 1) := by decide +kernel
theorem dX3_init_5 : decode cX3_init 5 = .ok (.new 9, 3) := by decide +kernel
theorem dX3_init_8 : decode cX3_init 8 = .ok (.dup, 1) := by decide +kernel
theorem dX3_init_9 : decode cX3_init 9 = .ok (.invokespecial 11, 3) := by decide +kernel
theorem dX3_init_12 : decode cX3_init 12 = .ok (.putfield 12, 3) := by decide +kernel
theorem dX3_init_15 : decode cX3_init 15 = .ok (.aload_n 0, 1) := by decide +kernel
theorem dX3_init_16 : decode cX3_init 16 = .ok (.iconst 0, 1) := by decide +kernel
theorem dX3_init_17 : decode cX3_init 17 = .ok (.putfield 18, 3) := by decide +kernel
theorem dX3_init_20 : decode cX3_init 20 = .ok (.aload_n 0, 1) := by decide +kernel
theorem dX3_init_21 : decode cX3_init 21 = .ok (.iconst (-1), 1) := by decide +kernel
theorem dX3_init_22 : decode cX3_init 22 = .ok (.putfield 22, 3) := by decide +kernel
theorem dX3_init_25 : decode cX3_init 25 = .ok (.return_, 1) := by decide +kernel
theorem dX3_units_0 : decode cX3_units 0 = .ok (.aload_n 0, 1) := by decide +kernel
theorem dX3_units_1 : decode cX3_units 1 = .ok (.getfield 12, 3) := by decide +kernel
theorem dX3_units_4 : decode cX3_units 4 = .ok (.areturn, 1) := by decide +kernel
theorem dX3_hasFault_0 : decode cX3_hasFault 0 = .ok (.aload_n 0, 1) := by decide +kernel
theorem dX3_hasFault_1 : decode cX3_hasFault 1 = .ok (.getfield 18, 3) := by decide +kernel
theorem dX3_hasFault_4 : decode cX3_hasFault 4 = .ok (.ifCond .eq 7, 3) := by decide +kernel
theorem dX3_hasFault_7 : decode cX3_hasFault 7 = .ok (.iconst 1, 1) := by decide +kernel
theorem dX3_hasFault_8 : decode cX3_hasFault 8 = .ok (.goto 4, 3) := by decide +kernel
theorem dX3_hasFault_11 : decode cX3_hasFault 11 = .ok (.iconst 0, 1) := by decide +kernel
theorem dX3_hasFault_12 : decode cX3_hasFault 12 = .ok (.ireturn, 1) := by decide +kernel
theorem dX3_kind_0 : decode cX3_kind 0 = .ok (.aload_n 0, 1) := by decide +kernel
theorem dX3_kind_1 : decode cX3_kind 1 = .ok (.getfield 18, 3) := by decide +kernel
theorem dX3_kind_4 : decode cX3_kind 4 = .ok (.ireturn, 1) := by decide +kernel
theorem dX3_place_0 : decode cX3_place 0 = .ok (.aload_n 0, 1) := by decide +kernel
theorem dX3_place_1 : decode cX3_place 1 = .ok (.getfield 22, 3) := by decide +kernel
theorem dX3_place_4 : decode cX3_place 4 = .ok (.ireturn, 1) := by decide +kernel
set_option maxRecDepth 20000 in
theorem ggX3_read_X9_clear : GoodIn wsX3_read wsX9_clear := goodIn_r _ [8, 9, 55, 56, 57, 58] (by decide +kernel) (by decide +kernel)
set_option maxRecDepth 20000 in
theorem gX3_read_X9_clear : GoodIn wsX3_read (wsV RX3 25 RX9 yX9_clear wsX9_clear) := goodIn_app (goodIn_of _ (by decide +kernel)) ggX3_read_X9_clear
set_option maxRecDepth 20000 in
theorem ggX3_read_X7_length : GoodIn wsX3_read wsX7_length := goodIn_r _ [14, 15, 59, 60] (by decide +kernel) (by decide +kernel)
set_option maxRecDepth 20000 in
theorem gX3_read_X7_length : GoodIn wsX3_read (wsV RX3 28 RX7 yX7_length wsX7_length) := goodIn_app (goodIn_of _ (by decide +kernel)) ggX3_read_X7_length
set_option maxRecDepth 20000 in
theorem ggX3_read_X7_byteAt : GoodIn wsX3_read wsX7_byteAt := goodIn_r _ [19, 15, 20, 59, 60] (by decide +kernel) (by decide +kernel)
set_option maxRecDepth 20000 in
theorem gX3_read_X7_byteAt : GoodIn wsX3_read (wsV RX3 34 RX7 yX7_byteAt wsX7_byteAt) := goodIn_app (goodIn_of _ (by decide +kernel)) ggX3_read_X7_byteAt
set_option maxRecDepth 20000 in
theorem ggX3_read_X3_stateBehind : GoodIn wsX3_read wsX3_stateBehind := goodIn_r _ [25, 1, 26, 27, 28, 29, 30, 31, 24, 32, 33, 34, 35, 36, 2, 3, 37, 38, 39, 7, 40, 9, 41, 42, 43, 44, 45, 46, 47, 48, 49, 50, 51, 52, 53, 54, 55, 56, 57, 58] (by decide +kernel) (by decide +kernel)
set_option maxRecDepth 20000 in
theorem gX3_read_X3_stateBehind : GoodIn wsX3_read (wsV RX3 38 RX3 yX3_stateBehind wsX3_stateBehind) := goodIn_app (goodIn_of _ (by decide +kernel)) ggX3_read_X3_stateBehind
set_option maxRecDepth 20000 in
theorem ggX3_read_X3_refuse : GoodIn wsX3_read wsX3_refuse := goodIn_r _ [36, 2, 3, 52, 53, 54] (by decide +kernel) (by decide +kernel)
set_option maxRecDepth 20000 in
theorem gX3_read_X3_refuse : GoodIn wsX3_read (wsV RX3 42 RX3 yX3_refuse wsX3_refuse) := goodIn_app (goodIn_of _ (by decide +kernel)) ggX3_read_X3_refuse
theorem dX3_read_0 : decode cX3_read 0 = .ok (.aload_n 0, 1) := by decide +kernel
theorem dX3_read_1 : decode cX3_read 1 = .ok (.getfield 12, 3) := by decide +kernel
theorem dX3_read_4 : decode cX3_read 4 = .ok (.invokevirtual 25, 3) := by decide +kernel
theorem dX3_read_7 : decode cX3_read 7 = .ok (.aload_n 0, 1) := by decide +kernel
theorem dX3_read_8 : decode cX3_read 8 = .ok (.iconst 0, 1) := by decide +kernel
theorem dX3_read_9 : decode cX3_read 9 = .ok (.putfield 18, 3) := by decide +kernel
theorem dX3_read_12 : decode cX3_read 12 = .ok (.aload_n 0, 1) := by decide +kernel
theorem dX3_read_13 : decode cX3_read 13 = .ok (.iconst (-1), 1) := by decide +kernel
theorem dX3_read_14 : decode cX3_read 14 = .ok (.putfield 22, 3) := by decide +kernel
theorem dX3_read_17 : decode cX3_read 17 = .ok (.iconst 0, 1) := by decide +kernel
theorem dX3_read_18 : decode cX3_read 18 = .ok (.istore_n 2, 1) := by decide +kernel
theorem dX3_read_19 : decode cX3_read 19 = .ok (.iconst 0, 1) := by decide +kernel
theorem dX3_read_20 : decode cX3_read 20 = .ok (.istore_n 3, 1) := by decide +kernel
theorem dX3_read_21 : decode cX3_read 21 = .ok (.iload_n 3, 1) := by decide +kernel
theorem dX3_read_22 : decode cX3_read 22 = .ok (.aload_n 1, 1) := by decide +kernel
theorem dX3_read_23 : decode cX3_read 23 = .ok (.invokevirtual 28, 3) := by decide +kernel
theorem dX3_read_26 : decode cX3_read 26 = .ok (.if_icmp .ge 28, 3) := by decide +kernel
theorem dX3_read_29 : decode cX3_read 29 = .ok (.aload_n 0, 1) := by decide +kernel
theorem dX3_read_30 : decode cX3_read 30 = .ok (.getfield 18, 3) := by decide +kernel
theorem dX3_read_33 : decode cX3_read 33 = .ok (.ifCond .ne 21, 3) := by decide +kernel
theorem dX3_read_36 : decode cX3_read 36 = .ok (.aload_n 0, 1) := by decide +kernel
theorem dX3_read_37 : decode cX3_read 37 = .ok (.iload_n 2, 1) := by decide +kernel
theorem dX3_read_38 : decode cX3_read 38 = .ok (.aload_n 1, 1) := by decide +kernel
theorem dX3_read_39 : decode cX3_read 39 = .ok (.iload_n 3, 1) := by decide +kernel
theorem dX3_read_40 : decode cX3_read 40 = .ok (.invokevirtual 34, 3) := by decide +kernel
theorem dX3_read_43 : decode cX3_read 43 = .ok (.iload_n 3, 1) := by decide +kernel
theorem dX3_read_44 : decode cX3_read 44 = .ok (.invokevirtual 38, 3) := by decide +kernel
theorem dX3_read_47 : decode cX3_read 47 = .ok (.istore_n 2, 1) := by decide +kernel
theorem dX3_read_48 : decode cX3_read 48 = .ok (.iinc 3 1, 3) := by decide +kernel
theorem dX3_read_51 : decode cX3_read 51 = .ok (.goto (-30), 3) := by decide +kernel
theorem dX3_read_54 : decode cX3_read 54 = .ok (.aload_n 0, 1) := by decide +kernel
theorem dX3_read_55 : decode cX3_read 55 = .ok (.getfield 18, 3) := by decide +kernel
theorem dX3_read_58 : decode cX3_read 58 = .ok (.ifCond .ne 17, 3) := by decide +kernel
theorem dX3_read_61 : decode cX3_read 61 = .ok (.iload_n 2, 1) := by decide +kernel
theorem dX3_read_62 : decode cX3_read 62 = .ok (.iconst 2, 1) := by decide +kernel
theorem dX3_read_63 : decode cX3_read 63 = .ok (.if_icmp .ne 12, 3) := by decide +kernel
theorem dX3_read_66 : decode cX3_read 66 = .ok (.aload_n 0, 1) := by decide +kernel
theorem dX3_read_67 : decode cX3_read 67 = .ok (.iconst 1, 1) := by decide +kernel
theorem dX3_read_68 : decode cX3_read 68 = .ok (.aload_n 1, 1) := by decide +kernel
theorem dX3_read_69 : decode cX3_read 69 = .ok (.invokevirtual 28, 3) := by decide +kernel
theorem dX3_read_72 : decode cX3_read 72 = .ok (.invokevirtual 42, 3) := by decide +kernel
theorem dX3_read_75 : decode cX3_read 75 = .ok (.return_, 1) := by decide +kernel
set_option maxRecDepth 20000 in
theorem ggX3_stateBehind_X10_isLetter : GoodIn wsX3_stateBehind wsX10_isLetter := goodIn_r _ [4] (by decide +kernel) (by decide +kernel)
set_option maxRecDepth 20000 in
theorem gX3_stateBehind_X10_isLetter_n46 : GoodIn wsX3_stateBehind (wsX10_isLetter) := ggX3_stateBehind_X10_isLetter
set_option maxRecDepth 20000 in
theorem ggX3_stateBehind_X3_stateBehindLetter : GoodIn wsX3_stateBehind wsX3_stateBehindLetter := goodIn_r _ [9, 1, 10, 11, 12, 8, 13, 14, 15, 16, 17, 18, 19, 20, 21, 22, 23, 24, 25, 26, 27, 28, 33, 34, 35, 36, 37, 38, 39] (by decide +kernel) (by decide +kernel)
set_option maxRecDepth 20000 in
theorem gX3_stateBehind_X3_stateBehindLetter : GoodIn wsX3_stateBehind (wsV RX3 50 RX3 yX3_stateBehindLetter wsX3_stateBehindLetter) := goodIn_app (goodIn_of _ (by decide +kernel)) ggX3_stateBehind_X3_stateBehindLetter
set_option maxRecDepth 20000 in
theorem ggX3_stateBehind_X9_close : GoodIn wsX3_stateBehind wsX9_close := goodIn_r _ [32, 21, 23, 36, 37, 38, 39] (by decide +kernel) (by decide +kernel)
set_option maxRecDepth 20000 in
theorem gX3_stateBehind_X9_close : GoodIn wsX3_stateBehind (wsV RX3 53 RX9 yX9_close wsX9_close) := goodIn_app (goodIn_of _ (by decide +kernel)) ggX3_stateBehind_X9_close
set_option maxRecDepth 20000 in
theorem ggX3_stateBehind_X3_refuse : GoodIn wsX3_stateBehind wsX3_refuse := goodIn_r _ [13, 14, 15, 33, 34, 35] (by decide +kernel) (by decide +kernel)
set_option maxRecDepth 20000 in
theorem gX3_stateBehind_X3_refuse : GoodIn wsX3_stateBehind (wsV RX3 42 RX3 yX3_refuse wsX3_refuse) := goodIn_app (goodIn_of _ (by decide +kernel)) ggX3_stateBehind_X3_refuse
theorem dX3_stateBehind_0 : decode cX3_stateBehind 0 = .ok (.iload_n 2, 1) := by decide +kernel
theorem dX3_stateBehind_1 : decode cX3_stateBehind 1 = .ok (.invokestatic 46, 3) := by decide +kernel
theorem dX3_stateBehind_4 : decode cX3_stateBehind 4 = .ok (.ifCond .eq 11, 3) := by decide +kernel
theorem dX3_stateBehind_7 : decode cX3_stateBehind 7 = .ok (.aload_n 0, 1) := by decide +kernel
theorem dX3_stateBehind_8 : decode cX3_stateBehind 8 = .ok (.iload_n 1, 1) := by decide +kernel
theorem dX3_stateBehind_9 : decode cX3_stateBehind 9 = .ok (.iload_n 2, 1) := by decide +kernel
theorem dX3_stateBehind_10 : decode cX3_stateBehind 10 = .ok (.iload_n 3, 1) := by decide +kernel
theorem dX3_stateBehind_11 : decode cX3_stateBehind 11 = .ok (.invokevirtual 50, 3) := by decide +kernel
theorem dX3_stateBehind_14 : decode cX3_stateBehind 14 = .ok (.ireturn, 1) := by decide +kernel
theorem dX3_stateBehind_15 : decode cX3_stateBehind 15 = .ok (.iload_n 2, 1) := by decide +kernel
theorem dX3_stateBehind_16 : decode cX3_stateBehind 16 = .ok (.bipush 32, 2) := by decide +kernel
theorem dX3_stateBehind_18 : decode cX3_stateBehind 18 = .ok (.if_icmp .eq 9, 3) := by decide +kernel
theorem dX3_stateBehind_21 : decode cX3_stateBehind 21 = .ok (.iload_n 2, 1) := by decide +kernel
theorem dX3_stateBehind_22 : decode cX3_stateBehind 22 = .ok (.bipush 10, 2) := by decide +kernel
theorem dX3_stateBehind_24 : decode cX3_stateBehind 24 = .ok (.if_icmp .ne 7, 3) := by decide +kernel
theorem dX3_stateBehind_27 : decode cX3_stateBehind 27 = .ok (.iconst 1, 1) := by decide +kernel
theorem dX3_stateBehind_28 : decode cX3_stateBehind 28 = .ok (.goto 4, 3) := by decide +kernel
theorem dX3_stateBehind_31 : decode cX3_stateBehind 31 = .ok (.iconst 0, 1) := by decide +kernel
theorem dX3_stateBehind_32 : decode cX3_stateBehind 32 = .ok (.istore 4, 2) := by decide +kernel
theorem dX3_stateBehind_34 : decode cX3_stateBehind 34 = .ok (.iload 4, 2) := by decide +kernel
theorem dX3_stateBehind_36 : decode cX3_stateBehind 36 = .ok (.ifCond .eq 10, 3) := by decide +kernel
theorem dX3_stateBehind_39 : decode cX3_stateBehind 39 = .ok (.iload_n 1, 1) := by decide +kernel
theorem dX3_stateBehind_40 : decode cX3_stateBehind 40 = .ok (.iconst 2, 1) := by decide +kernel
theorem dX3_stateBehind_41 : decode cX3_stateBehind 41 = .ok (.if_icmp .eq 5, 3) := by decide +kernel
theorem dX3_stateBehind_44 : decode cX3_stateBehind 44 = .ok (.iconst 0, 1) := by decide +kernel
theorem dX3_stateBehind_45 : decode cX3_stateBehind 45 = .ok (.ireturn, 1) := by decide +kernel
theorem dX3_stateBehind_46 : decode cX3_stateBehind 46 = .ok (.iload_n 2, 1) := by decide +kernel
theorem dX3_stateBehind_47 : decode cX3_stateBehind 47 = .ok (.bipush 44, 2) := by decide +kernel
theorem dX3_stateBehind_49 : decode cX3_stateBehind 49 = .ok (.if_icmp .eq 15, 3) := by decide +kernel
theorem dX3_stateBehind_52 : decode cX3_stateBehind 52 = .ok (.iload_n 2, 1) := by decide +kernel
theorem dX3_stateBehind_53 : decode cX3_stateBehind 53 = .ok (.bipush 46, 2) := by decide +kernel
theorem dX3_stateBehind_55 : decode cX3_stateBehind 55 = .ok (.if_icmp .eq 9, 3) := by decide +kernel
theorem dX3_stateBehind_58 : decode cX3_stateBehind 58 = .ok (.iload_n 2, 1) := by decide +kernel
theorem dX3_stateBehind_59 : decode cX3_stateBehind 59 = .ok (.bipush 47, 2) := by decide +kernel
theorem dX3_stateBehind_61 : decode cX3_stateBehind 61 = .ok (.if_icmp .ne 7, 3) := by decide +kernel
theorem dX3_stateBehind_64 : decode cX3_stateBehind 64 = .ok (.iconst 1, 1) := by decide +kernel
theorem dX3_stateBehind_65 : decode cX3_stateBehind 65 = .ok (.goto 4, 3) := by decide +kernel
theorem dX3_stateBehind_68 : decode cX3_stateBehind 68 = .ok (.iconst 0, 1) := by decide +kernel
theorem dX3_stateBehind_69 : decode cX3_stateBehind 69 = .ok (.istore 5, 2) := by decide +kernel
theorem dX3_stateBehind_71 : decode cX3_stateBehind 71 = .ok (.iload_n 1, 1) := by decide +kernel
theorem dX3_stateBehind_72 : decode cX3_stateBehind 72 = .ok (.iconst 1, 1) := by decide +kernel
theorem dX3_stateBehind_73 : decode cX3_stateBehind 73 = .ok (.if_icmp .ne 33, 3) := by decide +kernel
theorem dX3_stateBehind_76 : decode cX3_stateBehind 76 = .ok (.iload 5, 2) := by decide +kernel
theorem dX3_stateBehind_78 : decode cX3_stateBehind 78 = .ok (.ifCond .ne 9, 3) := by decide +kernel
theorem dX3_stateBehind_81 : decode cX3_stateBehind 81 = .ok (.iload_n 2, 1) := by decide +kernel
theorem dX3_stateBehind_82 : decode cX3_stateBehind 82 = .ok (.bipush 45, 2) := by decide +kernel
theorem dX3_stateBehind_84 : decode cX3_stateBehind 84 = .ok (.if_icmp .ne 22, 3) := by decide +kernel
theorem dX3_stateBehind_87 : decode cX3_stateBehind 87 = .ok (.aload_n 0, 1) := by decide +kernel
theorem dX3_stateBehind_88 : decode cX3_stateBehind 88 = .ok (.getfield 12, 3) := by decide +kernel
theorem dX3_stateBehind_91 : decode cX3_stateBehind 91 = .ok (.iload_n 2, 1) := by decide +kernel
theorem dX3_stateBehind_92 : decode cX3_stateBehind 92 = .ok (.invokevirtual 53, 3) := by decide +kernel
theorem dX3_stateBehind_95 : decode cX3_stateBehind 95 = .ok (.iload 5, 2) := by decide +kernel
theorem dX3_stateBehind_97 : decode cX3_stateBehind 97 = .ok (.ifCond .eq 7, 3) := by decide +kernel
theorem dX3_stateBehind_100 : decode cX3_stateBehind 100 = .ok (.iconst 3, 1) := by decide +kernel
theorem dX3_stateBehind_101 : decode cX3_stateBehind 101 = .ok (.goto 4, 3) := by decide +kernel
theorem dX3_stateBehind_104 : decode cX3_stateBehind 104 = .ok (.iconst 2, 1) := by decide +kernel
theorem dX3_stateBehind_105 : decode cX3_stateBehind 105 = .ok (.ireturn, 1) := by decide +kernel
theorem dX3_stateBehind_106 : decode cX3_stateBehind 106 = .ok (.aload_n 0, 1) := by decide +kernel
theorem dX3_stateBehind_107 : decode cX3_stateBehind 107 = .ok (.iconst 1, 1) := by decide +kernel
theorem dX3_stateBehind_108 : decode cX3_stateBehind 108 = .ok (.iload_n 3, 1) := by decide +kernel
theorem dX3_stateBehind_109 : decode cX3_stateBehind 109 = .ok (.invokevirtual 42, 3) := by decide +kernel
theorem dX3_stateBehind_112 : decode cX3_stateBehind 112 = .ok (.iload_n 1, 1) := by decide +kernel
theorem dX3_stateBehind_113 : decode cX3_stateBehind 113 = .ok (.ireturn, 1) := by decide +kernel
set_option maxRecDepth 20000 in
theorem ggX3_stateBehindLetter_X3_refuse : GoodIn wsX3_stateBehindLetter wsX3_refuse := goodIn_r _ [6, 7, 8, 22, 23, 24] (by decide +kernel) (by decide +kernel)
set_option maxRecDepth 20000 in
theorem gX3_stateBehindLetter_X3_refuse : GoodIn wsX3_stateBehindLetter (wsV RX3 42 RX3 yX3_refuse wsX3_refuse) := goodIn_app (goodIn_of _ (by decide +kernel)) ggX3_stateBehindLetter_X3_refuse
set_option maxRecDepth 20000 in
theorem ggX3_stateBehindLetter_X9_open : GoodIn wsX3_stateBehindLetter wsX9_open := goodIn_r _ [13, 14, 15, 16, 25, 26, 27, 28] (by decide +kernel) (by decide +kernel)
set_option maxRecDepth 20000 in
theorem gX3_stateBehindLetter_X9_open : GoodIn wsX3_stateBehindLetter (wsV RX3 57 RX9 yX9_open wsX9_open) := goodIn_app (goodIn_of _ (by decide +kernel)) ggX3_stateBehindLetter_X9_open
set_option maxRecDepth 20000 in
theorem ggX3_stateBehindLetter_X9_addLetter : GoodIn wsX3_stateBehindLetter wsX9_addLetter := goodIn_r _ [20, 14, 15, 21, 25, 26, 27, 28] (by decide +kernel) (by decide +kernel)
set_option maxRecDepth 20000 in
theorem gX3_stateBehindLetter_X9_addLetter : GoodIn wsX3_stateBehindLetter (wsV RX3 61 RX9 yX9_addLetter wsX9_addLetter) := goodIn_app (goodIn_of _ (by decide +kernel)) ggX3_stateBehindLetter_X9_addLetter
theorem dX3_stateBehindLetter_0 : decode cX3_stateBehindLetter 0 = .ok (.iload_n 1, 1) := by decide +kernel
theorem dX3_stateBehindLetter_1 : decode cX3_stateBehindLetter 1 = .ok (.iconst 3, 1) := by decide +kernel
theorem dX3_stateBehindLetter_2 : decode cX3_stateBehindLetter 2 = .ok (.if_icmp .ne 12, 3) := by decide +kernel
theorem dX3_stateBehindLetter_5 : decode cX3_stateBehindLetter 5 = .ok (.aload_n 0, 1) := by decide +kernel
theorem dX3_stateBehindLetter_6 : decode cX3_stateBehindLetter 6 = .ok (.iconst 1, 1) := by decide +kernel
theorem dX3_stateBehindLetter_7 : decode cX3_stateBehindLetter 7 = .ok (.iload_n 3, 1) := by decide +kernel
theorem dX3_stateBehindLetter_8 : decode cX3_stateBehindLetter 8 = .ok (.invokevirtual 42, 3) := by decide +kernel
theorem dX3_stateBehindLetter_11 : decode cX3_stateBehindLetter 11 = .ok (.goto 44, 3) := by decide +kernel
theorem dX3_stateBehindLetter_14 : decode cX3_stateBehindLetter 14 = .ok (.iload_n 1, 1) := by decide +kernel
theorem dX3_stateBehindLetter_15 : decode cX3_stateBehindLetter 15 = .ok (.iconst 1, 1) := by decide +kernel
theorem dX3_stateBehindLetter_16 : decode cX3_stateBehindLetter 16 = .ok (.if_icmp .eq 22, 3) := by decide +kernel
theorem dX3_stateBehindLetter_19 : decode cX3_stateBehindLetter 19 = .ok (.aload_n 0, 1) := by decide +kernel
theorem dX3_stateBehindLetter_20 : decode cX3_stateBehindLetter 20 = .ok (.getfield 12, 3) := by decide +kernel
theorem dX3_stateBehindLetter_23 : decode cX3_stateBehindLetter 23 = .ok (.invokevirtual 57, 3) := by decide +kernel
theorem dX3_stateBehindLetter_26 : decode cX3_stateBehindLetter 26 = .ok (.ifCond .ne 12, 3) := by decide +kernel
theorem dX3_stateBehindLetter_29 : decode cX3_stateBehindLetter 29 = .ok (.aload_n 0, 1) := by decide +kernel
theorem dX3_stateBehindLetter_30 : decode cX3_stateBehindLetter 30 = .ok (.iconst 3, 1) := by decide +kernel
theorem dX3_stateBehindLetter_31 : decode cX3_stateBehindLetter 31 = .ok (.iload_n 3, 1) := by decide +kernel
theorem dX3_stateBehindLetter_32 : decode cX3_stateBehindLetter 32 = .ok (.invokevirtual 42, 3) := by decide +kernel
theorem dX3_stateBehindLetter_35 : decode cX3_stateBehindLetter 35 = .ok (.goto 20, 3) := by decide +kernel
theorem dX3_stateBehindLetter_38 : decode cX3_stateBehindLetter 38 = .ok (.aload_n 0, 1) := by decide +kernel
theorem dX3_stateBehindLetter_39 : decode cX3_stateBehindLetter 39 = .ok (.getfield 12, 3) := by decide +kernel
theorem dX3_stateBehindLetter_42 : decode cX3_stateBehindLetter 42 = .ok (.iload_n 2, 1) := by decide +kernel
theorem dX3_stateBehindLetter_43 : decode cX3_stateBehindLetter 43 = .ok (.invokevirtual 61, 3) := by decide +kernel
theorem dX3_stateBehindLetter_46 : decode cX3_stateBehindLetter 46 = .ok (.ifCond .ne 9, 3) := by decide +kernel
theorem dX3_stateBehindLetter_49 : decode cX3_stateBehindLetter 49 = .ok (.aload_n 0, 1) := by decide +kernel
theorem dX3_stateBehindLetter_50 : decode cX3_stateBehindLetter 50 = .ok (.iconst 2, 1) := by decide +kernel
theorem dX3_stateBehindLetter_51 : decode cX3_stateBehindLetter 51 = .ok (.iload_n 3, 1) := by decide +kernel
theorem dX3_stateBehindLetter_52 : decode cX3_stateBehindLetter 52 = .ok (.invokevirtual 42, 3) := by decide +kernel
theorem dX3_stateBehindLetter_55 : decode cX3_stateBehindLetter 55 = .ok (.iconst 1, 1) := by decide +kernel
theorem dX3_stateBehindLetter_56 : decode cX3_stateBehindLetter 56 = .ok (.ireturn, 1) := by decide +kernel
theorem dX3_refuse_0 : decode cX3_refuse 0 = .ok (.aload_n 0, 1) := by decide +kernel
theorem dX3_refuse_1 : decode cX3_refuse 1 = .ok (.iload_n 1, 1) := by decide +kernel
theorem dX3_refuse_2 : decode cX3_refuse 2 = .ok (.putfield 18, 3) := by decide +kernel
theorem dX3_refuse_5 : decode cX3_refuse 5 = .ok (.aload_n 0, 1) := by decide +kernel
theorem dX3_refuse_6 : decode cX3_refuse 6 = .ok (.iload_n 2, 1) := by decide +kernel
theorem dX3_refuse_7 : decode cX3_refuse 7 = .ok (.putfield 22, 3) := by decide +kernel
theorem dX3_refuse_10 : decode cX3_refuse 10 = .ok (.return_, 1) := by decide +kernel
theorem dX4_init_0 : decode cX4_init 0 = .ok (.aload_n 0, 1) := by decide +kernel
theorem dX4_init_1 : decode cX4_init 1 = .ok (.invokespecial 3, 3) := by decide +kernel
theorem dX4_init_4 : decode cX4_init 4 = .ok (.aload_n 0, 1) := by decide +kernel
theorem dX4_init_5 : decode cX4_init 5 = .ok (.bipush 80, 2) := by decide +kernel
theorem dX4_init_7 : decode cX4_init 7 = .ok (.newarray .int, 2) := by decide +kernel
theorem dX4_init_9 : decode cX4_init 9 = .ok (.putfield 9, 3) := by decide +kernel
theorem dX4_init_12 : decode cX4_init 12 = .ok (.aload_n 0, 1) := by decide +kernel
theorem dX4_init_13 : decode cX4_init 13 = .ok (.sipush 4800, 3) := by decide +kernel
theorem dX4_init_16 : decode cX4_init 16 = .ok (.newarray .int, 2) := by decide +kernel
theorem dX4_init_18 : decode cX4_init 18 = .ok (.putfield 15, 3) := by decide +kernel
theorem dX4_init_21 : decode cX4_init 21 = .ok (.aload_n 0, 1) := by decide +kernel
theorem dX4_init_22 : decode cX4_init 22 = .ok (.aload_n 1, 1) := by decide +kernel
theorem dX4_init_23 : decode cX4_init 23 = .ok (.putfield 18, 3) := by decide +kernel
theorem dX4_init_26 : decode cX4_init 26 = .ok (.aload_n 0, 1) := by decide +kernel
theorem dX4_init_27 : decode cX4_init 27 = .ok (.aload_n 2, 1) := by decide +kernel
theorem dX4_init_28 : decode cX4_init 28 = .ok (.putfield 22, 3) := by decide +kernel
theorem dX4_init_31 : decode cX4_init 31 = .ok (.return_, 1) := by decide +kernel
set_option maxRecDepth 20000 in
theorem ggX4_weighLines_X6_units : GoodIn wsX4_weighLines wsX6_units := goodIn_r _ [8, 9, 94, 95, 96, 97, 98, 99, 100] (by decide +kernel) (by decide +kernel)
set_option maxRecDepth 20000 in
theorem gX4_weighLines_X6_units : GoodIn wsX4_weighLines (wsV RX4 26 RX6 yX6_units wsX6_units) := goodIn_app (goodIn_of _ (by decide +kernel)) ggX4_weighLines_X6_units
set_option maxRecDepth 20000 in
theorem ggX4_weighLines_X4_fits : GoodIn wsX4_weighLines wsX4_fits := goodIn_r _ [14, 1, 15, 4, 5, 6, 7, 8, 9, 16, 17, 18, 19, 20, 21, 22, 23, 24, 25, 26, 27, 28, 29, 30, 31, 32, 33, 34, 35, 36, 37, 38, 39, 40, 89, 90, 91, 92, 93, 94, 95, 96, 97, 98, 99, 100, 101, 102, 103, 104, 105, 106, 107] (by decide +kernel) (by decide +kernel)
set_option maxRecDepth 20000 in
theorem gX4_weighLines_X4_fits : GoodIn wsX4_weighLines (wsV RX4 32 RX4 yX4_fits wsX4_fits) := goodIn_app (goodIn_of _ (by decide +kernel)) ggX4_weighLines_X4_fits
set_option maxRecDepth 20000 in
theorem ggX4_weighLines_X4_place : GoodIn wsX4_weighLines wsX4_place := goodIn_r _ [43] (by decide +kernel) (by decide +kernel)
set_option maxRecDepth 20000 in
theorem gX4_weighLines_X4_place : GoodIn wsX4_weighLines (va_wsS RX4 36 yX4_place wsX4_place) := goodIn_app (goodIn_of _ (by decide +kernel)) ggX4_weighLines_X4_place
set_option maxRecDepth 20000 in
theorem ggX4_weighLines_X4_weigh : GoodIn wsX4_weighLines wsX4_weigh := goodIn_r _ [47, 1, 15, 4, 5, 6, 7, 8, 9, 16, 17, 18, 19, 20, 21, 22, 23, 24, 25, 26, 27, 28, 29, 30, 31, 32, 33, 34, 48, 49, 50, 51, 38, 52, 40, 53, 54, 55, 56, 57, 58, 59, 60, 61, 62, 63, 64, 13, 65, 66, 3, 67, 68, 69, 70, 2, 71, 72, 73, 74, 75, 76, 77, 78, 79, 80, 81, 82, 83, 84, 85, 86, 87, 88, 41, 42, 43, 89, 90, 91, 92, 93, 94, 95, 96, 97, 98, 99, 100, 101, 102, 103, 104, 105, 106, 107] (by decide +kernel) (by decide +kernel)
set_option maxRecDepth 20000 in
theorem gX4_weighLines_X4_weigh : GoodIn wsX4_weighLines (wsV RX4 40 RX4 yX4_weigh wsX4_weigh) := goodIn_app (goodIn_of _ (by decide +kernel)) ggX4_weighLines_X4_weigh
theorem dX4_weighLines_0 : decode cX4_weighLines 0 = .ok (.aload_n 0, 1) := by decide +kernel
theorem dX4_weighLines_1 : decode cX4_weighLines 1 = .ok (.getfield 18, 3) := by decide +kernel
theorem dX4_weighLines_4 : decode cX4_weighLines 4 = .ok (.invokevirtual 26, 3) := by decide +kernel
theorem dX4_weighLines_7 : decode cX4_weighLines 7 = .ok (.iconst 1, 1) := by decide +kernel
theorem dX4_weighLines_8 : decode cX4_weighLines 8 = .ok (.isub, 1) := by decide +kernel
theorem dX4_weighLines_9 : decode cX4_weighLines 9 = .ok (.istore_n 1, 1) := by decide +kernel
theorem dX4_weighLines_10 : decode cX4_weighLines 10 = .ok (.iload_n 1, 1) := by decide +kernel
theorem dX4_weighLines_11 : decode cX4_weighLines 11 = .ok (.ifCond .lt 57, 3) := by decide +kernel
theorem dX4_weighLines_14 : decode cX4_weighLines 14 = .ok (.iconst 0, 1) := by decide +kernel
theorem dX4_weighLines_15 : decode cX4_weighLines 15 = .ok (.istore_n 2, 1) := by decide +kernel
theorem dX4_weighLines_16 : decode cX4_weighLines 16 = .ok (.iload_n 2, 1) := by decide +kernel
theorem dX4_weighLines_17 : decode cX4_weighLines 17 = .ok (.bipush 60, 2) := by decide +kernel
theorem dX4_weighLines_19 : decode cX4_weighLines 19 = .ok (.if_icmp .ge 36, 3) := by decide +kernel
theorem dX4_weighLines_22 : decode cX4_weighLines 22 = .ok (.aload_n 0, 1) := by decide +kernel
theorem dX4_weighLines_23 : decode cX4_weighLines 23 = .ok (.iload_n 1, 1) := by decide +kernel
theorem dX4_weighLines_24 : decode cX4_weighLines 24 = .ok (.iload_n 2, 1) := by decide +kernel
theorem dX4_weighLines_25 : decode cX4_weighLines 25 = .ok (.iconst 1, 1) := by decide +kernel
theorem dX4_weighLines_26 : decode cX4_weighLines 26 = .ok (.iadd, 1) := by decide +kernel
theorem dX4_weighLines_27 : decode cX4_weighLines 27 = .ok (.invokevirtual 32, 3) := by decide +kernel
theorem dX4_weighLines_30 : decode cX4_weighLines 30 = .ok (.ifCond .eq 25, 3) := by decide +kernel
theorem dX4_weighLines_33 : decode cX4_weighLines 33 = .ok (.iinc 2 1, 3) := by decide +kernel
theorem dX4_weighLines_36 : decode cX4_weighLines 36 = .ok (.aload_n 0, 1) := by decide +kernel
theorem dX4_weighLines_37 : decode cX4_weighLines 37 = .ok (.getfield 15, 3) := by decide +kernel
theorem dX4_weighLines_40 : decode cX4_weighLines 40 = .ok (.iload_n 1, 1) := by decide +kernel
theorem dX4_weighLines_41 : decode cX4_weighLines 41 = .ok (.iload_n 2, 1) := by decide +kernel
theorem dX4_weighLines_42 : decode cX4_weighLines 42 = .ok (.invokestatic 36, 3) := by decide +kernel
theorem dX4_weighLines_45 : decode cX4_weighLines 45 = .ok (.aload_n 0, 1) := by decide +kernel
theorem dX4_weighLines_46 : decode cX4_weighLines 46 = .ok (.iload_n 1, 1) := by decide +kernel
theorem dX4_weighLines_47 : decode cX4_weighLines 47 = .ok (.iload_n 2, 1) := by decide +kernel
theorem dX4_weighLines_48 : decode cX4_weighLines 48 = .ok (.invokevirtual 40, 3) := by decide +kernel
theorem dX4_weighLines_51 : decode cX4_weighLines 51 = .ok (.iastore, 1) := by decide +kernel
theorem dX4_weighLines_52 : decode cX4_weighLines 52 = .ok (.goto (-36), 3) := by decide +kernel
theorem dX4_weighLines_55 : decode cX4_weighLines 55 = .ok (.aload_n 0, 1) := by decide +kernel
theorem dX4_weighLines_56 : decode cX4_weighLines 56 = .ok (.getfield 9, 3) := by decide +kernel
theorem dX4_weighLines_59 : decode cX4_weighLines 59 = .ok (.iload_n 1, 1) := by decide +kernel
theorem dX4_weighLines_60 : decode cX4_weighLines 60 = .ok (.iload_n 2, 1) := by decide +kernel
theorem dX4_weighLines_61 : decode cX4_weighLines 61 = .ok (.iastore, 1) := by decide +kernel
theorem dX4_weighLines_62 : decode cX4_weighLines 62 = .ok (.iinc 1 (-1), 3) := by decide +kernel
theorem dX4_weighLines_65 : decode cX4_weighLines 65 = .ok (.goto (-55), 3) := by decide +kernel
theorem dX4_weighLines_68 : decode cX4_weighLines 68 = .ok (.return_, 1) := by decide +kernel
set_option maxRecDepth 20000 in
theorem ggX4_putLines_X4_leastBelow : GoodIn wsX4_putLines wsX4_leastBelow := goodIn_r _ [7, 2, 1, 8, 9, 10, 11, 12, 13, 14, 15, 16, 17, 18, 19, 20, 21, 22, 23, 24, 25, 26, 27, 28, 29, 30, 31, 32, 33, 34, 35, 36, 37, 38, 39, 40, 41, 42, 43, 44, 45, 46, 47, 48, 49, 50, 51, 6, 52, 61, 62, 63, 64, 65, 66, 67, 68, 69, 70, 71, 72, 73, 74, 75, 76, 77, 78, 79] (by decide +kernel) (by decide +kernel)
set_option maxRecDepth 20000 in
theorem gX4_putLines_X4_leastBelow : GoodIn wsX4_putLines (wsV RX4 43 RX4 yX4_leastBelow wsX4_leastBelow) := goodIn_app (goodIn_of _ (by decide +kernel)) ggX4_putLines_X4_leastBelow
set_option maxRecDepth 20000 in
theorem ggX4_putLines_X6_units : GoodIn wsX4_putLines wsX6_units := goodIn_r _ [19, 20, 66, 67, 68, 69, 70, 71, 72] (by decide +kernel) (by decide +kernel)
set_option maxRecDepth 20000 in
theorem gX4_putLines_X6_units : GoodIn wsX4_putLines (wsV RX4 26 RX6 yX6_units wsX6_units) := goodIn_app (goodIn_of _ (by decide +kernel)) ggX4_putLines_X6_units
set_option maxRecDepth 20000 in
theorem ggX4_putLines_X5_addLine : GoodIn wsX4_putLines wsX5_addLine := goodIn_r _ [57, 58, 59, 60, 80, 81, 82, 83, 84, 85] (by decide +kernel) (by decide +kernel)
set_option maxRecDepth 20000 in
theorem gX4_putLines_X5_addLine : GoodIn wsX4_putLines (wsV RX4 51 RX5 yX5_addLine wsX5_addLine) := goodIn_app (goodIn_of _ (by decide +kernel)) ggX4_putLines_X5_addLine
set_option maxRecDepth 20000 in
theorem ggX4_putLines_X6_body : GoodIn wsX4_putLines wsX6_body := goodIn_r _ [33, 34, 25, 26, 27, 28, 18, 29, 20, 66, 67, 68, 69, 70, 71, 72] (by decide +kernel) (by decide +kernel)
set_option maxRecDepth 20000 in
theorem gX4_putLines_X6_body : GoodIn wsX4_putLines (wsV RX4 57 RX6 yX6_body wsX6_body) := goodIn_app (goodIn_of _ (by decide +kernel)) ggX4_putLines_X6_body
theorem dX4_putLines_0 : decode cX4_putLines 0 = .ok (.aload_n 0, 1) := by decide +kernel
theorem dX4_putLines_1 : decode cX4_putLines 1 = .ok (.iconst 0, 1) := by decide +kernel
theorem dX4_putLines_2 : decode cX4_putLines 2 = .ok (.iconst 0, 1) := by decide +kernel
theorem dX4_putLines_3 : decode cX4_putLines 3 = .ok (.iconst 0, 1) := by decide +kernel
theorem dX4_putLines_4 : decode cX4_putLines 4 = .ok (.invokevirtual 43, 3) := by decide +kernel
theorem dX4_putLines_7 : decode cX4_putLines 7 = .ok (.istore_n 2, 1) := by decide +kernel
theorem dX4_putLines_8 : decode cX4_putLines 8 = .ok (.iconst 0, 1) := by decide +kernel
theorem dX4_putLines_9 : decode cX4_putLines 9 = .ok (.istore_n 3, 1) := by decide +kernel
theorem dX4_putLines_10 : decode cX4_putLines 10 = .ok (.iconst 0, 1) := by decide +kernel
theorem dX4_putLines_11 : decode cX4_putLines 11 = .ok (.istore 4, 2) := by decide +kernel
theorem dX4_putLines_13 : decode cX4_putLines 13 = .ok (.iload 4, 2) := by decide +kernel
theorem dX4_putLines_15 : decode cX4_putLines 15 = .ok (.bipush 80, 2) := by decide +kernel
theorem dX4_putLines_17 : decode cX4_putLines 17 = .ok (.if_icmp .ge 58, 3) := by decide +kernel
theorem dX4_putLines_20 : decode cX4_putLines 20 = .ok (.iload_n 3, 1) := by decide +kernel
theorem dX4_putLines_21 : decode cX4_putLines 21 = .ok (.aload_n 0, 1) := by decide +kernel
theorem dX4_putLines_22 : decode cX4_putLines 22 = .ok (.getfield 18, 3) := by decide +kernel
theorem dX4_putLines_25 : decode cX4_putLines 25 = .ok (.invokevirtual 26, 3) := by decide +kernel
theorem dX4_putLines_28 : decode cX4_putLines 28 = .ok (.if_icmp .ge 47, 3) := by decide +kernel
theorem dX4_putLines_31 : decode cX4_putLines 31 = .ok (.aload_n 0, 1) := by decide +kernel
theorem dX4_putLines_32 : decode cX4_putLines 32 = .ok (.getfield 47, 3) := by decide +kernel
theorem dX4_putLines_35 : decode cX4_putLines 35 = .ok (.istore 5, 2) := by decide +kernel
theorem dX4_putLines_37 : decode cX4_putLines 37 = .ok (.aload_n 1, 1) := by decide +kernel
theorem dX4_putLines_38 : decode cX4_putLines 38 = .ok (.iload_n 3, 1) := by decide +kernel
theorem dX4_putLines_39 : decode cX4_putLines 39 = .ok (.iload 5, 2) := by decide +kernel
theorem dX4_putLines_41 : decode cX4_putLines 41 = .ok (.invokevirtual 51, 3) := by decide +kernel
theorem dX4_putLines_44 : decode cX4_putLines 44 = .ok (.aload_n 0, 1) := by decide +kernel
theorem dX4_putLines_45 : decode cX4_putLines 45 = .ok (.iload_n 3, 1) := by decide +kernel
theorem dX4_putLines_46 : decode cX4_putLines 46 = .ok (.aload_n 0, 1) := by decide +kernel
theorem dX4_putLines_47 : decode cX4_putLines 47 = .ok (.getfield 18, 3) := by decide +kernel
theorem dX4_putLines_50 : decode cX4_putLines 50 = .ok (.iload_n 3, 1) := by decide +kernel
theorem dX4_putLines_51 : decode cX4_putLines 51 = .ok (.iload 5, 2) := by decide +kernel
theorem dX4_putLines_53 : decode cX4_putLines 53 = .ok (.invokevirtual 57, 3) := by decide +kernel
theorem dX4_putLines_56 : decode cX4_putLines 56 = .ok (.iload_n 3, 1) := by decide +kernel
theorem dX4_putLines_57 : decode cX4_putLines 57 = .ok (.iload 5, 2) := by decide +kernel
theorem dX4_putLines_59 : decode cX4_putLines 59 = .ok (.iadd, 1) := by decide +kernel
theorem dX4_putLines_60 : decode cX4_putLines 60 = .ok (.invokevirtual 43, 3) := by decide +kernel
theorem dX4_putLines_63 : decode cX4_putLines 63 = .ok (.pop, 1) := by decide +kernel
theorem dX4_putLines_64 : decode cX4_putLines 64 = .ok (.iload_n 3, 1) := by decide +kernel
theorem dX4_putLines_65 : decode cX4_putLines 65 = .ok (.iload 5, 2) := by decide +kernel
theorem dX4_putLines_67 : decode cX4_putLines 67 = .ok (.iadd, 1) := by decide +kernel
theorem dX4_putLines_68 : decode cX4_putLines 68 = .ok (.istore_n 3, 1) := by decide +kernel
theorem dX4_putLines_69 : decode cX4_putLines 69 = .ok (.iinc 4 1, 3) := by decide +kernel
theorem dX4_putLines_72 : decode cX4_putLines 72 = .ok (.goto (-59), 3) := by decide +kernel
theorem dX4_putLines_75 : decode cX4_putLines 75 = .ok (.iload_n 2, 1) := by decide +kernel
theorem dX4_putLines_76 : decode cX4_putLines 76 = .ok (.ireturn, 1) := by decide +kernel
set_option maxRecDepth 20000 in
theorem ggX4_fits_X6_units : GoodIn wsX4_fits wsX6_units := goodIn_r _ [7, 8, 39, 40, 41, 42, 43, 44, 45] (by decide +kernel) (by decide +kernel)
set_option maxRecDepth 20000 in
theorem gX4_fits_X6_units : GoodIn wsX4_fits (wsV RX4 26 RX6 yX6_units wsX6_units) := goodIn_app (goodIn_of _ (by decide +kernel)) ggX4_fits_X6_units
set_option maxRecDepth 20000 in
theorem ggX4_fits_X6_signsOf : GoodIn wsX4_fits wsX6_signsOf := goodIn_r _ [12, 13, 14, 15, 6, 16, 17, 18, 19, 20, 21, 22, 8, 23, 24, 25, 26, 27, 39, 40, 41, 42, 43, 44, 45] (by decide +kernel) (by decide +kernel)
set_option maxRecDepth 20000 in
theorem gX4_fits_X6_signsOf : GoodIn wsX4_fits (wsV RX4 60 RX6 yX6_signsOf wsX6_signsOf) := goodIn_app (goodIn_of _ (by decide +kernel)) ggX4_fits_X6_signsOf
set_option maxRecDepth 20000 in
theorem ggX4_fits_X1_longest : GoodIn wsX4_fits wsX1_longest := goodIn_r _ [32, 33, 46, 47, 48, 49, 50, 51, 52] (by decide +kernel) (by decide +kernel)
set_option maxRecDepth 20000 in
theorem gX4_fits_X1_longest : GoodIn wsX4_fits (wsV RX4 63 RX1 yX1_longest wsX1_longest) := goodIn_app (goodIn_of _ (by decide +kernel)) ggX4_fits_X1_longest
theorem dX4_fits_0 : decode cX4_fits 0 = .ok (.iload_n 1, 1) := by decide +kernel
theorem dX4_fits_1 : decode cX4_fits 1 = .ok (.iload_n 2, 1) := by decide +kernel
theorem dX4_fits_2 : decode cX4_fits 2 = .ok (.iadd, 1) := by decide +kernel
theorem dX4_fits_3 : decode cX4_fits 3 = .ok (.aload_n 0, 1) := by decide +kernel
theorem dX4_fits_4 : decode cX4_fits 4 = .ok (.getfield 18, 3) := by decide +kernel
theorem dX4_fits_7 : decode cX4_fits 7 = .ok (.invokevirtual 26, 3) := by decide +kernel
theorem dX4_fits_10 : decode cX4_fits 10 = .ok (.if_icmp .gt 26, 3) := by decide +kernel
theorem dX4_fits_13 : decode cX4_fits 13 = .ok (.aload_n 0, 1) := by decide +kernel
theorem dX4_fits_14 : decode cX4_fits 14 = .ok (.getfield 18, 3) := by decide +kernel
theorem dX4_fits_17 : decode cX4_fits 17 = .ok (.iload_n 1, 1) := by decide +kernel
theorem dX4_fits_18 : decode cX4_fits 18 = .ok (.iload_n 2, 1) := by decide +kernel
theorem dX4_fits_19 : decode cX4_fits 19 = .ok (.invokevirtual 60, 3) := by decide +kernel
theorem dX4_fits_22 : decode cX4_fits 22 = .ok (.aload_n 0, 1) := by decide +kernel
theorem dX4_fits_23 : decode cX4_fits 23 = .ok (.getfield 22, 3) := by decide +kernel
theorem dX4_fits_26 : decode cX4_fits 26 = .ok (.invokevirtual 63, 3) := by decide +kernel
theorem dX4_fits_29 : decode cX4_fits 29 = .ok (.if_icmp .gt 7, 3) := by decide +kernel
theorem dX4_fits_32 : decode cX4_fits 32 = .ok (.iconst 1, 1) := by decide +kernel
theorem dX4_fits_33 : decode cX4_fits 33 = .ok (.goto 4, 3) := by decide +kernel
theorem dX4_fits_36 : decode cX4_fits 36 = .ok (.iconst 0, 1) := by decide +kernel
theorem dX4_fits_37 : decode cX4_fits 37 = .ok (.ireturn, 1) := by decide +kernel
set_option maxRecDepth 20000 in
theorem ggX4_weigh_X6_units : GoodIn wsX4_weigh wsX6_units := goodIn_r _ [7, 8, 82, 83, 84, 85, 86, 87, 88] (by decide +kernel) (by decide +kernel)
set_option maxRecDepth 20000 in
theorem gX4_weigh_X6_units : GoodIn wsX4_weigh (wsV RX4 26 RX6 yX6_units wsX6_units) := goodIn_app (goodIn_of _ (by decide +kernel)) ggX4_weigh_X6_units
set_option maxRecDepth 20000 in
theorem ggX4_weigh_X6_signsOf : GoodIn wsX4_weigh wsX6_signsOf := goodIn_r _ [12, 13, 14, 15, 6, 16, 17, 18, 19, 20, 21, 22, 8, 23, 24, 25, 26, 27, 82, 83, 84, 85, 86, 87, 88] (by decide +kernel) (by decide +kernel)
set_option maxRecDepth 20000 in
theorem gX4_weigh_X6_signsOf : GoodIn wsX4_weigh (wsV RX4 60 RX6 yX6_signsOf wsX6_signsOf) := goodIn_app (goodIn_of _ (by decide +kernel)) ggX4_weigh_X6_signsOf
set_option maxRecDepth 20000 in
theorem ggX4_weigh_X6_behindLine : GoodIn wsX4_weigh wsX6_behindLine := goodIn_r _ [26, 27, 19, 20, 21, 6, 22, 8, 82, 83, 84, 85, 86, 87, 88] (by decide +kernel) (by decide +kernel)
set_option maxRecDepth 20000 in
theorem gX4_weigh_X6_behindLine : GoodIn wsX4_weigh (wsV RX4 68 RX6 yX6_behindLine wsX6_behindLine) := goodIn_app (goodIn_of _ (by decide +kernel)) ggX4_weigh_X6_behindLine
set_option maxRecDepth 20000 in
theorem ggX4_weigh_X1_strainOfLine : GoodIn wsX4_weigh wsX1_strainOfLine := goodIn_r _ [33, 34, 35, 36, 37, 38, 32, 39, 40, 41, 42, 89, 90, 91, 92, 93, 94, 95] (by decide +kernel) (by decide +kernel)
set_option maxRecDepth 20000 in
theorem gX4_weigh_X1_strainOfLine : GoodIn wsX4_weigh (wsV RX4 71 RX1 yX1_strainOfLine wsX1_strainOfLine) := goodIn_app (goodIn_of _ (by decide +kernel)) ggX4_weigh_X1_strainOfLine
set_option maxRecDepth 20000 in
theorem ggX4_weigh_X6_body : GoodIn wsX4_weigh wsX6_body := goodIn_r _ [16, 17, 18, 19, 20, 21, 6, 22, 8, 82, 83, 84, 85, 86, 87, 88] (by decide +kernel) (by decide +kernel)
set_option maxRecDepth 20000 in
theorem gX4_weigh_X6_body : GoodIn wsX4_weigh (wsV RX4 57 RX6 yX6_body wsX6_body) := goodIn_app (goodIn_of _ (by decide +kernel)) ggX4_weigh_X6_body
set_option maxRecDepth 20000 in
theorem ggX4_weigh_X4_leastBelow : GoodIn wsX4_weigh wsX4_leastBelow := goodIn_r _ [48, 49, 1, 50, 51, 52, 53, 54, 2, 55, 3, 4, 5, 6, 7, 8, 56, 57, 58, 59, 18, 19, 20, 21, 22, 43, 14, 15, 16, 17, 60, 61, 62, 63, 64, 65, 66, 67, 68, 32, 69, 70, 71, 72, 73, 74, 75, 47, 76, 77, 78, 79, 80, 81, 82, 83, 84, 85, 86, 87, 88, 89, 90, 91, 92, 93, 94, 95] (by decide +kernel) (by decide +kernel)
set_option maxRecDepth 20000 in
theorem gX4_weigh_X4_leastBelow : GoodIn wsX4_weigh (wsV RX4 43 RX4 yX4_leastBelow wsX4_leastBelow) := goodIn_app (goodIn_of _ (by decide +kernel)) ggX4_weigh_X4_leastBelow
theorem dX4_weigh_0 : decode cX4_weigh 0 = .ok (.iload_n 1, 1) := by decide +kernel
theorem dX4_weigh_1 : decode cX4_weigh 1 = .ok (.iload_n 2, 1) := by decide +kernel
theorem dX4_weigh_2 : decode cX4_weigh 2 = .ok (.iadd, 1) := by decide +kernel
theorem dX4_weigh_3 : decode cX4_weigh 3 = .ok (.istore_n 3, 1) := by decide +kernel
theorem dX4_weigh_4 : decode cX4_weigh 4 = .ok (.iload_n 3, 1) := by decide +kernel
theorem dX4_weigh_5 : decode cX4_weigh 5 = .ok (.aload_n 0, 1) := by decide +kernel
theorem dX4_weigh_6 : decode cX4_weigh 6 = .ok (.getfield 18, 3) := by decide +kernel
theorem dX4_weigh_9 : decode cX4_weigh 9 = .ok (.invokevirtual 26, 3) := by decide +kernel
theorem dX4_weigh_12 : decode cX4_weigh 12 = .ok (.if_icmp .lt 5, 3) := by decide +kernel
theorem dX4_weigh_15 : decode cX4_weigh 15 = .ok (.iconst 0, 1) := by decide +kernel
theorem dX4_weigh_16 : decode cX4_weigh 16 = .ok (.ireturn, 1) := by decide +kernel
theorem dX4_weigh_17 : decode cX4_weigh 17 = .ok (.aload_n 0, 1) := by decide +kernel
theorem dX4_weigh_18 : decode cX4_weigh 18 = .ok (.getfield 22, 3) := by decide +kernel
theorem dX4_weigh_21 : decode cX4_weigh 21 = .ok (.aload_n 0, 1) := by decide +kernel
theorem dX4_weigh_22 : decode cX4_weigh 22 = .ok (.getfield 18, 3) := by decide +kernel
theorem dX4_weigh_25 : decode cX4_weigh 25 = .ok (.iload_n 1, 1) := by decide +kernel
theorem dX4_weigh_26 : decode cX4_weigh 26 = .ok (.iload_n 2, 1) := by decide +kernel
theorem dX4_weigh_27 : decode cX4_weigh 27 = .ok (.invokevirtual 60, 3) := by decide +kernel
theorem dX4_weigh_30 : decode cX4_weigh 30 = .ok (.aload_n 0, 1) := by decide +kernel
theorem dX4_weigh_31 : decode cX4_weigh 31 = .ok (.getfield 18, 3) := by decide +kernel
theorem dX4_weigh_34 : decode cX4_weigh 34 = .ok (.iload_n 1, 1) := by decide +kernel
theorem dX4_weigh_35 : decode cX4_weigh 35 = .ok (.iload_n 2, 1) := by decide +kernel
theorem dX4_weigh_36 : decode cX4_weigh 36 = .ok (.invokevirtual 68, 3) := by decide +kernel
theorem dX4_weigh_39 : decode cX4_weigh 39 = .ok (.invokevirtual 71, 3) := by decide +kernel
theorem dX4_weigh_42 : decode cX4_weigh 42 = .ok (.aload_n 0, 1) := by decide +kernel
theorem dX4_weigh_43 : decode cX4_weigh 43 = .ok (.iload_n 1, 1) := by decide +kernel
theorem dX4_weigh_44 : decode cX4_weigh 44 = .ok (.aload_n 0, 1) := by decide +kernel
theorem dX4_weigh_45 : decode cX4_weigh 45 = .ok (.getfield 18, 3) := by decide +kernel
theorem dX4_weigh_48 : decode cX4_weigh 48 = .ok (.iload_n 1, 1) := by decide +kernel
theorem dX4_weigh_49 : decode cX4_weigh 49 = .ok (.iload_n 2, 1) := by decide +kernel
theorem dX4_weigh_50 : decode cX4_weigh 50 = .ok (.invokevirtual 57, 3) := by decide +kernel
theorem dX4_weigh_53 : decode cX4_weigh 53 = .ok (.iload_n 3, 1) := by decide +kernel
theorem dX4_weigh_54 : decode cX4_weigh 54 = .ok (.invokevirtual 43, 3) := by decide +kernel
theorem dX4_weigh_57 : decode cX4_weigh 57 = .ok (.iadd, 1) := by decide +kernel
theorem dX4_weigh_58 : decode cX4_weigh 58 = .ok (.ireturn, 1) := by decide +kernel
set_option maxRecDepth 20000 in
theorem ggX4_leastBelow_X6_units : GoodIn wsX4_leastBelow wsX6_units := goodIn_r _ [14, 15, 54, 55, 56, 57, 58, 59, 60] (by decide +kernel) (by decide +kernel)
set_option maxRecDepth 20000 in
theorem gX4_leastBelow_X6_units : GoodIn wsX4_leastBelow (wsV RX4 26 RX6 yX6_units wsX6_units) := goodIn_app (goodIn_of _ (by decide +kernel)) ggX4_leastBelow_X6_units
set_option maxRecDepth 20000 in
theorem ggX4_leastBelow_X6_beginOf : GoodIn wsX4_leastBelow wsX6_beginOf := goodIn_r _ [19, 20, 21, 22, 23, 13, 24, 15, 54, 55, 56, 57, 58, 59, 60] (by decide +kernel) (by decide +kernel)
set_option maxRecDepth 20000 in
theorem gX4_leastBelow_X6_beginOf : GoodIn wsX4_leastBelow (wsV RX4 74 RX6 yX6_beginOf wsX6_beginOf) := goodIn_app (goodIn_of _ (by decide +kernel)) ggX4_leastBelow_X6_beginOf
set_option maxRecDepth 20000 in
theorem ggX4_leastBelow_X6_body : GoodIn wsX4_leastBelow wsX6_body := goodIn_r _ [28, 29, 20, 21, 22, 23, 13, 24, 15, 54, 55, 56, 57, 58, 59, 60] (by decide +kernel) (by decide +kernel)
set_option maxRecDepth 20000 in
theorem gX4_leastBelow_X6_body : GoodIn wsX4_leastBelow (wsV RX4 57 RX6 yX6_body wsX6_body) := goodIn_app (goodIn_of _ (by decide +kernel)) ggX4_leastBelow_X6_body
set_option maxRecDepth 20000 in
theorem ggX4_leastBelow_X6_strainOfPlaces : GoodIn wsX4_leastBelow wsX6_strainOfPlaces := goodIn_r _ [33, 34, 35, 36, 37, 38, 39, 40, 41, 42, 43, 44, 54, 55, 56, 57, 58, 59, 60, 61, 62, 63, 64, 65, 66, 67] (by decide +kernel) (by decide +kernel)
set_option maxRecDepth 20000 in
theorem gX4_leastBelow_X6_strainOfPlaces : GoodIn wsX4_leastBelow (wsV RX4 83 RX6 yX6_strainOfPlaces wsX6_strainOfPlaces) := goodIn_app (goodIn_of _ (by decide +kernel)) ggX4_leastBelow_X6_strainOfPlaces
set_option maxRecDepth 20000 in
theorem ggX4_leastBelow_X4_place : GoodIn wsX4_leastBelow wsX4_place := goodIn_r _ [48] (by decide +kernel) (by decide +kernel)
set_option maxRecDepth 20000 in
theorem gX4_leastBelow_X4_place : GoodIn wsX4_leastBelow (va_wsS RX4 36 yX4_place wsX4_place) := goodIn_app (goodIn_of _ (by decide +kernel)) ggX4_leastBelow_X4_place
theorem dX4_leastBelow_0 : decode cX4_leastBelow 0 = .ok (.aload_n 0, 1) := by decide +kernel
theorem dX4_leastBelow_1 : decode cX4_leastBelow 1 = .ok (.iconst 0, 1) := by decide +kernel
theorem dX4_leastBelow_2 : decode cX4_leastBelow 2 = .ok (.putfield 47, 3) := by decide +kernel
theorem dX4_leastBelow_5 : decode cX4_leastBelow 5 = .ok (.iconst 0, 1) := by decide +kernel
theorem dX4_leastBelow_6 : decode cX4_leastBelow 6 = .ok (.istore 4, 2) := by decide +kernel
theorem dX4_leastBelow_8 : decode cX4_leastBelow 8 = .ok (.iload_n 3, 1) := by decide +kernel
theorem dX4_leastBelow_9 : decode cX4_leastBelow 9 = .ok (.aload_n 0, 1) := by decide +kernel
theorem dX4_leastBelow_10 : decode cX4_leastBelow 10 = .ok (.getfield 18, 3) := by decide +kernel
theorem dX4_leastBelow_13 : decode cX4_leastBelow 13 = .ok (.invokevirtual 26, 3) := by decide +kernel
theorem dX4_leastBelow_16 : decode cX4_leastBelow 16 = .ok (.if_icmp .lt 6, 3) := by decide +kernel
theorem dX4_leastBelow_19 : decode cX4_leastBelow 19 = .ok (.iload 4, 2) := by decide +kernel
theorem dX4_leastBelow_21 : decode cX4_leastBelow 21 = .ok (.ireturn, 1) := by decide +kernel
theorem dX4_leastBelow_22 : decode cX4_leastBelow 22 = .ok (.aload_n 0, 1) := by decide +kernel
theorem dX4_leastBelow_23 : decode cX4_leastBelow 23 = .ok (.getfield 18, 3) := by decide +kernel
theorem dX4_leastBelow_26 : decode cX4_leastBelow 26 = .ok (.iload_n 1, 1) := by decide +kernel
theorem dX4_leastBelow_27 : decode cX4_leastBelow 27 = .ok (.invokevirtual 74, 3) := by decide +kernel
theorem dX4_leastBelow_30 : decode cX4_leastBelow 30 = .ok (.istore 5, 2) := by decide +kernel
theorem dX4_leastBelow_32 : decode cX4_leastBelow 32 = .ok (.aload_n 0, 1) := by decide +kernel
theorem dX4_leastBelow_33 : decode cX4_leastBelow 33 = .ok (.getfield 18, 3) := by decide +kernel
theorem dX4_leastBelow_36 : decode cX4_leastBelow 36 = .ok (.iload_n 3, 1) := by decide +kernel
theorem dX4_leastBelow_37 : decode cX4_leastBelow 37 = .ok (.invokevirtual 74, 3) := by decide +kernel
theorem dX4_leastBelow_40 : decode cX4_leastBelow 40 = .ok (.istore 6, 2) := by decide +kernel
theorem dX4_leastBelow_42 : decode cX4_leastBelow 42 = .ok (.iconst 0, 1) := by decide +kernel
theorem dX4_leastBelow_43 : decode cX4_leastBelow 43 = .ok (.istore 7, 2) := by decide +kernel
theorem dX4_leastBelow_45 : decode cX4_leastBelow 45 = .ok (.iconst 0, 1) := by decide +kernel
theorem dX4_leastBelow_46 : decode cX4_leastBelow 46 = .ok (.istore 8, 2) := by decide +kernel
theorem dX4_leastBelow_48 : decode cX4_leastBelow 48 = .ok (.iconst 1, 1) := by decide +kernel
theorem dX4_leastBelow_49 : decode cX4_leastBelow 49 = .ok (.istore 9, 2) := by decide +kernel
theorem dX4_leastBelow_51 : decode cX4_leastBelow 51 = .ok (.iload 9, 2) := by decide +kernel
theorem dX4_leastBelow_53 : decode cX4_leastBelow 53 = .ok (.aload_n 0, 1) := by decide +kernel
theorem dX4_leastBelow_54 : decode cX4_leastBelow 54 = .ok (.getfield 9, 3) := by decide +kernel
theorem dX4_leastBelow_57 : decode cX4_leastBelow 57 = .ok (.iload_n 3, 1) := by decide +kernel
theorem dX4_leastBelow_58 : decode cX4_leastBelow 58 = .ok (.iaload, 1) := by decide +kernel
theorem dX4_leastBelow_59 : decode cX4_leastBelow 59 = .ok (.if_icmp .gt 93, 3) := by decide +kernel
theorem dX4_leastBelow_62 : decode cX4_leastBelow 62 = .ok (.iload_n 2, 1) := by decide +kernel
theorem dX4_leastBelow_63 : decode cX4_leastBelow 63 = .ok (.aload_n 0, 1) := by decide +kernel
theorem dX4_leastBelow_64 : decode cX4_leastBelow 64 = .ok (.getfield 18, 3) := by decide +kernel
theorem dX4_leastBelow_67 : decode cX4_leastBelow 67 = .ok (.iload_n 3, 1) := by decide +kernel
theorem dX4_leastBelow_68 : decode cX4_leastBelow 68 = .ok (.iload 9, 2) := by decide +kernel
theorem dX4_leastBelow_70 : decode cX4_leastBelow 70 = .ok (.invokevirtual 57, 3) := by decide +kernel
theorem dX4_leastBelow_73 : decode cX4_leastBelow 73 = .ok (.invokestatic 78, 3) := by decide +kernel
theorem dX4_leastBelow_76 : decode cX4_leastBelow 76 = .ok (.istore 10, 2) := by decide +kernel
theorem dX4_leastBelow_78 : decode cX4_leastBelow 78 = .ok (.iload 8, 2) := by decide +kernel
theorem dX4_leastBelow_80 : decode cX4_leastBelow 80 = .ok (.aload_n 0, 1) := by decide +kernel
theorem dX4_leastBelow_81 : decode cX4_leastBelow 81 = .ok (.getfield 18, 3) := by decide +kernel
theorem dX4_leastBelow_84 : decode cX4_leastBelow 84 = .ok (.iload 5, 2) := by decide +kernel
theorem dX4_leastBelow_86 : decode cX4_leastBelow 86 = .ok (.iload 6, 2) := by decide +kernel
theorem dX4_leastBelow_88 : decode cX4_leastBelow 88 = .ok (.iload 7, 2) := by decide +kernel
theorem dX4_leastBelow_90 : decode cX4_leastBelow 90 = .ok (.iload 10, 2) := by decide +kernel
theorem dX4_leastBelow_92 : decode cX4_leastBelow 92 = .ok (.aload_n 0, 1) := by decide +kernel
theorem dX4_leastBelow_93 : decode cX4_leastBelow 93 = .ok (.getfield 22, 3) := by decide +kernel
theorem dX4_leastBelow_96 : decode cX4_leastBelow 96 = .ok (.invokevirtual 83, 3) := by decide +kernel
theorem dX4_leastBelow_99 : decode cX4_leastBelow 99 = .ok (.iadd, 1) := by decide +kernel
theorem dX4_leastBelow_100 : decode cX4_leastBelow 100 = .ok (.istore 8, 2) := by decide +kernel
theorem dX4_leastBelow_102 : decode cX4_leastBelow 102 = .ok (.iload 10, 2) := by decide +kernel
theorem dX4_leastBelow_104 : decode cX4_leastBelow 104 = .ok (.istore 7, 2) := by decide +kernel
theorem dX4_leastBelow_106 : decode cX4_leastBelow 106 = .ok (.iload 8, 2) := by decide +kernel
theorem dX4_leastBelow_108 : decode cX4_leastBelow 108 = .ok (.aload_n 0, 1) := by decide +kernel
theorem dX4_leastBelow_109 : decode cX4_leastBelow 109 = .ok (.getfield 15, 3) := by decide +kernel
theorem dX4_leastBelow_112 : decode cX4_leastBelow 112 = .ok (.iload_n 3, 1) := by decide +kernel
theorem dX4_leastBelow_113 : decode cX4_leastBelow 113 = .ok (.iload 9, 2) := by decide +kernel
theorem dX4_leastBelow_115 : decode cX4_leastBelow 115 = .ok (.invokestatic 36, 3) := by decide +kernel
theorem dX4_leastBelow_118 : decode cX4_leastBelow 118 = .ok (.iaload, 1) := by decide +kernel
theorem dX4_leastBelow_119 : decode cX4_leastBelow 119 = .ok (.iadd, 1) := by decide +kernel
theorem dX4_leastBelow_120 : decode cX4_leastBelow 120 = .ok (.istore 11, 2) := by decide +kernel
theorem dX4_leastBelow_122 : decode cX4_leastBelow 122 = .ok (.aload_n 0, 1) := by decide +kernel
theorem dX4_leastBelow_123 : decode cX4_leastBelow 123 = .ok (.getfield 47, 3) := by decide +kernel
theorem dX4_leastBelow_126 : decode cX4_leastBelow 126 = .ok (.ifCond .eq 10, 3) := by decide +kernel
theorem dX4_leastBelow_129 : decode cX4_leastBelow 129 = .ok (.iload 11, 2) := by decide +kernel
theorem dX4_leastBelow_131 : decode cX4_leastBelow 131 = .ok (.iload 4, 2) := by decide +kernel
theorem dX4_leastBelow_133 : decode cX4_leastBelow 133 = .ok (.if_icmp .gt 13, 3) := by decide +kernel
theorem dX4_leastBelow_136 : decode cX4_leastBelow 136 = .ok (.iload 11, 2) := by decide +kernel
theorem dX4_leastBelow_138 : decode cX4_leastBelow 138 = .ok (.istore 4, 2) := by decide +kernel
theorem dX4_leastBelow_140 : decode cX4_leastBelow 140 = .ok (.aload_n 0, 1) := by decide +kernel
theorem dX4_leastBelow_141 : decode cX4_leastBelow 141 = .ok (.iload 9, 2) := by decide +kernel
theorem dX4_leastBelow_143 : decode cX4_leastBelow 143 = .ok (.putfield 47, 3) := by decide +kernel
theorem dX4_leastBelow_146 : decode cX4_leastBelow 146 = .ok (.iinc 9 1, 3) := by decide +kernel
theorem dX4_leastBelow_149 : decode cX4_leastBelow 149 = .ok (.goto (-98), 3) := by decide +kernel
theorem dX4_leastBelow_152 : decode cX4_leastBelow 152 = .ok (.iload 4, 2) := by decide +kernel
theorem dX4_leastBelow_154 : decode cX4_leastBelow 154 = .ok (.ireturn, 1) := by decide +kernel
theorem dX4_place_0 : decode cX4_place 0 = .ok (.iload_n 0, 1) := by decide +kernel
theorem dX4_place_1 : decode cX4_place 1 = .ok (.bipush 60, 2) := by decide +kernel
theorem dX4_place_3 : decode cX4_place 3 = .ok (.imul, 1) := by decide +kernel
theorem dX4_place_4 : decode cX4_place 4 = .ok (.iload_n 1, 1) := by decide +kernel
theorem dX4_place_5 : decode cX4_place 5 = .ok (.iadd, 1) := by decide +kernel
theorem dX4_place_6 : decode cX4_place 6 = .ok (.iconst 1, 1) := by decide +kernel
theorem dX4_place_7 : decode cX4_place 7 = .ok (.isub, 1) := by decide +kernel
theorem dX4_place_8 : decode cX4_place 8 = .ok (.ireturn, 1) := by decide +kernel
set_option maxRecDepth 20000 in
theorem ggX5_init_X6_init : GoodIn wsX5_init wsX6_init := goodIn_r _ [12, 13, 2, 3, 8, 14, 15, 16, 17, 18, 19, 20, 21, 22, 23, 24, 25] (by decide +kernel) (by decide +kernel)
set_option maxRecDepth 20000 in
theorem gX5_init_X6_init_n11 : GoodIn wsX5_init (wsX6_init) := ggX5_init_X6_init
theorem dX5_init_0 : decode cX5_init 0 = .ok (.aload_n 0, 1) := by decide +kernel
theorem dX5_init_1 : decode cX5_init 1 = .ok (.invokespecial 3, 3) := by decide +kernel
theorem dX5_init_4 : decode cX5_init 4 = .ok (.aload_n 0, 1) := by decide +kernel
theorem dX5_init_5 : decode cX5_init 5 = .ok (.new 9, 3) := by decide +kernel
theorem dX5_init_8 : decode cX5_init 8 = .ok (.dup, 1) := by decide +kernel
theorem dX5_init_9 : decode cX5_init 9 = .ok (.invokespecial 11, 3) := by decide +kernel
theorem dX5_init_12 : decode cX5_init 12 = .ok (.putfield 12, 3) := by decide +kernel
theorem dX5_init_15 : decode cX5_init 15 = .ok (.aload_n 0, 1) := by decide +kernel
theorem dX5_init_16 : decode cX5_init 16 = .ok (.bipush 80, 2) := by decide +kernel
theorem dX5_init_18 : decode cX5_init 18 = .ok (.newarray .int, 2) := by decide +kernel
theorem dX5_init_20 : decode cX5_init 20 = .ok (.putfield 18, 3) := by decide +kernel
theorem dX5_init_23 : decode cX5_init 23 = .ok (.aload_n 0, 1) := by decide +kernel
theorem dX5_init_24 : decode cX5_init 24 = .ok (.bipush 80, 2) := by decide +kernel
theorem dX5_init_26 : decode cX5_init 26 = .ok (.newarray .int, 2) := by decide +kernel
theorem dX5_init_28 : decode cX5_init 28 = .ok (.putfield 22, 3) := by decide +kernel
theorem dX5_init_31 : decode cX5_init 31 = .ok (.return_, 1) := by decide +kernel
theorem dX5_strip_0 : decode cX5_strip 0 = .ok (.aload_n 0, 1) := by decide +kernel
theorem dX5_strip_1 : decode cX5_strip 1 = .ok (.getfield 12, 3) := by decide +kernel
theorem dX5_strip_4 : decode cX5_strip 4 = .ok (.areturn, 1) := by decide +kernel
theorem dX5_isThere_0 : decode cX5_isThere 0 = .ok (.aload_n 0, 1) := by decide +kernel
theorem dX5_isThere_1 : decode cX5_isThere 1 = .ok (.getfield 25, 3) := by decide +kernel
theorem dX5_isThere_4 : decode cX5_isThere 4 = .ok (.ireturn, 1) := by decide +kernel
theorem dX5_isOfText_0 : decode cX5_isOfText 0 = .ok (.aload_n 0, 1) := by decide +kernel
theorem dX5_isOfText_1 : decode cX5_isOfText 1 = .ok (.getfield 25, 3) := by decide +kernel
theorem dX5_isOfText_4 : decode cX5_isOfText 4 = .ok (.ifCond .eq 14, 3) := by decide +kernel
theorem dX5_isOfText_7 : decode cX5_isOfText 7 = .ok (.aload_n 0, 1) := by decide +kernel
theorem dX5_isOfText_8 : decode cX5_isOfText 8 = .ok (.getfield 29, 3) := by decide +kernel
theorem dX5_isOfText_11 : decode cX5_isOfText 11 = .ok (.ifCond .eq 7, 3) := by decide +kernel
theorem dX5_isOfText_14 : decode cX5_isOfText 14 = .ok (.iconst 1, 1) := by decide +kernel
theorem dX5_isOfText_15 : decode cX5_isOfText 15 = .ok (.goto 4, 3) := by decide +kernel
theorem dX5_isOfText_18 : decode cX5_isOfText 18 = .ok (.iconst 0, 1) := by decide +kernel
theorem dX5_isOfText_19 : decode cX5_isOfText 19 = .ok (.ireturn, 1) := by decide +kernel
theorem dX5_count_0 : decode cX5_count 0 = .ok (.aload_n 0, 1) := by decide +kernel
theorem dX5_count_1 : decode cX5_count 1 = .ok (.getfield 32, 3) := by decide +kernel
theorem dX5_count_4 : decode cX5_count 4 = .ok (.ireturn, 1) := by decide +kernel
theorem dX5_has_0 : decode cX5_has 0 = .ok (.aload_n 0, 1) := by decide +kernel
theorem dX5_has_1 : decode cX5_has 1 = .ok (.getfield 25, 3) := by decide +kernel
theorem dX5_has_4 : decode cX5_has 4 = .ok (.ifCond .eq 19, 3) := by decide +kernel
theorem dX5_has_7 : decode cX5_has 7 = .ok (.iload_n 1, 1) := by decide +kernel
theorem dX5_has_8 : decode cX5_has 8 = .ok (.ifCond .lt 15, 3) := by decide +kernel
theorem dX5_has_11 : decode cX5_has 11 = .ok (.iload_n 1, 1) := by decide +kernel
theorem dX5_has_12 : decode cX5_has 12 = .ok (.aload_n 0, 1) := by decide +kernel
theorem dX5_has_13 : decode cX5_has 13 = .ok (.getfield 32, 3) := by decide +kernel
theorem dX5_has_16 : decode cX5_has 16 = .ok (.if_icmp .ge 7, 3) := by decide +kernel
theorem dX5_has_19 : decode cX5_has 19 = .ok (.iconst 1, 1) := by decide +kernel
theorem dX5_has_20 : decode cX5_has 20 = .ok (.goto 4, 3) := by decide +kernel
theorem dX5_has_23 : decode cX5_has 23 = .ok (.iconst 0, 1) := by decide +kernel
theorem dX5_has_24 : decode cX5_has 24 = .ok (.ireturn, 1) := by decide +kernel
theorem dX5_drop_0 : decode cX5_drop 0 = .ok (.aload_n 0, 1) := by decide +kernel
theorem dX5_drop_1 : decode cX5_drop 1 = .ok (.iconst 0, 1) := by decide +kernel
theorem dX5_drop_2 : decode cX5_drop 2 = .ok (.putfield 25, 3) := by decide +kernel
theorem dX5_drop_5 : decode cX5_drop 5 = .ok (.return_, 1) := by decide +kernel
theorem dX5_outdate_0 : decode cX5_outdate 0 = .ok (.aload_n 0, 1) := by decide +kernel
theorem dX5_outdate_1 : decode cX5_outdate 1 = .ok (.iconst 0, 1) := by decide +kernel
theorem dX5_outdate_2 : decode cX5_outdate 2 = .ok (.putfield 29, 3) := by decide +kernel
theorem dX5_outdate_5 : decode cX5_outdate 5 = .ok (.return_, 1) := by decide +kernel
set_option maxRecDepth 20000 in
theorem ggX5_begin_X6_lay : GoodIn wsX5_begin wsX6_lay := goodIn_r _ [9, 10, 11, 12, 13, 14, 15, 16, 17, 18, 19, 20, 21, 22, 23, 24, 25, 26, 27, 28, 29, 30, 31, 32, 33, 8, 34, 35, 36, 37, 38, 39, 40, 41, 42, 43, 44, 45, 46, 47, 48, 49, 50, 51, 52, 53, 54, 55, 56, 57, 58, 59, 60, 61, 62, 63, 64, 65, 72, 73, 74, 75, 76, 77, 78, 79, 80, 81, 82] (by decide +kernel) (by decide +kernel)
set_option maxRecDepth 20000 in
theorem gX5_begin_X6_lay : GoodIn wsX5_begin (wsV RX5 36 RX6 yX6_lay wsX6_lay) := goodIn_app (goodIn_of _ (by decide +kernel)) ggX5_begin_X6_lay
theorem dX5_begin_0 : decode cX5_begin 0 = .ok (.aload_n 0, 1) := by decide +kernel
theorem dX5_begin_1 : decode cX5_begin 1 = .ok (.getfield 12, 3) := by decide +kernel
theorem dX5_begin_4 : decode cX5_begin 4 = .ok (.aload_n 1, 1) := by decide +kernel
theorem dX5_begin_5 : decode cX5_begin 5 = .ok (.iload_n 2, 1) := by decide +kernel
theorem dX5_begin_6 : decode cX5_begin 6 = .ok (.invokevirtual 36, 3) := by decide +kernel
theorem dX5_begin_9 : decode cX5_begin 9 = .ok (.aload_n 0, 1) := by decide +kernel
theorem dX5_begin_10 : decode cX5_begin 10 = .ok (.iconst 0, 1) := by decide +kernel
theorem dX5_begin_11 : decode cX5_begin 11 = .ok (.putfield 32, 3) := by decide +kernel
theorem dX5_begin_14 : decode cX5_begin 14 = .ok (.aload_n 0, 1) := by decide +kernel
theorem dX5_begin_15 : decode cX5_begin 15 = .ok (.iconst 1, 1) := by decide +kernel
theorem dX5_begin_16 : decode cX5_begin 16 = .ok (.putfield 25, 3) := by decide +kernel
theorem dX5_begin_19 : decode cX5_begin 19 = .ok (.aload_n 0, 1) := by decide +kernel
theorem dX5_begin_20 : decode cX5_begin 20 = .ok (.iconst 1, 1) := by decide +kernel
theorem dX5_begin_21 : decode cX5_begin 21 = .ok (.putfield 29, 3) := by decide +kernel
theorem dX5_begin_24 : decode cX5_begin 24 = .ok (.return_, 1) := by decide +kernel
theorem dX5_addLine_0 : decode cX5_addLine 0 = .ok (.aload_n 0, 1) := by decide +kernel
theorem dX5_addLine_1 : decode cX5_addLine 1 = .ok (.getfield 32, 3) := by decide +kernel
theorem dX5_addLine_4 : decode cX5_addLine 4 = .ok (.bipush 80, 2) := by decide +kernel
theorem dX5_addLine_6 : decode cX5_addLine 6 = .ok (.if_icmp .ge 33, 3) := by decide +kernel
theorem dX5_addLine_9 : decode cX5_addLine 9 = .ok (.aload_n 0, 1) := by decide +kernel
theorem dX5_addLine_10 : decode cX5_addLine 10 = .ok (.getfield 18, 3) := by decide +kernel
theorem dX5_addLine_13 : decode cX5_addLine 13 = .ok (.aload_n 0, 1) := by decide +kernel
theorem dX5_addLine_14 : decode cX5_addLine 14 = .ok (.getfield 32, 3) := by decide +kernel
theorem dX5_addLine_17 : decode cX5_addLine 17 = .ok (.iload_n 1, 1) := by decide +kernel
theorem dX5_addLine_18 : decode cX5_addLine 18 = .ok (.iastore, 1) := by decide +kernel
theorem dX5_addLine_19 : decode cX5_addLine 19 = .ok (.aload_n 0, 1) := by decide +kernel
theorem dX5_addLine_20 : decode cX5_addLine 20 = .ok (.getfield 22, 3) := by decide +kernel
theorem dX5_addLine_23 : decode cX5_addLine 23 = .ok (.aload_n 0, 1) := by decide +kernel
theorem dX5_addLine_24 : decode cX5_addLine 24 = .ok (.getfield 32, 3) := by decide +kernel
theorem dX5_addLine_27 : decode cX5_addLine 27 = .ok (.iload_n 2, 1) := by decide +kernel
theorem dX5_addLine_28 : decode cX5_addLine 28 = .ok (.iastore, 1) := by decide +kernel
theorem dX5_addLine_29 : decode cX5_addLine 29 = .ok (.aload_n 0, 1) := by decide +kernel
theorem dX5_addLine_30 : decode cX5_addLine 30 = .ok (.dup, 1) := by decide +kernel
theorem dX5_addLine_31 : decode cX5_addLine 31 = .ok (.getfield 32, 3) := by decide +kernel
theorem dX5_addLine_34 : decode cX5_addLine 34 = .ok (.iconst 1, 1) := by decide +kernel
theorem dX5_addLine_35 : decode cX5_addLine 35 = .ok (.iadd, 1) := by decide +kernel
theorem dX5_addLine_36 : decode cX5_addLine 36 = .ok (.putfield 32, 3) := by decide +kernel
theorem dX5_addLine_39 : decode cX5_addLine 39 = .ok (.return_, 1) := by decide +kernel
set_option maxRecDepth 20000 in
theorem ggX5_first_X5_has : GoodIn wsX5_first wsX5_has := goodIn_r _ [6, 7, 8, 9, 10, 11, 12, 13, 14] (by decide +kernel) (by decide +kernel)
set_option maxRecDepth 20000 in
theorem gX5_first_X5_has : GoodIn wsX5_first (wsV RX5 40 RX5 yX5_has wsX5_has) := goodIn_app (goodIn_of _ (by decide +kernel)) ggX5_first_X5_has
theorem dX5_first_0 : decode cX5_first 0 = .ok (.aload_n 0, 1) := by decide +kernel
theorem dX5_first_1 : decode cX5_first 1 = .ok (.iload_n 1, 1) := by decide +kernel
theorem dX5_first_2 : decode cX5_first 2 = .ok (.invokevirtual 40, 3) := by decide +kernel
theorem dX5_first_5 : decode cX5_first 5 = .ok (.ifCond .eq 12, 3) := by decide +kernel
theorem dX5_first_8 : decode cX5_first 8 = .ok (.aload_n 0, 1) := by decide +kernel
theorem dX5_first_9 : decode cX5_first 9 = .ok (.getfield 18, 3) := by decide +kernel
theorem dX5_first_12 : decode cX5_first 12 = .ok (.iload_n 1, 1) := by decide +kernel
theorem dX5_first_13 : decode cX5_first 13 = .ok (.iaload, 1) := by decide +kernel
theorem dX5_first_14 : decode cX5_first 14 = .ok (.goto 4, 3) := by decide +kernel
theorem dX5_first_17 : decode cX5_first 17 = .ok (.iconst (-1), 1) := by decide +kernel
theorem dX5_first_18 : decode cX5_first 18 = .ok (.ireturn, 1) := by decide +kernel
set_option maxRecDepth 20000 in
theorem ggX5_unitsIn_X5_has : GoodIn wsX5_unitsIn wsX5_has := goodIn_r _ [6, 7, 8, 9, 10, 11, 12, 13, 14] (by decide +kernel) (by decide +kernel)
set_option maxRecDepth 20000 in
theorem gX5_unitsIn_X5_has : GoodIn wsX5_unitsIn (wsV RX5 40 RX5 yX5_has wsX5_has) := goodIn_app (goodIn_of _ (by decide +kernel)) ggX5_unitsIn_X5_has
theorem dX5_unitsIn_0 : decode cX5_unitsIn 0 = .ok (.aload_n 0, 1) := by decide +kernel
theorem dX5_unitsIn_1 : decode cX5_unitsIn 1 = .ok (.iload_n 1, 1) := by decide +kernel
theorem dX5_unitsIn_2 : decode cX5_unitsIn 2 = .ok (.invokevirtual 40, 3) := by decide +kernel
theorem dX5_unitsIn_5 : decode cX5_unitsIn 5 = .ok (.ifCond .eq 12, 3) := by decide +kernel
theorem dX5_unitsIn_8 : decode cX5_unitsIn 8 = .ok (.aload_n 0, 1) := by decide +kernel
theorem dX5_unitsIn_9 : decode cX5_unitsIn 9 = .ok (.getfield 22, 3) := by decide +kernel
theorem dX5_unitsIn_12 : decode cX5_unitsIn 12 = .ok (.iload_n 1, 1) := by decide +kernel
theorem dX5_unitsIn_13 : decode cX5_unitsIn 13 = .ok (.iaload, 1) := by decide +kernel
theorem dX5_unitsIn_14 : decode cX5_unitsIn 14 = .ok (.goto 4, 3) := by decide +kernel
theorem dX5_unitsIn_17 : decode cX5_unitsIn 17 = .ok (.iconst (-1), 1) := by decide +kernel
theorem dX5_unitsIn_18 : decode cX5_unitsIn 18 = .ok (.ireturn, 1) := by decide +kernel
set_option maxRecDepth 20000 in
theorem ggX5_signsIn_X5_has : GoodIn wsX5_signsIn wsX5_has := goodIn_r _ [8, 9, 10, 32, 33, 34, 35, 36, 37] (by decide +kernel) (by decide +kernel)
set_option maxRecDepth 20000 in
theorem gX5_signsIn_X5_has : GoodIn wsX5_signsIn (wsV RX5 40 RX5 yX5_has wsX5_has) := goodIn_app (goodIn_of _ (by decide +kernel)) ggX5_signsIn_X5_has
set_option maxRecDepth 20000 in
theorem ggX5_signsIn_X6_signsOf : GoodIn wsX5_signsIn wsX6_signsOf := goodIn_r _ [15, 16, 17, 18, 14, 19, 20, 21, 22, 23, 24, 25, 26, 27, 28, 29, 30, 31, 38, 39, 40, 41, 42, 43, 44] (by decide +kernel) (by decide +kernel)
set_option maxRecDepth 20000 in
theorem gX5_signsIn_X6_signsOf : GoodIn wsX5_signsIn (wsV RX5 44 RX6 yX6_signsOf wsX6_signsOf) := goodIn_app (goodIn_of _ (by decide +kernel)) ggX5_signsIn_X6_signsOf
theorem dX5_signsIn_0 : decode cX5_signsIn 0 = .ok (.aload_n 0, 1) := by decide +kernel
theorem dX5_signsIn_1 : decode cX5_signsIn 1 = .ok (.iload_n 1, 1) := by decide +kernel
theorem dX5_signsIn_2 : decode cX5_signsIn 2 = .ok (.invokevirtual 40, 3) := by decide +kernel
theorem dX5_signsIn_5 : decode cX5_signsIn 5 = .ok (.ifCond .eq 25, 3) := by decide +kernel
theorem dX5_signsIn_8 : decode cX5_signsIn 8 = .ok (.aload_n 0, 1) := by decide +kernel
theorem dX5_signsIn_9 : decode cX5_signsIn 9 = .ok (.getfield 12, 3) := by decide +kernel
theorem dX5_signsIn_12 : decode cX5_signsIn 12 = .ok (.aload_n 0, 1) := by decide +kernel
theorem dX5_signsIn_13 : decode cX5_signsIn 13 = .ok (.getfield 18, 3) := by decide +kernel
theorem dX5_signsIn_16 : decode cX5_signsIn 16 = .ok (.iload_n 1, 1) := by decide +kernel
theorem dX5_signsIn_17 : decode cX5_signsIn 17 = .ok (.iaload, 1) := by decide +kernel
theorem dX5_signsIn_18 : decode cX5_signsIn 18 = .ok (.aload_n 0, 1) := by decide +kernel
theorem dX5_signsIn_19 : decode cX5_signsIn 19 = .ok (.getfield 22, 3) := by decide +kernel
theorem dX5_signsIn_22 : decode cX5_signsIn 22 = .ok (.iload_n 1, 1) := by decide +kernel
theorem dX5_signsIn_23 : decode cX5_signsIn 23 = .ok (.iaload, 1) := by decide +kernel
theorem dX5_signsIn_24 : decode cX5_signsIn 24 = .ok (.invokevirtual 44, 3) := by decide +kernel
theorem dX5_signsIn_27 : decode cX5_signsIn 27 = .ok (.goto 4, 3) := by decide +kernel
theorem dX5_signsIn_30 : decode cX5_signsIn 30 = .ok (.iconst (-1), 1) := by decide +kernel
theorem dX5_signsIn_31 : decode cX5_signsIn 31 = .ok (.ireturn, 1) := by decide +kernel
set_option maxRecDepth 20000 in
theorem ggX5_signAt_X5_has : GoodIn wsX5_signAt wsX5_has := goodIn_r _ [8, 9, 10, 37, 38, 39, 40, 41, 42] (by decide +kernel) (by decide +kernel)
set_option maxRecDepth 20000 in
theorem gX5_signAt_X5_has : GoodIn wsX5_signAt (wsV RX5 40 RX5 yX5_has wsX5_has) := goodIn_app (goodIn_of _ (by decide +kernel)) ggX5_signAt_X5_has
set_option maxRecDepth 20000 in
theorem ggX5_signAt_X6_signAt : GoodIn wsX5_signAt wsX6_signAt := goodIn_r _ [15, 16, 17, 18, 19, 20, 14, 21, 22, 23, 24, 25, 26, 27, 28, 29, 30, 31, 32, 33, 34, 35, 36, 43, 44, 45, 46, 47, 48, 49] (by decide +kernel) (by decide +kernel)
set_option maxRecDepth 20000 in
theorem gX5_signAt_X6_signAt : GoodIn wsX5_signAt (wsV RX5 48 RX6 yX6_signAt wsX6_signAt) := goodIn_app (goodIn_of _ (by decide +kernel)) ggX5_signAt_X6_signAt
theorem dX5_signAt_0 : decode cX5_signAt 0 = .ok (.aload_n 0, 1) := by decide +kernel
theorem dX5_signAt_1 : decode cX5_signAt 1 = .ok (.iload_n 1, 1) := by decide +kernel
theorem dX5_signAt_2 : decode cX5_signAt 2 = .ok (.invokevirtual 40, 3) := by decide +kernel
theorem dX5_signAt_5 : decode cX5_signAt 5 = .ok (.ifCond .eq 26, 3) := by decide +kernel
theorem dX5_signAt_8 : decode cX5_signAt 8 = .ok (.aload_n 0, 1) := by decide +kernel
theorem dX5_signAt_9 : decode cX5_signAt 9 = .ok (.getfield 12, 3) := by decide +kernel
theorem dX5_signAt_12 : decode cX5_signAt 12 = .ok (.aload_n 0, 1) := by decide +kernel
theorem dX5_signAt_13 : decode cX5_signAt 13 = .ok (.getfield 18, 3) := by decide +kernel
theorem dX5_signAt_16 : decode cX5_signAt 16 = .ok (.iload_n 1, 1) := by decide +kernel
theorem dX5_signAt_17 : decode cX5_signAt 17 = .ok (.iaload, 1) := by decide +kernel
theorem dX5_signAt_18 : decode cX5_signAt 18 = .ok (.aload_n 0, 1) := by decide +kernel
theorem dX5_signAt_19 : decode cX5_signAt 19 = .ok (.getfield 22, 3) := by decide +kernel
theorem dX5_signAt_22 : decode cX5_signAt 22 = .ok (.iload_n 1, 1) := by decide +kernel
theorem dX5_signAt_23 : decode cX5_signAt 23 = .ok (.iaload, 1) := by decide +kernel
theorem dX5_signAt_24 : decode cX5_signAt 24 = .ok (.iload_n 2, 1) := by decide +kernel
theorem dX5_signAt_25 : decode cX5_signAt 25 = .ok (.invokevirtual 48, 3) := by decide +kernel
theorem dX5_signAt_28 : decode cX5_signAt 28 = .ok (.goto 4, 3) := by decide +kernel
theorem dX5_signAt_31 : decode cX5_signAt 31 = .ok (.iconst (-1), 1) := by decide +kernel
theorem dX5_signAt_32 : decode cX5_signAt 32 = .ok (.ireturn, 1) := by decide +kernel
theorem dX5_lineOf_0 : decode cX5_lineOf 0 = .ok (.iconst 0, 1) := by decide +kernel
theorem dX5_lineOf_1 : decode cX5_lineOf 1 = .ok (.istore_n 2, 1) := by decide +kernel
theorem dX5_lineOf_2 : decode cX5_lineOf 2 = .ok (.iload_n 2, 1) := by decide +kernel
theorem dX5_lineOf_3 : decode cX5_lineOf 3 = .ok (.aload_n 0, 1) := by decide +kernel
theorem dX5_lineOf_4 : decode cX5_lineOf 4 = .ok (.getfield 32, 3) := by decide +kernel
theorem dX5_lineOf_7 : decode cX5_lineOf 7 = .ok (.if_icmp .ge 38, 3) := by decide +kernel
theorem dX5_lineOf_10 : decode cX5_lineOf 10 = .ok (.iload_n 1, 1) := by decide +kernel
theorem dX5_lineOf_11 : decode cX5_lineOf 11 = .ok (.aload_n 0, 1) := by decide +kernel
theorem dX5_lineOf_12 : decode cX5_lineOf 12 = .ok (.getfield 18, 3) := by decide +kernel
theorem dX5_lineOf_15 : decode cX5_lineOf 15 = .ok (.iload_n 2, 1) := by decide +kernel
theorem dX5_lineOf_16 : decode cX5_lineOf 16 = .ok (.iaload, 1) := by decide +kernel
theorem dX5_lineOf_17 : decode cX5_lineOf 17 = .ok (.if_icmp .lt 22, 3) := by decide +kernel
theorem dX5_lineOf_20 : decode cX5_lineOf 20 = .ok (.iload_n 1, 1) := by decide +kernel
theorem dX5_lineOf_21 : decode cX5_lineOf 21 = .ok (.aload_n 0, 1) := by decide +kernel
theorem dX5_lineOf_22 : decode cX5_lineOf 22 = .ok (.getfield 18, 3) := by decide +kernel
theorem dX5_lineOf_25 : decode cX5_lineOf 25 = .ok (.iload_n 2, 1) := by decide +kernel
theorem dX5_lineOf_26 : decode cX5_lineOf 26 = .ok (.iaload, 1) := by decide +kernel
theorem dX5_lineOf_27 : decode cX5_lineOf 27 = .ok (.aload_n 0, 1) := by decide +kernel
theorem dX5_lineOf_28 : decode cX5_lineOf 28 = .ok (.getfield 22, 3) := by decide +kernel
theorem dX5_lineOf_31 : decode cX5_lineOf 31 = .ok (.iload_n 2, 1) := by decide +kernel
theorem dX5_lineOf_32 : decode cX5_lineOf 32 = .ok (.iaload, 1) := by decide +kernel
theorem dX5_lineOf_33 : decode cX5_lineOf 33 = .ok (.iadd, 1) := by decide +kernel
theorem dX5_lineOf_34 : decode cX5_lineOf 34 = .ok (.if_icmp .ge 5, 3) := by decide +kernel
theorem dX5_lineOf_37 : decode cX5_lineOf 37 = .ok (.iload_n 2, 1) := by decide +kernel
theorem dX5_lineOf_38 : decode cX5_lineOf 38 = .ok (.ireturn, 1) := by decide +kernel
theorem dX5_lineOf_39 : decode cX5_lineOf 39 = .ok (.iinc 2 1, 3) := by decide +kernel
theorem dX5_lineOf_42 : decode cX5_lineOf 42 = .ok (.goto (-40), 3) := by decide +kernel
theorem dX5_lineOf_45 : decode cX5_lineOf 45 = .ok (.iconst (-1), 1) := by decide +kernel
theorem dX5_lineOf_46 : decode cX5_lineOf 46 = .ok (.ireturn, 1) := by decide +kernel
set_option maxRecDepth 20000 in
theorem ggX5_riversAt_X5_signAt : GoodIn wsX5_riversAt wsX5_signAt := goodIn_r _ [6, 7, 8, 9, 10, 11, 12, 5, 13, 14, 1, 15, 16, 17, 18, 19, 20, 21, 22, 23, 24, 25, 26, 27, 28, 29, 30, 31, 32, 33, 34, 35, 36, 37, 38, 39, 40, 41, 42, 43, 44, 45, 46, 47, 48, 49, 50, 51, 52, 53] (by decide +kernel) (by decide +kernel)
set_option maxRecDepth 20000 in
theorem gX5_riversAt_X5_signAt : GoodIn wsX5_riversAt (wsV RX5 52 RX5 yX5_signAt wsX5_signAt) := goodIn_app (goodIn_of _ (by decide +kernel)) ggX5_riversAt_X5_signAt
theorem dX5_riversAt_0 : decode cX5_riversAt 0 = .ok (.iconst 0, 1) := by decide +kernel
theorem dX5_riversAt_1 : decode cX5_riversAt 1 = .ok (.istore_n 3, 1) := by decide +kernel
theorem dX5_riversAt_2 : decode cX5_riversAt 2 = .ok (.iconst 0, 1) := by decide +kernel
theorem dX5_riversAt_3 : decode cX5_riversAt 3 = .ok (.istore 4, 2) := by decide +kernel
theorem dX5_riversAt_5 : decode cX5_riversAt 5 = .ok (.iconst 0, 1) := by decide +kernel
theorem dX5_riversAt_6 : decode cX5_riversAt 6 = .ok (.istore 5, 2) := by decide +kernel
theorem dX5_riversAt_8 : decode cX5_riversAt 8 = .ok (.iload 5, 2) := by decide +kernel
theorem dX5_riversAt_10 : decode cX5_riversAt 10 = .ok (.aload_n 0, 1) := by decide +kernel
theorem dX5_riversAt_11 : decode cX5_riversAt 11 = .ok (.getfield 32, 3) := by decide +kernel
theorem dX5_riversAt_14 : decode cX5_riversAt 14 = .ok (.if_icmp .ge 42, 3) := by decide +kernel
theorem dX5_riversAt_17 : decode cX5_riversAt 17 = .ok (.aload_n 0, 1) := by decide +kernel
theorem dX5_riversAt_18 : decode cX5_riversAt 18 = .ok (.iload 5, 2) := by decide +kernel
theorem dX5_riversAt_20 : decode cX5_riversAt 20 = .ok (.iload_n 1, 1) := by decide +kernel
theorem dX5_riversAt_21 : decode cX5_riversAt 21 = .ok (.invokevirtual 52, 3) := by decide +kernel
theorem dX5_riversAt_24 : decode cX5_riversAt 24 = .ok (.bipush 32, 2) := by decide +kernel
theorem dX5_riversAt_26 : decode cX5_riversAt 26 = .ok (.if_icmp .ne 10, 3) := by decide +kernel
theorem dX5_riversAt_29 : decode cX5_riversAt 29 = .ok (.iload 4, 2) := by decide +kernel
theorem dX5_riversAt_31 : decode cX5_riversAt 31 = .ok (.iconst 1, 1) := by decide +kernel
theorem dX5_riversAt_32 : decode cX5_riversAt 32 = .ok (.iadd, 1) := by decide +kernel
theorem dX5_riversAt_33 : decode cX5_riversAt 33 = .ok (.goto 4, 3) := by decide +kernel
theorem dX5_riversAt_36 : decode cX5_riversAt 36 = .ok (.iconst 0, 1) := by decide +kernel
theorem dX5_riversAt_37 : decode cX5_riversAt 37 = .ok (.istore 4, 2) := by decide +kernel
theorem dX5_riversAt_39 : decode cX5_riversAt 39 = .ok (.iload 4, 2) := by decide +kernel
theorem dX5_riversAt_41 : decode cX5_riversAt 41 = .ok (.iconst 1, 1) := by decide +kernel
theorem dX5_riversAt_42 : decode cX5_riversAt 42 = .ok (.isub, 1) := by decide +kernel
theorem dX5_riversAt_43 : decode cX5_riversAt 43 = .ok (.iload_n 2, 1) := by decide +kernel
theorem dX5_riversAt_44 : decode cX5_riversAt 44 = .ok (.if_icmp .ne 6, 3) := by decide +kernel
theorem dX5_riversAt_47 : decode cX5_riversAt 47 = .ok (.iinc 3 1, 3) := by decide +kernel
theorem dX5_riversAt_50 : decode cX5_riversAt 50 = .ok (.iinc 5 1, 3) := by decide +kernel
theorem dX5_riversAt_53 : decode cX5_riversAt 53 = .ok (.goto (-45), 3) := by decide +kernel
theorem dX5_riversAt_56 : decode cX5_riversAt 56 = .ok (.iload_n 3, 1) := by decide +kernel
theorem dX5_riversAt_57 : decode cX5_riversAt 57 = .ok (.ireturn, 1) := by decide +kernel
theorem dX6_init_0 : decode cX6_init 0 = .ok (.aload_n 0, 1) := by decide +kernel
theorem dX6_init_1 : decode cX6_init 1 = .ok (.invokespecial 3, 3) := by decide +kernel
theorem dX6_init_4 : decode cX6_init 4 = .ok (.aload_n 0, 1) := by decide +kernel
theorem dX6_init_5 : decode cX6_init 5 = .ok (.sipush 1920, 3) := by decide +kernel
theorem dX6_init_8 : decode cX6_init 8 = .ok (.newarray .int, 2) := by decide +kernel
theorem dX6_init_10 : decode cX6_init 10 = .ok (.putfield 11, 3) := by decide +kernel
theorem dX6_init_13 : decode cX6_init 13 = .ok (.aload_n 0, 1) := by decide +kernel
theorem dX6_init_14 : decode cX6_init 14 = .ok (.sipush 1920, 3) := by decide +kernel
theorem dX6_init_17 : decode cX6_init 17 = .ok (.newarray .int, 2) := by decide +kernel
theorem dX6_init_19 : decode cX6_init 19 = .ok (.putfield 15, 3) := by decide +kernel
theorem dX6_init_22 : decode cX6_init 22 = .ok (.aload_n 0, 1) := by decide +kernel
theorem dX6_init_23 : decode cX6_init 23 = .ok (.bipush 80, 2) := by decide +kernel
theorem dX6_init_25 : decode cX6_init 25 = .ok (.newarray .int, 2) := by decide +kernel
theorem dX6_init_27 : decode cX6_init 27 = .ok (.putfield 18, 3) := by decide +kernel
theorem dX6_init_30 : decode cX6_init 30 = .ok (.aload_n 0, 1) := by decide +kernel
theorem dX6_init_31 : decode cX6_init 31 = .ok (.bipush 80, 2) := by decide +kernel
theorem dX6_init_33 : decode cX6_init 33 = .ok (.newarray .int, 2) := by decide +kernel
theorem dX6_init_35 : decode cX6_init 35 = .ok (.putfield 21, 3) := by decide +kernel
theorem dX6_init_38 : decode cX6_init 38 = .ok (.aload_n 0, 1) := by decide +kernel
theorem dX6_init_39 : decode cX6_init 39 = .ok (.bipush 80, 2) := by decide +kernel
theorem dX6_init_41 : decode cX6_init 41 = .ok (.newarray .int, 2) := by decide +kernel
theorem dX6_init_43 : decode cX6_init 43 = .ok (.putfield 24, 3) := by decide +kernel
theorem dX6_init_46 : decode cX6_init 46 = .ok (.return_, 1) := by decide +kernel
theorem dX6_units_0 : decode cX6_units 0 = .ok (.aload_n 0, 1) := by decide +kernel
theorem dX6_units_1 : decode cX6_units 1 = .ok (.getfield 27, 3) := by decide +kernel
theorem dX6_units_4 : decode cX6_units 4 = .ok (.ireturn, 1) := by decide +kernel
set_option maxRecDepth 20000 in
theorem ggX6_lay_X9_count : GoodIn wsX6_lay wsX9_count := goodIn_r _ [7, 8, 65, 66, 67, 68] (by decide +kernel) (by decide +kernel)
set_option maxRecDepth 20000 in
theorem gX6_lay_X9_count : GoodIn wsX6_lay (wsV RX6 34 RX9 yX9_count wsX9_count) := goodIn_app (goodIn_of _ (by decide +kernel)) ggX6_lay_X9_count
set_option maxRecDepth 20000 in
theorem ggX6_lay_X9_goesOn : GoodIn wsX6_lay wsX9_goesOn := goodIn_r _ [12, 13, 14, 15, 6, 16, 17, 18, 19, 20, 21, 8, 65, 66, 67, 68] (by decide +kernel) (by decide +kernel)
set_option maxRecDepth 20000 in
theorem gX6_lay_X9_goesOn : GoodIn wsX6_lay (wsV RX6 40 RX9 yX9_goesOn wsX9_goesOn) := goodIn_app (goodIn_of _ (by decide +kernel)) ggX6_lay_X9_goesOn
set_option maxRecDepth 20000 in
theorem ggX6_lay_X6_addBlanks : GoodIn wsX6_lay wsX6_addBlanks := goodIn_r _ [26, 27, 28, 29, 25, 30, 2, 31, 32, 33, 34, 35, 36, 37, 38, 39, 58, 59, 60, 61, 62, 63, 64] (by decide +kernel) (by decide +kernel)
set_option maxRecDepth 20000 in
theorem gX6_lay_X6_addBlanks : GoodIn wsX6_lay (wsV RX6 44 RX6 yX6_addBlanks wsX6_addBlanks) := goodIn_app (goodIn_of _ (by decide +kernel)) ggX6_lay_X6_addBlanks
set_option maxRecDepth 20000 in
theorem ggX6_lay_X6_addUnit : GoodIn wsX6_lay wsX6_addUnit := goodIn_r _ [43, 44, 2, 45, 46, 1, 47, 48, 49, 6, 50, 17, 51, 18, 19, 20, 21, 8, 52, 53, 54, 55, 56, 27, 28, 29, 25, 30, 31, 32, 33, 34, 35, 36, 37, 38, 39, 57, 14, 15, 16, 58, 59, 60, 61, 62, 63, 64, 65, 66, 67, 68] (by decide +kernel) (by decide +kernel)
set_option maxRecDepth 20000 in
theorem gX6_lay_X6_addUnit : GoodIn wsX6_lay (wsV RX6 48 RX6 yX6_addUnit wsX6_addUnit) := goodIn_app (goodIn_of _ (by decide +kernel)) ggX6_lay_X6_addUnit
theorem dX6_lay_0 : decode cX6_lay 0 = .ok (.aload_n 0, 1) := by decide +kernel
theorem dX6_lay_1 : decode cX6_lay 1 = .ok (.iconst 0, 1) := by decide +kernel
theorem dX6_lay_2 : decode cX6_lay 2 = .ok (.putfield 27, 3) := by decide +kernel
theorem dX6_lay_5 : decode cX6_lay 5 = .ok (.aload_n 0, 1) := by decide +kernel
theorem dX6_lay_6 : decode cX6_lay 6 = .ok (.iconst 0, 1) := by decide +kernel
theorem dX6_lay_7 : decode cX6_lay 7 = .ok (.putfield 31, 3) := by decide +kernel
theorem dX6_lay_10 : decode cX6_lay 10 = .ok (.iconst 0, 1) := by decide +kernel
theorem dX6_lay_11 : decode cX6_lay 11 = .ok (.istore_n 3, 1) := by decide +kernel
theorem dX6_lay_12 : decode cX6_lay 12 = .ok (.iload_n 3, 1) := by decide +kernel
theorem dX6_lay_13 : decode cX6_lay 13 = .ok (.aload_n 1, 1) := by decide +kernel
theorem dX6_lay_14 : decode cX6_lay 14 = .ok (.invokevirtual 34, 3) := by decide +kernel
theorem dX6_lay_17 : decode cX6_lay 17 = .ok (.if_icmp .ge 40, 3) := by decide +kernel
theorem dX6_lay_20 : decode cX6_lay 20 = .ok (.iload_n 3, 1) := by decide +kernel
theorem dX6_lay_21 : decode cX6_lay 21 = .ok (.bipush 80, 2) := by decide +kernel
theorem dX6_lay_23 : decode cX6_lay 23 = .ok (.if_icmp .ge 34, 3) := by decide +kernel
theorem dX6_lay_26 : decode cX6_lay 26 = .ok (.iload_n 3, 1) := by decide +kernel
theorem dX6_lay_27 : decode cX6_lay 27 = .ok (.ifCond .le 18, 3) := by decide +kernel
theorem dX6_lay_30 : decode cX6_lay 30 = .ok (.aload_n 1, 1) := by decide +kernel
theorem dX6_lay_31 : decode cX6_lay 31 = .ok (.iload_n 3, 1) := by decide +kernel
theorem dX6_lay_32 : decode cX6_lay 32 = .ok (.iconst 1, 1) := by decide +kernel
theorem dX6_lay_33 : decode cX6_lay 33 = .ok (.isub, 1) := by decide +kernel
theorem dX6_lay_34 : decode cX6_lay 34 = .ok (.invokevirtual 40, 3) := by decide +kernel
theorem dX6_lay_37 : decode cX6_lay 37 = .ok (.ifCond .ne 8, 3) := by decide +kernel
theorem dX6_lay_40 : decode cX6_lay 40 = .ok (.aload_n 0, 1) := by decide +kernel
theorem dX6_lay_41 : decode cX6_lay 41 = .ok (.iload_n 2, 1) := by decide +kernel
theorem dX6_lay_42 : decode cX6_lay 42 = .ok (.invokevirtual 44, 3) := by decide +kernel
theorem dX6_lay_45 : decode cX6_lay 45 = .ok (.aload_n 0, 1) := by decide +kernel
theorem dX6_lay_46 : decode cX6_lay 46 = .ok (.aload_n 1, 1) := by decide +kernel
theorem dX6_lay_47 : decode cX6_lay 47 = .ok (.iload_n 3, 1) := by decide +kernel
theorem dX6_lay_48 : decode cX6_lay 48 = .ok (.invokevirtual 48, 3) := by decide +kernel
theorem dX6_lay_51 : decode cX6_lay 51 = .ok (.iinc 3 1, 3) := by decide +kernel
theorem dX6_lay_54 : decode cX6_lay 54 = .ok (.goto (-42), 3) := by decide +kernel
theorem dX6_lay_57 : decode cX6_lay 57 = .ok (.return_, 1) := by decide +kernel
set_option maxRecDepth 20000 in
theorem ggX6_addBlanks_X6_addSign : GoodIn wsX6_addBlanks wsX6_addSign := goodIn_r _ [5, 6, 7, 8, 9, 10, 11, 12, 13, 14, 15, 16, 17, 18, 19, 20, 21, 22] (by decide +kernel) (by decide +kernel)
set_option maxRecDepth 20000 in
theorem gX6_addBlanks_X6_addSign : GoodIn wsX6_addBlanks (wsV RX6 52 RX6 yX6_addSign wsX6_addSign) := goodIn_app (goodIn_of _ (by decide +kernel)) ggX6_addBlanks_X6_addSign
theorem dX6_addBlanks_0 : decode cX6_addBlanks 0 = .ok (.iconst 0, 1) := by decide +kernel
theorem dX6_addBlanks_1 : decode cX6_addBlanks 1 = .ok (.istore_n 2, 1) := by decide +kernel
theorem dX6_addBlanks_2 : decode cX6_addBlanks 2 = .ok (.iload_n 2, 1) := by decide +kernel
theorem dX6_addBlanks_3 : decode cX6_addBlanks 3 = .ok (.iload_n 1, 1) := by decide +kernel
theorem dX6_addBlanks_4 : decode cX6_addBlanks 4 = .ok (.if_icmp .ge 15, 3) := by decide +kernel
theorem dX6_addBlanks_7 : decode cX6_addBlanks 7 = .ok (.aload_n 0, 1) := by decide +kernel
theorem dX6_addBlanks_8 : decode cX6_addBlanks 8 = .ok (.bipush 32, 2) := by decide +kernel
theorem dX6_addBlanks_10 : decode cX6_addBlanks 10 = .ok (.invokevirtual 52, 3) := by decide +kernel
theorem dX6_addBlanks_13 : decode cX6_addBlanks 13 = .ok (.iinc 2 1, 3) := by decide +kernel
theorem dX6_addBlanks_16 : decode cX6_addBlanks 16 = .ok (.goto (-14), 3) := by decide +kernel
theorem dX6_addBlanks_19 : decode cX6_addBlanks 19 = .ok (.return_, 1) := by decide +kernel
set_option maxRecDepth 20000 in
theorem ggX6_addUnit_X9_signs : GoodIn wsX6_addUnit wsX9_signs := goodIn_r _ [10, 11, 12, 13, 14, 15, 9, 16, 17, 48, 49, 50, 51] (by decide +kernel) (by decide +kernel)
set_option maxRecDepth 20000 in
theorem gX6_addUnit_X9_signs : GoodIn wsX6_addUnit (wsV RX6 55 RX9 yX9_signs wsX9_signs) := goodIn_app (goodIn_of _ (by decide +kernel)) ggX6_addUnit_X9_signs
set_option maxRecDepth 20000 in
theorem ggX6_addUnit_X9_signAt : GoodIn wsX6_addUnit wsX9_signAt := goodIn_r _ [21, 12, 22, 11, 13, 14, 15, 9, 16, 17, 48, 49, 50, 51] (by decide +kernel) (by decide +kernel)
set_option maxRecDepth 20000 in
theorem gX6_addUnit_X9_signAt : GoodIn wsX6_addUnit (wsV RX6 58 RX9 yX9_signAt wsX9_signAt) := goodIn_app (goodIn_of _ (by decide +kernel)) ggX6_addUnit_X9_signAt
set_option maxRecDepth 20000 in
theorem ggX6_addUnit_X6_addSign : GoodIn wsX6_addUnit wsX6_addSign := goodIn_r _ [27, 2, 28, 29, 30, 31, 32, 33, 34, 35, 36, 41, 42, 43, 44, 45, 46, 47] (by decide +kernel) (by decide +kernel)
set_option maxRecDepth 20000 in
theorem gX6_addUnit_X6_addSign : GoodIn wsX6_addUnit (wsV RX6 52 RX6 yX6_addSign wsX6_addSign) := goodIn_app (goodIn_of _ (by decide +kernel)) ggX6_addUnit_X6_addSign
set_option maxRecDepth 20000 in
theorem ggX6_addUnit_X9_behind : GoodIn wsX6_addUnit wsX9_behind := goodIn_r _ [40, 11, 13, 14, 15, 9, 16, 17, 48, 49, 50, 51] (by decide +kernel) (by decide +kernel)
set_option maxRecDepth 20000 in
theorem gX6_addUnit_X9_behind : GoodIn wsX6_addUnit (wsV RX6 62 RX9 yX9_behind wsX9_behind) := goodIn_app (goodIn_of _ (by decide +kernel)) ggX6_addUnit_X9_behind
theorem dX6_addUnit_0 : decode cX6_addUnit 0 = .ok (.aload_n 0, 1) := by decide +kernel
theorem dX6_addUnit_1 : decode cX6_addUnit 1 = .ok (.getfield 18, 3) := by decide +kernel
theorem dX6_addUnit_4 : decode cX6_addUnit 4 = .ok (.iload_n 2, 1) := by decide +kernel
theorem dX6_addUnit_5 : decode cX6_addUnit 5 = .ok (.aload_n 0, 1) := by decide +kernel
theorem dX6_addUnit_6 : decode cX6_addUnit 6 = .ok (.getfield 31, 3) := by decide +kernel
theorem dX6_addUnit_9 : decode cX6_addUnit 9 = .ok (.iastore, 1) := by decide +kernel
theorem dX6_addUnit_10 : decode cX6_addUnit 10 = .ok (.aload_n 1, 1) := by decide +kernel
theorem dX6_addUnit_11 : decode cX6_addUnit 11 = .ok (.iload_n 2, 1) := by decide +kernel
theorem dX6_addUnit_12 : decode cX6_addUnit 12 = .ok (.invokevirtual 55, 3) := by decide +kernel
theorem dX6_addUnit_15 : decode cX6_addUnit 15 = .ok (.istore_n 3, 1) := by decide +kernel
theorem dX6_addUnit_16 : decode cX6_addUnit 16 = .ok (.iconst 0, 1) := by decide +kernel
theorem dX6_addUnit_17 : decode cX6_addUnit 17 = .ok (.istore 4, 2) := by decide +kernel
theorem dX6_addUnit_19 : decode cX6_addUnit 19 = .ok (.iload 4, 2) := by decide +kernel
theorem dX6_addUnit_21 : decode cX6_addUnit 21 = .ok (.iload_n 3, 1) := by decide +kernel
theorem dX6_addUnit_22 : decode cX6_addUnit 22 = .ok (.if_icmp .ge 20, 3) := by decide +kernel
theorem dX6_addUnit_25 : decode cX6_addUnit 25 = .ok (.aload_n 0, 1) := by decide +kernel
theorem dX6_addUnit_26 : decode cX6_addUnit 26 = .ok (.aload_n 1, 1) := by decide +kernel
theorem dX6_addUnit_27 : decode cX6_addUnit 27 = .ok (.iload_n 2, 1) := by decide +kernel
theorem dX6_addUnit_28 : decode cX6_addUnit 28 = .ok (.iload 4, 2) := by decide +kernel
theorem dX6_addUnit_30 : decode cX6_addUnit 30 = .ok (.invokevirtual 58, 3) := by decide +kernel
theorem dX6_addUnit_33 : decode cX6_addUnit 33 = .ok (.invokevirtual 52, 3) := by decide +kernel
theorem dX6_addUnit_36 : decode cX6_addUnit 36 = .ok (.iinc 4 1, 3) := by decide +kernel
theorem dX6_addUnit_39 : decode cX6_addUnit 39 = .ok (.goto (-20), 3) := by decide +kernel
theorem dX6_addUnit_42 : decode cX6_addUnit 42 = .ok (.aload_n 0, 1) := by decide +kernel
theorem dX6_addUnit_43 : decode cX6_addUnit 43 = .ok (.getfield 21, 3) := by decide +kernel
theorem dX6_addUnit_46 : decode cX6_addUnit 46 = .ok (.iload_n 2, 1) := by decide +kernel
theorem dX6_addUnit_47 : decode cX6_addUnit 47 = .ok (.aload_n 0, 1) := by decide +kernel
theorem dX6_addUnit_48 : decode cX6_addUnit 48 = .ok (.getfield 31, 3) := by decide +kernel
theorem dX6_addUnit_51 : decode cX6_addUnit 51 = .ok (.iastore, 1) := by decide +kernel
theorem dX6_addUnit_52 : decode cX6_addUnit 52 = .ok (.aload_n 0, 1) := by decide +kernel
theorem dX6_addUnit_53 : decode cX6_addUnit 53 = .ok (.getfield 24, 3) := by decide +kernel
theorem dX6_addUnit_56 : decode cX6_addUnit 56 = .ok (.iload_n 2, 1) := by decide +kernel
theorem dX6_addUnit_57 : decode cX6_addUnit 57 = .ok (.aload_n 1, 1) := by decide +kernel
theorem dX6_addUnit_58 : decode cX6_addUnit 58 = .ok (.iload_n 2, 1) := by decide +kernel
theorem dX6_addUnit_59 : decode cX6_addUnit 59 = .ok (.invokevirtual 62, 3) := by decide +kernel
theorem dX6_addUnit_62 : decode cX6_addUnit 62 = .ok (.iastore, 1) := by decide +kernel
theorem dX6_addUnit_63 : decode cX6_addUnit 63 = .ok (.aload_n 0, 1) := by decide +kernel
theorem dX6_addUnit_64 : decode cX6_addUnit 64 = .ok (.dup, 1) := by decide +kernel
theorem dX6_addUnit_65 : decode cX6_addUnit 65 = .ok (.getfield 27, 3) := by decide +kernel
theorem dX6_addUnit_68 : decode cX6_addUnit 68 = .ok (.iconst 1, 1) := by decide +kernel
theorem dX6_addUnit_69 : decode cX6_addUnit 69 = .ok (.iadd, 1) := by decide +kernel
theorem dX6_addUnit_70 : decode cX6_addUnit 70 = .ok (.putfield 27, 3) := by decide +kernel
theorem dX6_addUnit_73 : decode cX6_addUnit 73 = .ok (.return_, 1) := by decide +kernel
set_option maxRecDepth 20000 in
theorem ggX6_addSign_X1_kindOf : GoodIn wsX6_addSign wsX1_kindOf := goodIn_r _ [7, 8, 9, 10] (by decide +kernel) (by decide +kernel)
set_option maxRecDepth 20000 in
theorem gX6_addSign_X1_kindOf : GoodIn wsX6_addSign (va_wsS RX6 64 yX1_kindOf wsX1_kindOf) := goodIn_app (goodIn_of _ (by decide +kernel)) ggX6_addSign_X1_kindOf
theorem dX6_addSign_0 : decode cX6_addSign 0 = .ok (.aload_n 0, 1) := by decide +kernel
theorem dX6_addSign_1 : decode cX6_addSign 1 = .ok (.getfield 31, 3) := by decide +kernel
theorem dX6_addSign_4 : decode cX6_addSign 4 = .ok (.sipush 1920, 3) := by decide +kernel
theorem dX6_addSign_7 : decode cX6_addSign 7 = .ok (.if_icmp .ge 36, 3) := by decide +kernel
theorem dX6_addSign_10 : decode cX6_addSign 10 = .ok (.aload_n 0, 1) := by decide +kernel
theorem dX6_addSign_11 : decode cX6_addSign 11 = .ok (.getfield 11, 3) := by decide +kernel
theorem dX6_addSign_14 : decode cX6_addSign 14 = .ok (.aload_n 0, 1) := by decide +kernel
theorem dX6_addSign_15 : decode cX6_addSign 15 = .ok (.getfield 31, 3) := by decide +kernel
theorem dX6_addSign_18 : decode cX6_addSign 18 = .ok (.iload_n 1, 1) := by decide +kernel
theorem dX6_addSign_19 : decode cX6_addSign 19 = .ok (.iastore, 1) := by decide +kernel
theorem dX6_addSign_20 : decode cX6_addSign 20 = .ok (.aload_n 0, 1) := by decide +kernel
theorem dX6_addSign_21 : decode cX6_addSign 21 = .ok (.getfield 15, 3) := by decide +kernel
theorem dX6_addSign_24 : decode cX6_addSign 24 = .ok (.aload_n 0, 1) := by decide +kernel
theorem dX6_addSign_25 : decode cX6_addSign 25 = .ok (.getfield 31, 3) := by decide +kernel
theorem dX6_addSign_28 : decode cX6_addSign 28 = .ok (.iload_n 1, 1) := by decide +kernel
theorem dX6_addSign_29 : decode cX6_addSign 29 = .ok (.invokestatic 64, 3) := by decide +kernel
theorem dX6_addSign_32 : decode cX6_addSign 32 = .ok (.iastore, 1) := by decide +kernel
theorem dX6_addSign_33 : decode cX6_addSign 33 = .ok (.aload_n 0, 1) := by decide +kernel
theorem dX6_addSign_34 : decode cX6_addSign 34 = .ok (.dup, 1) := by decide +kernel
theorem dX6_addSign_35 : decode cX6_addSign 35 = .ok (.getfield 31, 3) := by decide +kernel
theorem dX6_addSign_38 : decode cX6_addSign 38 = .ok (.iconst 1, 1) := by decide +kernel
theorem dX6_addSign_39 : decode cX6_addSign 39 = .ok (.iadd, 1) := by decide +kernel
theorem dX6_addSign_40 : decode cX6_addSign 40 = .ok (.putfield 31, 3) := by decide +kernel
theorem dX6_addSign_43 : decode cX6_addSign 43 = .ok (.return_, 1) := by decide +kernel
theorem dX6_holds_0 : decode cX6_holds 0 = .ok (.iload_n 1, 1) := by decide +kernel
theorem dX6_holds_1 : decode cX6_holds 1 = .ok (.ifCond .lt 22, 3) := by decide +kernel
theorem dX6_holds_4 : decode cX6_holds 4 = .ok (.iload_n 2, 1) := by decide +kernel
theorem dX6_holds_5 : decode cX6_holds 5 = .ok (.iconst 1, 1) := by decide +kernel
theorem dX6_holds_6 : decode cX6_holds 6 = .ok (.if_icmp .lt 17, 3) := by decide +kernel
theorem dX6_holds_9 : decode cX6_holds 9 = .ok (.iload_n 2, 1) := by decide +kernel
theorem dX6_holds_10 : decode cX6_holds 10 = .ok (.aload_n 0, 1) := by decide +kernel
theorem dX6_holds_11 : decode cX6_holds 11 = .ok (.getfield 27, 3) := by decide +kernel
theorem dX6_holds_14 : decode cX6_holds 14 = .ok (.iload_n 1, 1) := by decide +kernel
theorem dX6_holds_15 : decode cX6_holds 15 = .ok (.isub, 1) := by decide +kernel
theorem dX6_holds_16 : decode cX6_holds 16 = .ok (.if_icmp .gt 7, 3) := by decide +kernel
theorem dX6_holds_19 : decode cX6_holds 19 = .ok (.iconst 1, 1) := by decide +kernel
theorem dX6_holds_20 : decode cX6_holds 20 = .ok (.goto 4, 3) := by decide +kernel
theorem dX6_holds_23 : decode cX6_holds 23 = .ok (.iconst 0, 1) := by decide +kernel
theorem dX6_holds_24 : decode cX6_holds 24 = .ok (.ireturn, 1) := by decide +kernel
set_option maxRecDepth 20000 in
theorem ggX6_behindLine_X6_holds : GoodIn wsX6_behindLine wsX6_holds := goodIn_r _ [6, 7, 8, 9, 10, 11, 12, 13, 14] (by decide +kernel) (by decide +kernel)
set_option maxRecDepth 20000 in
theorem gX6_behindLine_X6_holds : GoodIn wsX6_behindLine (wsV RX6 69 RX6 yX6_holds wsX6_holds) := goodIn_app (goodIn_of _ (by decide +kernel)) ggX6_behindLine_X6_holds
theorem dX6_behindLine_0 : decode cX6_behindLine 0 = .ok (.aload_n 0, 1) := by decide +kernel
theorem dX6_behindLine_1 : decode cX6_behindLine 1 = .ok (.iload_n 1, 1) := by decide +kernel
theorem dX6_behindLine_2 : decode cX6_behindLine 2 = .ok (.iload_n 2, 1) := by decide +kernel
theorem dX6_behindLine_3 : decode cX6_behindLine 3 = .ok (.invokevirtual 69, 3) := by decide +kernel
theorem dX6_behindLine_6 : decode cX6_behindLine 6 = .ok (.ifCond .eq 16, 3) := by decide +kernel
theorem dX6_behindLine_9 : decode cX6_behindLine 9 = .ok (.aload_n 0, 1) := by decide +kernel
theorem dX6_behindLine_10 : decode cX6_behindLine 10 = .ok (.getfield 24, 3) := by decide +kernel
theorem dX6_behindLine_13 : decode cX6_behindLine 13 = .ok (.iload_n 1, 1) := by decide +kernel
theorem dX6_behindLine_14 : decode cX6_behindLine 14 = .ok (.iload_n 2, 1) := by decide +kernel
theorem dX6_behindLine_15 : decode cX6_behindLine 15 = .ok (.iadd, 1) := by decide +kernel
theorem dX6_behindLine_16 : decode cX6_behindLine 16 = .ok (.iconst 1, 1) := by decide +kernel
theorem dX6_behindLine_17 : decode cX6_behindLine 17 = .ok (.isub, 1) := by decide +kernel
theorem dX6_behindLine_18 : decode cX6_behindLine 18 = .ok (.iaload, 1) := by decide +kernel
theorem dX6_behindLine_19 : decode cX6_behindLine 19 = .ok (.goto 5, 3) := by decide +kernel
theorem dX6_behindLine_22 : decode cX6_behindLine 22 = .ok (.bipush 32, 2) := by decide +kernel
theorem dX6_behindLine_24 : decode cX6_behindLine 24 = .ok (.ireturn, 1) := by decide +kernel
set_option maxRecDepth 20000 in
theorem ggX6_body_X6_holds : GoodIn wsX6_body wsX6_holds := goodIn_r _ [7, 8, 9, 10, 11, 12, 13, 14, 15] (by decide +kernel) (by decide +kernel)
set_option maxRecDepth 20000 in
theorem gX6_body_X6_holds : GoodIn wsX6_body (wsV RX6 69 RX6 yX6_holds wsX6_holds) := goodIn_app (goodIn_of _ (by decide +kernel)) ggX6_body_X6_holds
theorem dX6_body_0 : decode cX6_body 0 = .ok (.aload_n 0, 1) := by decide +kernel
theorem dX6_body_1 : decode cX6_body 1 = .ok (.iload_n 1, 1) := by decide +kernel
theorem dX6_body_2 : decode cX6_body 2 = .ok (.iload_n 2, 1) := by decide +kernel
theorem dX6_body_3 : decode cX6_body 3 = .ok (.invokevirtual 69, 3) := by decide +kernel
theorem dX6_body_6 : decode cX6_body 6 = .ok (.ifCond .eq 23, 3) := by decide +kernel
theorem dX6_body_9 : decode cX6_body 9 = .ok (.aload_n 0, 1) := by decide +kernel
theorem dX6_body_10 : decode cX6_body 10 = .ok (.getfield 21, 3) := by decide +kernel
theorem dX6_body_13 : decode cX6_body 13 = .ok (.iload_n 1, 1) := by decide +kernel
theorem dX6_body_14 : decode cX6_body 14 = .ok (.iload_n 2, 1) := by decide +kernel
theorem dX6_body_15 : decode cX6_body 15 = .ok (.iadd, 1) := by decide +kernel
theorem dX6_body_16 : decode cX6_body 16 = .ok (.iconst 1, 1) := by decide +kernel
theorem dX6_body_17 : decode cX6_body 17 = .ok (.isub, 1) := by decide +kernel
theorem dX6_body_18 : decode cX6_body 18 = .ok (.iaload, 1) := by decide +kernel
theorem dX6_body_19 : decode cX6_body 19 = .ok (.aload_n 0, 1) := by decide +kernel
theorem dX6_body_20 : decode cX6_body 20 = .ok (.getfield 18, 3) := by decide +kernel
theorem dX6_body_23 : decode cX6_body 23 = .ok (.iload_n 1, 1) := by decide +kernel
theorem dX6_body_24 : decode cX6_body 24 = .ok (.iaload, 1) := by decide +kernel
theorem dX6_body_25 : decode cX6_body 25 = .ok (.isub, 1) := by decide +kernel
theorem dX6_body_26 : decode cX6_body 26 = .ok (.goto 4, 3) := by decide +kernel
theorem dX6_body_29 : decode cX6_body 29 = .ok (.iconst 0, 1) := by decide +kernel
theorem dX6_body_30 : decode cX6_body 30 = .ok (.ireturn, 1) := by decide +kernel
set_option maxRecDepth 20000 in
theorem ggX6_signsOf_X6_body : GoodIn wsX6_signsOf wsX6_body := goodIn_r _ [5, 6, 7, 8, 9, 10, 4, 11, 12, 18, 19, 20, 21, 22, 23, 24] (by decide +kernel) (by decide +kernel)
set_option maxRecDepth 20000 in
theorem gX6_signsOf_X6_body : GoodIn wsX6_signsOf (wsV RX6 73 RX6 yX6_body wsX6_body) := goodIn_app (goodIn_of _ (by decide +kernel)) ggX6_signsOf_X6_body
set_option maxRecDepth 20000 in
theorem ggX6_signsOf_X6_behindLine : GoodIn wsX6_signsOf wsX6_behindLine := goodIn_r _ [16, 17, 8, 9, 10, 4, 11, 12, 18, 19, 20, 21, 22, 23, 24] (by decide +kernel) (by decide +kernel)
set_option maxRecDepth 20000 in
theorem gX6_signsOf_X6_behindLine : GoodIn wsX6_signsOf (wsV RX6 76 RX6 yX6_behindLine wsX6_behindLine) := goodIn_app (goodIn_of _ (by decide +kernel)) ggX6_signsOf_X6_behindLine
theorem dX6_signsOf_0 : decode cX6_signsOf 0 = .ok (.aload_n 0, 1) := by decide +kernel
theorem dX6_signsOf_1 : decode cX6_signsOf 1 = .ok (.iload_n 1, 1) := by decide +kernel
theorem dX6_signsOf_2 : decode cX6_signsOf 2 = .ok (.iload_n 2, 1) := by decide +kernel
theorem dX6_signsOf_3 : decode cX6_signsOf 3 = .ok (.invokevirtual 73, 3) := by decide +kernel
theorem dX6_signsOf_6 : decode cX6_signsOf 6 = .ok (.aload_n 0, 1) := by decide +kernel
theorem dX6_signsOf_7 : decode cX6_signsOf 7 = .ok (.iload_n 1, 1) := by decide +kernel
theorem dX6_signsOf_8 : decode cX6_signsOf 8 = .ok (.iload_n 2, 1) := by decide +kernel
theorem dX6_signsOf_9 : decode cX6_signsOf 9 = .ok (.invokevirtual 76, 3) := by decide +kernel
theorem dX6_signsOf_12 : decode cX6_signsOf 12 = .ok (.bipush 45, 2) := by decide +kernel
theorem dX6_signsOf_14 : decode cX6_signsOf 14 = .ok (.if_icmp .ne 7, 3) := by decide +kernel
theorem dX6_signsOf_17 : decode cX6_signsOf 17 = .ok (.iconst 1, 1) := by decide +kernel
theorem dX6_signsOf_18 : decode cX6_signsOf 18 = .ok (.goto 4, 3) := by decide +kernel
theorem dX6_signsOf_21 : decode cX6_signsOf 21 = .ok (.iconst 0, 1) := by decide +kernel
theorem dX6_signsOf_22 : decode cX6_signsOf 22 = .ok (.iadd, 1) := by decide +kernel
theorem dX6_signsOf_23 : decode cX6_signsOf 23 = .ok (.ireturn, 1) := by decide +kernel
set_option maxRecDepth 20000 in
theorem ggX6_signAt_X6_signsOf : GoodIn wsX6_signAt wsX6_signsOf := goodIn_r _ [7, 8, 9, 10, 6, 11, 12, 2, 13, 14, 15, 16, 17, 18, 19, 20, 21, 22, 23, 24, 25, 26, 27, 28, 29] (by decide +kernel) (by decide +kernel)
set_option maxRecDepth 20000 in
theorem gX6_signAt_X6_signsOf : GoodIn wsX6_signAt (wsV RX6 79 RX6 yX6_signsOf wsX6_signsOf) := goodIn_app (goodIn_of _ (by decide +kernel)) ggX6_signAt_X6_signsOf
set_option maxRecDepth 20000 in
theorem ggX6_signAt_X6_body : GoodIn wsX6_signAt wsX6_body := goodIn_r _ [11, 12, 2, 13, 14, 15, 6, 16, 17, 23, 24, 25, 26, 27, 28, 29] (by decide +kernel) (by decide +kernel)
set_option maxRecDepth 20000 in
theorem gX6_signAt_X6_body : GoodIn wsX6_signAt (wsV RX6 73 RX6 yX6_body wsX6_body) := goodIn_app (goodIn_of _ (by decide +kernel)) ggX6_signAt_X6_body
theorem dX6_signAt_0 : decode cX6_signAt 0 = .ok (.iload_n 3, 1) := by decide +kernel
theorem dX6_signAt_1 : decode cX6_signAt 1 = .ok (.ifCond .lt 13, 3) := by decide +kernel
theorem dX6_signAt_4 : decode cX6_signAt 4 = .ok (.iload_n 3, 1) := by decide +kernel
theorem dX6_signAt_5 : decode cX6_signAt 5 = .ok (.aload_n 0, 1) := by decide +kernel
theorem dX6_signAt_6 : decode cX6_signAt 6 = .ok (.iload_n 1, 1) := by decide +kernel
theorem dX6_signAt_7 : decode cX6_signAt 7 = .ok (.iload_n 2, 1) := by decide +kernel
theorem dX6_signAt_8 : decode cX6_signAt 8 = .ok (.invokevirtual 79, 3) := by decide +kernel
theorem dX6_signAt_11 : decode cX6_signAt 11 = .ok (.if_icmp .lt 5, 3) := by decide +kernel
theorem dX6_signAt_14 : decode cX6_signAt 14 = .ok (.iconst (-1), 1) := by decide +kernel
theorem dX6_signAt_15 : decode cX6_signAt 15 = .ok (.ireturn, 1) := by decide +kernel
theorem dX6_signAt_16 : decode cX6_signAt 16 = .ok (.iload_n 3, 1) := by decide +kernel
theorem dX6_signAt_17 : decode cX6_signAt 17 = .ok (.aload_n 0, 1) := by decide +kernel
theorem dX6_signAt_18 : decode cX6_signAt 18 = .ok (.iload_n 1, 1) := by decide +kernel
theorem dX6_signAt_19 : decode cX6_signAt 19 = .ok (.iload_n 2, 1) := by decide +kernel
theorem dX6_signAt_20 : decode cX6_signAt 20 = .ok (.invokevirtual 73, 3) := by decide +kernel
theorem dX6_signAt_23 : decode cX6_signAt 23 = .ok (.if_icmp .ge 19, 3) := by decide +kernel
theorem dX6_signAt_26 : decode cX6_signAt 26 = .ok (.aload_n 0, 1) := by decide +kernel
theorem dX6_signAt_27 : decode cX6_signAt 27 = .ok (.getfield 11, 3) := by decide +kernel
theorem dX6_signAt_30 : decode cX6_signAt 30 = .ok (.aload_n 0, 1) := by decide +kernel
theorem dX6_signAt_31 : decode cX6_signAt 31 = .ok (.getfield 18, 3) := by decide +kernel
theorem dX6_signAt_34 : decode cX6_signAt 34 = .ok (.iload_n 1, 1) := by decide +kernel
theorem dX6_signAt_35 : decode cX6_signAt 35 = .ok (.iaload, 1) := by decide +kernel
theorem dX6_signAt_36 : decode cX6_signAt 36 = .ok (.iload_n 3, 1) := by decide +kernel
theorem dX6_signAt_37 : decode cX6_signAt 37 = .ok (.iadd, 1) := by decide +kernel
theorem dX6_signAt_38 : decode cX6_signAt 38 = .ok (.iaload, 1) := by decide +kernel
theorem dX6_signAt_39 : decode cX6_signAt 39 = .ok (.goto 5, 3) := by decide +kernel
theorem dX6_signAt_42 : decode cX6_signAt 42 = .ok (.bipush 45, 2) := by decide +kernel
theorem dX6_signAt_44 : decode cX6_signAt 44 = .ok (.ireturn, 1) := by decide +kernel
set_option maxRecDepth 20000 in
theorem ggX6_beginOf_X6_holds : GoodIn wsX6_beginOf wsX6_holds := goodIn_r _ [6, 7, 8, 9, 10, 11, 12, 13, 14] (by decide +kernel) (by decide +kernel)
set_option maxRecDepth 20000 in
theorem gX6_beginOf_X6_holds : GoodIn wsX6_beginOf (wsV RX6 69 RX6 yX6_holds wsX6_holds) := goodIn_app (goodIn_of _ (by decide +kernel)) ggX6_beginOf_X6_holds
theorem dX6_beginOf_0 : decode cX6_beginOf 0 = .ok (.aload_n 0, 1) := by decide +kernel
theorem dX6_beginOf_1 : decode cX6_beginOf 1 = .ok (.iload_n 1, 1) := by decide +kernel
theorem dX6_beginOf_2 : decode cX6_beginOf 2 = .ok (.iconst 1, 1) := by decide +kernel
theorem dX6_beginOf_3 : decode cX6_beginOf 3 = .ok (.invokevirtual 69, 3) := by decide +kernel
theorem dX6_beginOf_6 : decode cX6_beginOf 6 = .ok (.ifCond .eq 12, 3) := by decide +kernel
theorem dX6_beginOf_9 : decode cX6_beginOf 9 = .ok (.aload_n 0, 1) := by decide +kernel
theorem dX6_beginOf_10 : decode cX6_beginOf 10 = .ok (.getfield 18, 3) := by decide +kernel
theorem dX6_beginOf_13 : decode cX6_beginOf 13 = .ok (.iload_n 1, 1) := by decide +kernel
theorem dX6_beginOf_14 : decode cX6_beginOf 14 = .ok (.iaload, 1) := by decide +kernel
theorem dX6_beginOf_15 : decode cX6_beginOf 15 = .ok (.goto 4, 3) := by decide +kernel
theorem dX6_beginOf_18 : decode cX6_beginOf 18 = .ok (.iconst 0, 1) := by decide +kernel
theorem dX6_beginOf_19 : decode cX6_beginOf 19 = .ok (.ireturn, 1) := by decide +kernel
set_option maxRecDepth 20000 in
theorem ggX6_strainOfPlaces_X1_strainOfPlace : GoodIn wsX6_strainOfPlaces wsX1_strainOfPlace := goodIn_r _ [7, 8, 9, 10, 6, 11, 19, 20, 21, 22, 23, 24, 25] (by decide +kernel) (by decide +kernel)
set_option maxRecDepth 20000 in
theorem gX6_strainOfPlaces_X1_strainOfPlace : GoodIn wsX6_strainOfPlaces (wsV RX6 82 RX1 yX1_strainOfPlace wsX1_strainOfPlace) := goodIn_app (goodIn_of _ (by decide +kernel)) ggX6_strainOfPlaces_X1_strainOfPlace
theorem dX6_strainOfPlaces_0 : decode cX6_strainOfPlaces 0 = .ok (.iconst 0, 1) := by decide +kernel
theorem dX6_strainOfPlaces_1 : decode cX6_strainOfPlaces 1 = .ok (.istore 6, 2) := by decide +kernel
theorem dX6_strainOfPlaces_3 : decode cX6_strainOfPlaces 3 = .ok (.iload_n 3, 1) := by decide +kernel
theorem dX6_strainOfPlaces_4 : decode cX6_strainOfPlaces 4 = .ok (.istore 7, 2) := by decide +kernel
theorem dX6_strainOfPlaces_6 : decode cX6_strainOfPlaces 6 = .ok (.iload 7, 2) := by decide +kernel
theorem dX6_strainOfPlaces_8 : decode cX6_strainOfPlaces 8 = .ok (.iload 4, 2) := by decide +kernel
theorem dX6_strainOfPlaces_10 : decode cX6_strainOfPlaces 10 = .ok (.if_icmp .ge 48, 3) := by decide +kernel
theorem dX6_strainOfPlaces_13 : decode cX6_strainOfPlaces 13 = .ok (.iload_n 2, 1) := by decide +kernel
theorem dX6_strainOfPlaces_14 : decode cX6_strainOfPlaces 14 = .ok (.iload 7, 2) := by decide +kernel
theorem dX6_strainOfPlaces_16 : decode cX6_strainOfPlaces 16 = .ok (.iadd, 1) := by decide +kernel
theorem dX6_strainOfPlaces_17 : decode cX6_strainOfPlaces 17 = .ok (.aload_n 0, 1) := by decide +kernel
theorem dX6_strainOfPlaces_18 : decode cX6_strainOfPlaces 18 = .ok (.getfield 31, 3) := by decide +kernel
theorem dX6_strainOfPlaces_21 : decode cX6_strainOfPlaces 21 = .ok (.if_icmp .ge 37, 3) := by decide +kernel
theorem dX6_strainOfPlaces_24 : decode cX6_strainOfPlaces 24 = .ok (.iload 6, 2) := by decide +kernel
theorem dX6_strainOfPlaces_26 : decode cX6_strainOfPlaces 26 = .ok (.aload 5, 2) := by decide +kernel
theorem dX6_strainOfPlaces_28 : decode cX6_strainOfPlaces 28 = .ok (.aload_n 0, 1) := by decide +kernel
theorem dX6_strainOfPlaces_29 : decode cX6_strainOfPlaces 29 = .ok (.getfield 15, 3) := by decide +kernel
theorem dX6_strainOfPlaces_32 : decode cX6_strainOfPlaces 32 = .ok (.iload_n 1, 1) := by decide +kernel
theorem dX6_strainOfPlaces_33 : decode cX6_strainOfPlaces 33 = .ok (.iload 7, 2) := by decide +kernel
theorem dX6_strainOfPlaces_35 : decode cX6_strainOfPlaces 35 = .ok (.iadd, 1) := by decide +kernel
theorem dX6_strainOfPlaces_36 : decode cX6_strainOfPlaces 36 = .ok (.iaload, 1) := by decide +kernel
theorem dX6_strainOfPlaces_37 : decode cX6_strainOfPlaces 37 = .ok (.aload_n 0, 1) := by decide +kernel
theorem dX6_strainOfPlaces_38 : decode cX6_strainOfPlaces 38 = .ok (.getfield 15, 3) := by decide +kernel
theorem dX6_strainOfPlaces_41 : decode cX6_strainOfPlaces 41 = .ok (.iload_n 2, 1) := by decide +kernel
theorem dX6_strainOfPlaces_42 : decode cX6_strainOfPlaces 42 = .ok (.iload 7, 2) := by decide +kernel
theorem dX6_strainOfPlaces_44 : decode cX6_strainOfPlaces 44 = .ok (.iadd, 1) := by decide +kernel
theorem dX6_strainOfPlaces_45 : decode cX6_strainOfPlaces 45 = .ok (.iaload, 1) := by decide +kernel
theorem dX6_strainOfPlaces_46 : decode cX6_strainOfPlaces 46 = .ok (.invokevirtual 82, 3) := by decide +kernel
theorem dX6_strainOfPlaces_49 : decode cX6_strainOfPlaces 49 = .ok (.iadd, 1) := by decide +kernel
theorem dX6_strainOfPlaces_50 : decode cX6_strainOfPlaces 50 = .ok (.istore 6, 2) := by decide +kernel
theorem dX6_strainOfPlaces_52 : decode cX6_strainOfPlaces 52 = .ok (.iinc 7 1, 3) := by decide +kernel
theorem dX6_strainOfPlaces_55 : decode cX6_strainOfPlaces 55 = .ok (.goto (-49), 3) := by decide +kernel
theorem dX6_strainOfPlaces_58 : decode cX6_strainOfPlaces 58 = .ok (.iload 6, 2) := by decide +kernel
theorem dX6_strainOfPlaces_60 : decode cX6_strainOfPlaces 60 = .ok (.ireturn, 1) := by decide +kernel
theorem dX7_init_0 : decode cX7_init 0 = .ok (.aload_n 0, 1) := by decide +kernel
theorem dX7_init_1 : decode cX7_init 1 = .ok (.invokespecial 3, 3) := by decide +kernel
theorem dX7_init_4 : decode cX7_init 4 = .ok (.aload_n 0, 1) := by decide +kernel
theorem dX7_init_5 : decode cX7_init 5 = .ok (.sipush 600, 3) := by decide +kernel
theorem dX7_init_8 : decode cX7_init 8 = .ok (.newarray .int, 2) := by decide +kernel
theorem dX7_init_10 : decode cX7_init 10 = .ok (.putfield 9, 3) := by decide +kernel
theorem dX7_init_13 : decode cX7_init 13 = .ok (.return_, 1) := by decide +kernel
theorem dX7_length_0 : decode cX7_length 0 = .ok (.aload_n 0, 1) := by decide +kernel
theorem dX7_length_1 : decode cX7_length 1 = .ok (.getfield 15, 3) := by decide +kernel
theorem dX7_length_4 : decode cX7_length 4 = .ok (.ireturn, 1) := by decide +kernel
theorem dX7_byteAt_0 : decode cX7_byteAt 0 = .ok (.iload_n 1, 1) := by decide +kernel
theorem dX7_byteAt_1 : decode cX7_byteAt 1 = .ok (.ifCond .lt 20, 3) := by decide +kernel
theorem dX7_byteAt_4 : decode cX7_byteAt 4 = .ok (.iload_n 1, 1) := by decide +kernel
theorem dX7_byteAt_5 : decode cX7_byteAt 5 = .ok (.aload_n 0, 1) := by decide +kernel
theorem dX7_byteAt_6 : decode cX7_byteAt 6 = .ok (.getfield 15, 3) := by decide +kernel
theorem dX7_byteAt_9 : decode cX7_byteAt 9 = .ok (.if_icmp .ge 12, 3) := by decide +kernel
theorem dX7_byteAt_12 : decode cX7_byteAt 12 = .ok (.aload_n 0, 1) := by decide +kernel
theorem dX7_byteAt_13 : decode cX7_byteAt 13 = .ok (.getfield 9, 3) := by decide +kernel
theorem dX7_byteAt_16 : decode cX7_byteAt 16 = .ok (.iload_n 1, 1) := by decide +kernel
theorem dX7_byteAt_17 : decode cX7_byteAt 17 = .ok (.iaload, 1) := by decide +kernel
theorem dX7_byteAt_18 : decode cX7_byteAt 18 = .ok (.goto 4, 3) := by decide +kernel
theorem dX7_byteAt_21 : decode cX7_byteAt 21 = .ok (.iconst (-1), 1) := by decide +kernel
theorem dX7_byteAt_22 : decode cX7_byteAt 22 = .ok (.ireturn, 1) := by decide +kernel
theorem dX7_clear_0 : decode cX7_clear 0 = .ok (.aload_n 0, 1) := by decide +kernel
theorem dX7_clear_1 : decode cX7_clear 1 = .ok (.iconst 0, 1) := by decide +kernel
theorem dX7_clear_2 : decode cX7_clear 2 = .ok (.putfield 15, 3) := by decide +kernel
theorem dX7_clear_5 : decode cX7_clear 5 = .ok (.return_, 1) := by decide +kernel
set_option maxRecDepth 20000 in
theorem ggX7_keepFirst_X10_within : GoodIn wsX7_keepFirst wsX10_within := goodIn_r _ [4] (by decide +kernel) (by decide +kernel)
set_option maxRecDepth 20000 in
theorem gX7_keepFirst_X10_within_n19 : GoodIn wsX7_keepFirst (wsX10_within) := ggX7_keepFirst_X10_within
theorem dX7_keepFirst_0 : decode cX7_keepFirst 0 = .ok (.iload_n 1, 1) := by decide +kernel
theorem dX7_keepFirst_1 : decode cX7_keepFirst 1 = .ok (.iconst 0, 1) := by decide +kernel
theorem dX7_keepFirst_2 : decode cX7_keepFirst 2 = .ok (.aload_n 0, 1) := by decide +kernel
theorem dX7_keepFirst_3 : decode cX7_keepFirst 3 = .ok (.getfield 15, 3) := by decide +kernel
theorem dX7_keepFirst_6 : decode cX7_keepFirst 6 = .ok (.invokestatic 19, 3) := by decide +kernel
theorem dX7_keepFirst_9 : decode cX7_keepFirst 9 = .ok (.ifCond .ne 5, 3) := by decide +kernel
theorem dX7_keepFirst_12 : decode cX7_keepFirst 12 = .ok (.iconst 0, 1) := by decide +kernel
theorem dX7_keepFirst_13 : decode cX7_keepFirst 13 = .ok (.ireturn, 1) := by decide +kernel
theorem dX7_keepFirst_14 : decode cX7_keepFirst 14 = .ok (.aload_n 0, 1) := by decide +kernel
theorem dX7_keepFirst_15 : decode cX7_keepFirst 15 = .ok (.iload_n 1, 1) := by decide +kernel
theorem dX7_keepFirst_16 : decode cX7_keepFirst 16 = .ok (.putfield 15, 3) := by decide +kernel
theorem dX7_keepFirst_19 : decode cX7_keepFirst 19 = .ok (.iconst 1, 1) := by decide +kernel
theorem dX7_keepFirst_20 : decode cX7_keepFirst 20 = .ok (.ireturn, 1) := by decide +kernel
set_option maxRecDepth 20000 in
theorem ggX7_append_X7_appendNumber : GoodIn wsX7_append wsX7_appendNumber := goodIn_r _ [6, 1, 7, 8, 9] (by decide +kernel) (by decide +kernel)
set_option maxRecDepth 20000 in
theorem gX7_append_X7_appendNumber : GoodIn wsX7_append (wsV RX7 23 RX7 yX7_appendNumber wsX7_appendNumber) := goodIn_app (goodIn_of _ (by decide +kernel)) ggX7_append_X7_appendNumber
theorem dX7_append_0 : decode cX7_append 0 = .ok (.aload_n 0, 1) := by decide +kernel
theorem dX7_append_1 : decode cX7_append 1 = .ok (.getfield 15, 3) := by decide +kernel
theorem dX7_append_4 : decode cX7_append 4 = .ok (.bipush 20, 2) := by decide +kernel
theorem dX7_append_6 : decode cX7_append 6 = .ok (.iadd, 1) := by decide +kernel
theorem dX7_append_7 : decode cX7_append 7 = .ok (.sipush 600, 3) := by decide +kernel
theorem dX7_append_10 : decode cX7_append 10 = .ok (.if_icmp .le 5, 3) := by decide +kernel
theorem dX7_append_13 : decode cX7_append 13 = .ok (.iconst (-1), 1) := by decide +kernel
theorem dX7_append_14 : decode cX7_append 14 = .ok (.ireturn, 1) := by decide +kernel
theorem dX7_append_15 : decode cX7_append 15 = .ok (.aload_n 0, 1) := by decide +kernel
theorem dX7_append_16 : decode cX7_append 16 = .ok (.iload_n 1, 1) := by decide +kernel
theorem dX7_append_17 : decode cX7_append 17 = .ok (.invokevirtual 23, 3) := by decide +kernel
theorem dX7_append_20 : decode cX7_append 20 = .ok (.aload_n 0, 1) := by decide +kernel
theorem dX7_append_21 : decode cX7_append 21 = .ok (.iload_n 2, 1) := by decide +kernel
theorem dX7_append_22 : decode cX7_append 22 = .ok (.invokevirtual 23, 3) := by decide +kernel
theorem dX7_append_25 : decode cX7_append 25 = .ok (.aload_n 0, 1) := by decide +kernel
theorem dX7_append_26 : decode cX7_append 26 = .ok (.iload_n 3, 1) := by decide +kernel
theorem dX7_append_27 : decode cX7_append 27 = .ok (.invokevirtual 23, 3) := by decide +kernel
theorem dX7_append_30 : decode cX7_append 30 = .ok (.aload_n 0, 1) := by decide +kernel
theorem dX7_append_31 : decode cX7_append 31 = .ok (.iload 4, 2) := by decide +kernel
theorem dX7_append_33 : decode cX7_append 33 = .ok (.invokevirtual 23, 3) := by decide +kernel
theorem dX7_append_36 : decode cX7_append 36 = .ok (.aload_n 0, 1) := by decide +kernel
theorem dX7_append_37 : decode cX7_append 37 = .ok (.iload 5, 2) := by decide +kernel
theorem dX7_append_39 : decode cX7_append 39 = .ok (.invokevirtual 23, 3) := by decide +kernel
theorem dX7_append_42 : decode cX7_append 42 = .ok (.aload_n 0, 1) := by decide +kernel
theorem dX7_append_43 : decode cX7_append 43 = .ok (.getfield 15, 3) := by decide +kernel
theorem dX7_append_46 : decode cX7_append 46 = .ok (.ireturn, 1) := by decide +kernel
theorem dX7_appendNumber_0 : decode cX7_appendNumber 0 = .ok (.bipush 24, 2) := by decide +kernel
theorem dX7_appendNumber_2 : decode cX7_appendNumber 2 = .ok (.istore_n 2, 1) := by decide +kernel
theorem dX7_appendNumber_3 : decode cX7_appendNumber 3 = .ok (.iload_n 2, 1) := by decide +kernel
theorem dX7_appendNumber_4 : decode cX7_appendNumber 4 = .ok (.ifCond .lt 45, 3) := by decide +kernel
theorem dX7_appendNumber_7 : decode cX7_appendNumber 7 = .ok (.aload_n 0, 1) := by decide +kernel
theorem dX7_appendNumber_8 : decode cX7_appendNumber 8 = .ok (.getfield 15, 3) := by decide +kernel
theorem dX7_appendNumber_11 : decode cX7_appendNumber 11 = .ok (.sipush 600, 3) := by decide +kernel
theorem dX7_appendNumber_14 : decode cX7_appendNumber 14 = .ok (.if_icmp .ge 35, 3) := by decide +kernel
theorem dX7_appendNumber_17 : decode cX7_appendNumber 17 = .ok (.aload_n 0, 1) := by decide +kernel
theorem dX7_appendNumber_18 : decode cX7_appendNumber 18 = .ok (.getfield 9, 3) := by decide +kernel
theorem dX7_appendNumber_21 : decode cX7_appendNumber 21 = .ok (.aload_n 0, 1) := by decide +kernel
theorem dX7_appendNumber_22 : decode cX7_appendNumber 22 = .ok (.getfield 15, 3) := by decide +kernel
theorem dX7_appendNumber_25 : decode cX7_appendNumber 25 = .ok (.iload_n 1, 1) := by decide +kernel
theorem dX7_appendNumber_26 : decode cX7_appendNumber 26 = .ok (.iload_n 2, 1) := by decide +kernel
theorem dX7_appendNumber_27 : decode cX7_appendNumber 27 = .ok (.iushr, 1) := by decide +kernel
theorem dX7_appendNumber_28 : decode cX7_appendNumber 28 = .ok (.sipush 255, 3) := by decide +kernel
theorem dX7_appendNumber_31 : decode cX7_appendNumber 31 = .ok (.iand, 1) := by decide +kernel
theorem dX7_appendNumber_32 : decode cX7_appendNumber 32 = .ok (.iastore, 1) := by decide +kernel
theorem dX7_appendNumber_33 : decode cX7_appendNumber 33 = .ok (.aload_n 0, 1) := by decide +kernel
theorem dX7_appendNumber_34 : decode cX7_appendNumber 34 = .ok (.dup, 1) := by decide +kernel
theorem dX7_appendNumber_35 : decode cX7_appendNumber 35 = .ok (.getfield 15, 3) := by decide +kernel
theorem dX7_appendNumber_38 : decode cX7_appendNumber 38 = .ok (.iconst 1, 1) := by decide +kernel
theorem dX7_appendNumber_39 : decode cX7_appendNumber 39 = .ok (.iadd, 1) := by decide +kernel
theorem dX7_appendNumber_40 : decode cX7_appendNumber 40 = .ok (.putfield 15, 3) := by decide +kernel
theorem dX7_appendNumber_43 : decode cX7_appendNumber 43 = .ok (.iinc 2 (-8), 3) := by decide +kernel
theorem dX7_appendNumber_46 : decode cX7_appendNumber 46 = .ok (.goto (-43), 3) := by decide +kernel
theorem dX7_appendNumber_49 : decode cX7_appendNumber 49 = .ok (.return_, 1) := by decide +kernel
theorem dX8_init_0 : decode cX8_init 0 = .ok (.aload_n 0, 1) := by decide +kernel
theorem dX8_init_1 : decode cX8_init 1 = .ok (.invokespecial 3, 3) := by decide +kernel
theorem dX8_init_4 : decode cX8_init 4 = .ok (.aload_n 0, 1) := by decide +kernel
theorem dX8_init_5 : decode cX8_init 5 = .ok (.iconst 4, 1) := by decide +kernel
theorem dX8_init_6 : decode cX8_init 6 = .ok (.newarray .boolean, 2) := by decide +kernel
theorem dX8_init_8 : decode cX8_init 8 = .ok (.putfield 11, 3) := by decide +kernel
theorem dX8_init_11 : decode cX8_init 11 = .ok (.aload_n 0, 1) := by decide +kernel
theorem dX8_init_12 : decode cX8_init 12 = .ok (.iconst 2, 1) := by decide +kernel
theorem dX8_init_13 : decode cX8_init 13 = .ok (.putfield 15, 3) := by decide +kernel
theorem dX8_init_16 : decode cX8_init 16 = .ok (.aload_n 0, 1) := by decide +kernel
theorem dX8_init_17 : decode cX8_init 17 = .ok (.iconst (-1), 1) := by decide +kernel
theorem dX8_init_18 : decode cX8_init 18 = .ok (.putfield 19, 3) := by decide +kernel
theorem dX8_init_21 : decode cX8_init 21 = .ok (.return_, 1) := by decide +kernel
theorem dX8_haveBegun_0 : decode cX8_haveBegun 0 = .ok (.aload_n 0, 1) := by decide +kernel
theorem dX8_haveBegun_1 : decode cX8_haveBegun 1 = .ok (.getfield 22, 3) := by decide +kernel
theorem dX8_haveBegun_4 : decode cX8_haveBegun 4 = .ok (.ireturn, 1) := by decide +kernel
theorem dX8_bestLongest_0 : decode cX8_bestLongest 0 = .ok (.bipush 20, 2) := by decide +kernel
theorem dX8_bestLongest_2 : decode cX8_bestLongest 2 = .ok (.iconst 4, 1) := by decide +kernel
theorem dX8_bestLongest_3 : decode cX8_bestLongest 3 = .ok (.aload_n 0, 1) := by decide +kernel
theorem dX8_bestLongest_4 : decode cX8_bestLongest 4 = .ok (.getfield 26, 3) := by decide +kernel
theorem dX8_bestLongest_7 : decode cX8_bestLongest 7 = .ok (.imul, 1) := by decide +kernel
theorem dX8_bestLongest_8 : decode cX8_bestLongest 8 = .ok (.iadd, 1) := by decide +kernel
theorem dX8_bestLongest_9 : decode cX8_bestLongest 9 = .ok (.ireturn, 1) := by decide +kernel
theorem dX8_bestSpread_0 : decode cX8_bestSpread 0 = .ok (.iconst 1, 1) := by decide +kernel
theorem dX8_bestSpread_1 : decode cX8_bestSpread 1 = .ok (.aload_n 0, 1) := by decide +kernel
theorem dX8_bestSpread_2 : decode cX8_bestSpread 2 = .ok (.getfield 29, 3) := by decide +kernel
theorem dX8_bestSpread_5 : decode cX8_bestSpread 5 = .ok (.iadd, 1) := by decide +kernel
theorem dX8_bestSpread_6 : decode cX8_bestSpread 6 = .ok (.ireturn, 1) := by decide +kernel
set_option maxRecDepth 20000 in
theorem ggX8_begin_X8_isOnGrid : GoodIn wsX8_begin wsX8_isOnGrid := goodIn_r _ [10, 11, 12, 13] (by decide +kernel) (by decide +kernel)
set_option maxRecDepth 20000 in
theorem gX8_begin_X8_isOnGrid : GoodIn wsX8_begin (va_wsS RX8 32 yX8_isOnGrid wsX8_isOnGrid) := goodIn_app (goodIn_of _ (by decide +kernel)) ggX8_begin_X8_isOnGrid
set_option maxRecDepth 20000 in
theorem ggX8_begin_X10_within : GoodIn wsX8_begin wsX10_within := goodIn_r _ [13] (by decide +kernel) (by decide +kernel)
set_option maxRecDepth 20000 in
theorem gX8_begin_X10_within_n36 : GoodIn wsX8_begin (wsX10_within) := ggX8_begin_X10_within
set_option maxRecDepth 20000 in
theorem ggX8_begin_X8_makeBest : GoodIn wsX8_begin wsX8_makeBest := goodIn_r _ [17, 18, 19, 20, 35, 36, 37, 38, 39, 40, 41, 42, 43] (by decide +kernel) (by decide +kernel)
set_option maxRecDepth 20000 in
theorem gX8_begin_X8_makeBest : GoodIn wsX8_begin (wsV RX8 49 RX8 yX8_makeBest wsX8_makeBest) := goodIn_app (goodIn_of _ (by decide +kernel)) ggX8_begin_X8_makeBest
set_option maxRecDepth 20000 in
theorem ggX8_begin_X8_nextWay : GoodIn wsX8_begin wsX8_nextWay := goodIn_r _ [24, 20, 25, 26, 27, 9, 28, 18, 29, 30, 31, 32, 33, 19, 34, 7, 8, 10, 11, 12, 13, 35, 36, 37, 38, 39, 40, 41, 42, 43] (by decide +kernel) (by decide +kernel)
set_option maxRecDepth 20000 in
theorem gX8_begin_X8_nextWay : GoodIn wsX8_begin (wsV RX8 53 RX8 yX8_nextWay wsX8_nextWay) := goodIn_app (goodIn_of _ (by decide +kernel)) ggX8_begin_X8_nextWay
theorem dX8_begin_0 : decode cX8_begin 0 = .ok (.iload_n 1, 1) := by decide +kernel
theorem dX8_begin_1 : decode cX8_begin 1 = .ok (.iload_n 2, 1) := by decide +kernel
theorem dX8_begin_2 : decode cX8_begin 2 = .ok (.invokestatic 32, 3) := by decide +kernel
theorem dX8_begin_5 : decode cX8_begin 5 = .ok (.ifCond .eq 13, 3) := by decide +kernel
theorem dX8_begin_8 : decode cX8_begin 8 = .ok (.iload_n 3, 1) := by decide +kernel
theorem dX8_begin_9 : decode cX8_begin 9 = .ok (.iconst 1, 1) := by decide +kernel
theorem dX8_begin_10 : decode cX8_begin 10 = .ok (.bipush 9, 2) := by decide +kernel
theorem dX8_begin_12 : decode cX8_begin 12 = .ok (.invokestatic 36, 3) := by decide +kernel
theorem dX8_begin_15 : decode cX8_begin 15 = .ok (.ifCond .ne 5, 3) := by decide +kernel
theorem dX8_begin_18 : decode cX8_begin 18 = .ok (.iconst 0, 1) := by decide +kernel
theorem dX8_begin_19 : decode cX8_begin 19 = .ok (.ireturn, 1) := by decide +kernel
theorem dX8_begin_20 : decode cX8_begin 20 = .ok (.aload_n 0, 1) := by decide +kernel
theorem dX8_begin_21 : decode cX8_begin 21 = .ok (.iconst 1, 1) := by decide +kernel
theorem dX8_begin_22 : decode cX8_begin 22 = .ok (.putfield 22, 3) := by decide +kernel
theorem dX8_begin_25 : decode cX8_begin 25 = .ok (.aload_n 0, 1) := by decide +kernel
theorem dX8_begin_26 : decode cX8_begin 26 = .ok (.iload_n 3, 1) := by decide +kernel
theorem dX8_begin_27 : decode cX8_begin 27 = .ok (.putfield 15, 3) := by decide +kernel
theorem dX8_begin_30 : decode cX8_begin 30 = .ok (.aload_n 0, 1) := by decide +kernel
theorem dX8_begin_31 : decode cX8_begin 31 = .ok (.iconst 0, 1) := by decide +kernel
theorem dX8_begin_32 : decode cX8_begin 32 = .ok (.putfield 40, 3) := by decide +kernel
theorem dX8_begin_35 : decode cX8_begin 35 = .ok (.aload_n 0, 1) := by decide +kernel
theorem dX8_begin_36 : decode cX8_begin 36 = .ok (.iconst 0, 1) := by decide +kernel
theorem dX8_begin_37 : decode cX8_begin 37 = .ok (.putfield 43, 3) := by decide +kernel
theorem dX8_begin_40 : decode cX8_begin 40 = .ok (.aload_n 0, 1) := by decide +kernel
theorem dX8_begin_41 : decode cX8_begin 41 = .ok (.iconst 0, 1) := by decide +kernel
theorem dX8_begin_42 : decode cX8_begin 42 = .ok (.putfield 46, 3) := by decide +kernel
theorem dX8_begin_45 : decode cX8_begin 45 = .ok (.aload_n 0, 1) := by decide +kernel
theorem dX8_begin_46 : decode cX8_begin 46 = .ok (.iload_n 1, 1) := by decide +kernel
theorem dX8_begin_47 : decode cX8_begin 47 = .ok (.iload_n 2, 1) := by decide +kernel
theorem dX8_begin_48 : decode cX8_begin 48 = .ok (.invokevirtual 49, 3) := by decide +kernel
theorem dX8_begin_51 : decode cX8_begin 51 = .ok (.aload_n 0, 1) := by decide +kernel
theorem dX8_begin_52 : decode cX8_begin 52 = .ok (.aload_n 0, 1) := by decide +kernel
theorem dX8_begin_53 : decode cX8_begin 53 = .ok (.invokevirtual 53, 3) := by decide +kernel
theorem dX8_begin_56 : decode cX8_begin 56 = .ok (.putfield 19, 3) := by decide +kernel
theorem dX8_begin_59 : decode cX8_begin 59 = .ok (.iconst 1, 1) := by decide +kernel
theorem dX8_begin_60 : decode cX8_begin 60 = .ok (.ireturn, 1) := by decide +kernel
set_option maxRecDepth 20000 in
theorem ggX8_tell_X8_longOn : GoodIn wsX8_tell wsX8_longOn := goodIn_r _ [11, 2, 12, 18, 19, 20, 21, 22, 23, 24, 25, 26] (by decide +kernel) (by decide +kernel)
set_option maxRecDepth 20000 in
theorem gX8_tell_X8_longOn : GoodIn wsX8_tell (wsV RX8 57 RX8 yX8_longOn wsX8_longOn) := goodIn_app (goodIn_of _ (by decide +kernel)) ggX8_tell_X8_longOn
set_option maxRecDepth 20000 in
theorem ggX8_tell_X8_spreadOn : GoodIn wsX8_tell wsX8_spreadOn := goodIn_r _ [16, 3, 17, 18, 19, 20, 21, 22, 23, 24, 25, 26] (by decide +kernel) (by decide +kernel)
set_option maxRecDepth 20000 in
theorem gX8_tell_X8_spreadOn : GoodIn wsX8_tell (wsV RX8 61 RX8 yX8_spreadOn wsX8_spreadOn) := goodIn_app (goodIn_of _ (by decide +kernel)) ggX8_tell_X8_spreadOn
theorem dX8_tell_0 : decode cX8_tell 0 = .ok (.aload_n 0, 1) := by decide +kernel
theorem dX8_tell_1 : decode cX8_tell 1 = .ok (.getfield 22, 3) := by decide +kernel
theorem dX8_tell_4 : decode cX8_tell 4 = .ok (.ifCond .ne 5, 3) := by decide +kernel
theorem dX8_tell_7 : decode cX8_tell 7 = .ok (.iconst (-1), 1) := by decide +kernel
theorem dX8_tell_8 : decode cX8_tell 8 = .ok (.ireturn, 1) := by decide +kernel
theorem dX8_tell_9 : decode cX8_tell 9 = .ok (.iload_n 1, 1) := by decide +kernel
theorem dX8_tell_10 : decode cX8_tell 10 = .ok (.tableswitch 100 0 5 #[38, 43, 48, 69, 90, 95], 38) := by decide +kernel
theorem dX8_tell_48 : decode cX8_tell 48 = .ok (.aload_n 0, 1) := by decide +kernel
theorem dX8_tell_49 : decode cX8_tell 49 = .ok (.getfield 26, 3) := by decide +kernel
theorem dX8_tell_52 : decode cX8_tell 52 = .ok (.ireturn, 1) := by decide +kernel
theorem dX8_tell_53 : decode cX8_tell 53 = .ok (.aload_n 0, 1) := by decide +kernel
theorem dX8_tell_54 : decode cX8_tell 54 = .ok (.getfield 29, 3) := by decide +kernel
theorem dX8_tell_57 : decode cX8_tell 57 = .ok (.ireturn, 1) := by decide +kernel
theorem dX8_tell_58 : decode cX8_tell 58 = .ok (.aload_n 0, 1) := by decide +kernel
theorem dX8_tell_59 : decode cX8_tell 59 = .ok (.getfield 19, 3) := by decide +kernel
theorem dX8_tell_62 : decode cX8_tell 62 = .ok (.iconst (-1), 1) := by decide +kernel
theorem dX8_tell_63 : decode cX8_tell 63 = .ok (.if_icmp .ne 7, 3) := by decide +kernel
theorem dX8_tell_66 : decode cX8_tell 66 = .ok (.iconst (-1), 1) := by decide +kernel
theorem dX8_tell_67 : decode cX8_tell 67 = .ok (.goto 11, 3) := by decide +kernel
theorem dX8_tell_70 : decode cX8_tell 70 = .ok (.aload_n 0, 1) := by decide +kernel
theorem dX8_tell_71 : decode cX8_tell 71 = .ok (.aload_n 0, 1) := by decide +kernel
theorem dX8_tell_72 : decode cX8_tell 72 = .ok (.getfield 19, 3) := by decide +kernel
theorem dX8_tell_75 : decode cX8_tell 75 = .ok (.invokevirtual 57, 3) := by decide +kernel
theorem dX8_tell_78 : decode cX8_tell 78 = .ok (.ireturn, 1) := by decide +kernel
theorem dX8_tell_79 : decode cX8_tell 79 = .ok (.aload_n 0, 1) := by decide +kernel
theorem dX8_tell_80 : decode cX8_tell 80 = .ok (.getfield 19, 3) := by decide +kernel
theorem dX8_tell_83 : decode cX8_tell 83 = .ok (.iconst (-1), 1) := by decide +kernel
theorem dX8_tell_84 : decode cX8_tell 84 = .ok (.if_icmp .ne 7, 3) := by decide +kernel
theorem dX8_tell_87 : decode cX8_tell 87 = .ok (.iconst (-1), 1) := by decide +kernel
theorem dX8_tell_88 : decode cX8_tell 88 = .ok (.goto 11, 3) := by decide +kernel
theorem dX8_tell_91 : decode cX8_tell 91 = .ok (.aload_n 0, 1) := by decide +kernel
theorem dX8_tell_92 : decode cX8_tell 92 = .ok (.aload_n 0, 1) := by decide +kernel
theorem dX8_tell_93 : decode cX8_tell 93 = .ok (.getfield 19, 3) := by decide +kernel
theorem dX8_tell_96 : decode cX8_tell 96 = .ok (.invokevirtual 61, 3) := by decide +kernel
theorem dX8_tell_99 : decode cX8_tell 99 = .ok (.ireturn, 1) := by decide +kernel
theorem dX8_tell_100 : decode cX8_tell 100 = .ok (.aload_n 0, 1) := by decide +kernel
theorem dX8_tell_101 : decode cX8_tell 101 = .ok (.getfield 40, 3) := by decide +kernel
theorem dX8_tell_104 : decode cX8_tell 104 = .ok (.ireturn, 1) := by decide +kernel
theorem dX8_tell_105 : decode cX8_tell 105 = .ok (.aload_n 0, 1) := by decide +kernel
theorem dX8_tell_106 : decode cX8_tell 106 = .ok (.getfield 43, 3) := by decide +kernel
theorem dX8_tell_109 : decode cX8_tell 109 = .ok (.ireturn, 1) := by decide +kernel
theorem dX8_tell_110 : decode cX8_tell 110 = .ok (.iconst (-1), 1) := by decide +kernel
theorem dX8_tell_111 : decode cX8_tell 111 = .ok (.ireturn, 1) := by decide +kernel
set_option maxRecDepth 20000 in
theorem ggX8_hear_X8_settle : GoodIn wsX8_hear wsX8_settle := goodIn_r _ [8, 3, 9, 10, 11, 12, 13, 14, 15, 1, 16, 17, 18, 7, 19, 20, 21, 22, 23, 24, 25, 26, 27, 28, 29, 30, 31, 32, 33, 34, 35, 36, 37, 38, 39, 40, 41, 42, 43, 44, 45, 46, 47, 48, 49, 50] (by decide +kernel) (by decide +kernel)
set_option maxRecDepth 20000 in
theorem gX8_hear_X8_settle : GoodIn wsX8_hear (wsV RX8 64 RX8 yX8_settle wsX8_settle) := goodIn_app (goodIn_of _ (by decide +kernel)) ggX8_hear_X8_settle
theorem dX8_hear_0 : decode cX8_hear 0 = .ok (.aload_n 0, 1) := by decide +kernel
theorem dX8_hear_1 : decode cX8_hear 1 = .ok (.getfield 19, 3) := by decide +kernel
theorem dX8_hear_4 : decode cX8_hear 4 = .ok (.iconst (-1), 1) := by decide +kernel
theorem dX8_hear_5 : decode cX8_hear 5 = .ok (.if_icmp .ne 5, 3) := by decide +kernel
theorem dX8_hear_8 : decode cX8_hear 8 = .ok (.iconst (-1), 1) := by decide +kernel
theorem dX8_hear_9 : decode cX8_hear 9 = .ok (.ireturn, 1) := by decide +kernel
theorem dX8_hear_10 : decode cX8_hear 10 = .ok (.aload_n 0, 1) := by decide +kernel
theorem dX8_hear_11 : decode cX8_hear 11 = .ok (.dup, 1) := by decide +kernel
theorem dX8_hear_12 : decode cX8_hear 12 = .ok (.getfield 40, 3) := by decide +kernel
theorem dX8_hear_15 : decode cX8_hear 15 = .ok (.iconst 1, 1) := by decide +kernel
theorem dX8_hear_16 : decode cX8_hear 16 = .ok (.iadd, 1) := by decide +kernel
theorem dX8_hear_17 : decode cX8_hear 17 = .ok (.putfield 40, 3) := by decide +kernel
theorem dX8_hear_20 : decode cX8_hear 20 = .ok (.aload_n 0, 1) := by decide +kernel
theorem dX8_hear_21 : decode cX8_hear 21 = .ok (.dup, 1) := by decide +kernel
theorem dX8_hear_22 : decode cX8_hear 22 = .ok (.getfield 46, 3) := by decide +kernel
theorem dX8_hear_25 : decode cX8_hear 25 = .ok (.iload_n 1, 1) := by decide +kernel
theorem dX8_hear_26 : decode cX8_hear 26 = .ok (.ifCond .eq 7, 3) := by decide +kernel
theorem dX8_hear_29 : decode cX8_hear 29 = .ok (.iconst 1, 1) := by decide +kernel
theorem dX8_hear_30 : decode cX8_hear 30 = .ok (.goto 4, 3) := by decide +kernel
theorem dX8_hear_33 : decode cX8_hear 33 = .ok (.iconst (-1), 1) := by decide +kernel
theorem dX8_hear_34 : decode cX8_hear 34 = .ok (.iadd, 1) := by decide +kernel
theorem dX8_hear_35 : decode cX8_hear 35 = .ok (.putfield 46, 3) := by decide +kernel
theorem dX8_hear_38 : decode cX8_hear 38 = .ok (.aload_n 0, 1) := by decide +kernel
theorem dX8_hear_39 : decode cX8_hear 39 = .ok (.invokevirtual 64, 3) := by decide +kernel
theorem dX8_hear_42 : decode cX8_hear 42 = .ok (.istore_n 2, 1) := by decide +kernel
theorem dX8_hear_43 : decode cX8_hear 43 = .ok (.aload_n 0, 1) := by decide +kernel
theorem dX8_hear_44 : decode cX8_hear 44 = .ok (.getfield 40, 3) := by decide +kernel
theorem dX8_hear_47 : decode cX8_hear 47 = .ok (.sipush 200, 3) := by decide +kernel
theorem dX8_hear_50 : decode cX8_hear 50 = .ok (.if_icmp .lt 8, 3) := by decide +kernel
theorem dX8_hear_53 : decode cX8_hear 53 = .ok (.aload_n 0, 1) := by decide +kernel
theorem dX8_hear_54 : decode cX8_hear 54 = .ok (.iconst (-1), 1) := by decide +kernel
theorem dX8_hear_55 : decode cX8_hear 55 = .ok (.putfield 19, 3) := by decide +kernel
theorem dX8_hear_58 : decode cX8_hear 58 = .ok (.aload_n 0, 1) := by decide +kernel
theorem dX8_hear_59 : decode cX8_hear 59 = .ok (.getfield 19, 3) := by decide +kernel
theorem dX8_hear_62 : decode cX8_hear 62 = .ok (.iconst (-1), 1) := by decide +kernel
theorem dX8_hear_63 : decode cX8_hear 63 = .ok (.if_icmp .ne 7, 3) := by decide +kernel
theorem dX8_hear_66 : decode cX8_hear 66 = .ok (.iconst 3, 1) := by decide +kernel
theorem dX8_hear_67 : decode cX8_hear 67 = .ok (.goto 4, 3) := by decide +kernel
theorem dX8_hear_70 : decode cX8_hear 70 = .ok (.iload_n 2, 1) := by decide +kernel
theorem dX8_hear_71 : decode cX8_hear 71 = .ok (.ireturn, 1) := by decide +kernel
set_option maxRecDepth 20000 in
theorem ggX8_settle_X8_longOn : GoodIn wsX8_settle wsX8_longOn := goodIn_r _ [14, 15, 16, 37, 38, 39, 40, 41, 42, 43, 44, 45] (by decide +kernel) (by decide +kernel)
set_option maxRecDepth 20000 in
theorem gX8_settle_X8_longOn : GoodIn wsX8_settle (wsV RX8 57 RX8 yX8_longOn wsX8_longOn) := goodIn_app (goodIn_of _ (by decide +kernel)) ggX8_settle_X8_longOn
set_option maxRecDepth 20000 in
theorem ggX8_settle_X8_spreadOn : GoodIn wsX8_settle wsX8_spreadOn := goodIn_r _ [20, 21, 22, 37, 38, 39, 40, 41, 42, 43, 44, 45] (by decide +kernel) (by decide +kernel)
set_option maxRecDepth 20000 in
theorem gX8_settle_X8_spreadOn : GoodIn wsX8_settle (wsV RX8 61 RX8 yX8_spreadOn wsX8_spreadOn) := goodIn_app (goodIn_of _ (by decide +kernel)) ggX8_settle_X8_spreadOn
set_option maxRecDepth 20000 in
theorem ggX8_settle_X8_makeBest : GoodIn wsX8_settle wsX8_makeBest := goodIn_r _ [26, 15, 21, 8, 37, 38, 39, 40, 41, 42, 43, 44, 45] (by decide +kernel) (by decide +kernel)
set_option maxRecDepth 20000 in
theorem gX8_settle_X8_makeBest : GoodIn wsX8_settle (wsV RX8 49 RX8 yX8_makeBest wsX8_makeBest) := goodIn_app (goodIn_of _ (by decide +kernel)) ggX8_settle_X8_makeBest
set_option maxRecDepth 20000 in
theorem ggX8_settle_X8_nextWay : GoodIn wsX8_settle wsX8_nextWay := goodIn_r _ [30, 8, 10, 11, 12, 13, 14, 15, 16, 17, 18, 19, 20, 21, 22, 31, 32, 33, 34, 35, 36, 37, 38, 39, 40, 41, 42, 43, 44, 45] (by decide +kernel) (by decide +kernel)
set_option maxRecDepth 20000 in
theorem gX8_settle_X8_nextWay : GoodIn wsX8_settle (wsV RX8 53 RX8 yX8_nextWay wsX8_nextWay) := goodIn_app (goodIn_of _ (by decide +kernel)) ggX8_settle_X8_nextWay
theorem dX8_settle_0 : decode cX8_settle 0 = .ok (.aload_n 0, 1) := by decide +kernel
theorem dX8_settle_1 : decode cX8_settle 1 = .ok (.getfield 46, 3) := by decide +kernel
theorem dX8_settle_4 : decode cX8_settle 4 = .ok (.invokestatic 67, 3) := by decide +kernel
theorem dX8_settle_7 : decode cX8_settle 7 = .ok (.aload_n 0, 1) := by decide +kernel
theorem dX8_settle_8 : decode cX8_settle 8 = .ok (.getfield 15, 3) := by decide +kernel
theorem dX8_settle_11 : decode cX8_settle 11 = .ok (.if_icmp .ge 5, 3) := by decide +kernel
theorem dX8_settle_14 : decode cX8_settle 14 = .ok (.iconst 0, 1) := by decide +kernel
theorem dX8_settle_15 : decode cX8_settle 15 = .ok (.ireturn, 1) := by decide +kernel
theorem dX8_settle_16 : decode cX8_settle 16 = .ok (.aload_n 0, 1) := by decide +kernel
theorem dX8_settle_17 : decode cX8_settle 17 = .ok (.getfield 46, 3) := by decide +kernel
theorem dX8_settle_20 : decode cX8_settle 20 = .ok (.ifCond .le 7, 3) := by decide +kernel
theorem dX8_settle_23 : decode cX8_settle 23 = .ok (.iconst 1, 1) := by decide +kernel
theorem dX8_settle_24 : decode cX8_settle 24 = .ok (.goto 4, 3) := by decide +kernel
theorem dX8_settle_27 : decode cX8_settle 27 = .ok (.iconst 0, 1) := by decide +kernel
theorem dX8_settle_28 : decode cX8_settle 28 = .ok (.istore_n 1, 1) := by decide +kernel
theorem dX8_settle_29 : decode cX8_settle 29 = .ok (.aload_n 0, 1) := by decide +kernel
theorem dX8_settle_30 : decode cX8_settle 30 = .ok (.iconst 0, 1) := by decide +kernel
theorem dX8_settle_31 : decode cX8_settle 31 = .ok (.putfield 46, 3) := by decide +kernel
theorem dX8_settle_34 : decode cX8_settle 34 = .ok (.aload_n 0, 1) := by decide +kernel
theorem dX8_settle_35 : decode cX8_settle 35 = .ok (.dup, 1) := by decide +kernel
theorem dX8_settle_36 : decode cX8_settle 36 = .ok (.getfield 43, 3) := by decide +kernel
theorem dX8_settle_39 : decode cX8_settle 39 = .ok (.iconst 1, 1) := by decide +kernel
theorem dX8_settle_40 : decode cX8_settle 40 = .ok (.iadd, 1) := by decide +kernel
theorem dX8_settle_41 : decode cX8_settle 41 = .ok (.putfield 43, 3) := by decide +kernel
theorem dX8_settle_44 : decode cX8_settle 44 = .ok (.iload_n 1, 1) := by decide +kernel
theorem dX8_settle_45 : decode cX8_settle 45 = .ok (.ifCond .eq 16, 3) := by decide +kernel
theorem dX8_settle_48 : decode cX8_settle 48 = .ok (.aload_n 0, 1) := by decide +kernel
theorem dX8_settle_49 : decode cX8_settle 49 = .ok (.getfield 11, 3) := by decide +kernel
theorem dX8_settle_52 : decode cX8_settle 52 = .ok (.aload_n 0, 1) := by decide +kernel
theorem dX8_settle_53 : decode cX8_settle 53 = .ok (.getfield 19, 3) := by decide +kernel
theorem dX8_settle_56 : decode cX8_settle 56 = .ok (.iconst 1, 1) := by decide +kernel
theorem dX8_settle_57 : decode cX8_settle 57 = .ok (.bastore, 1) := by decide +kernel
theorem dX8_settle_58 : decode cX8_settle 58 = .ok (.goto 23, 3) := by decide +kernel
theorem dX8_settle_61 : decode cX8_settle 61 = .ok (.aload_n 0, 1) := by decide +kernel
theorem dX8_settle_62 : decode cX8_settle 62 = .ok (.aload_n 0, 1) := by decide +kernel
theorem dX8_settle_63 : decode cX8_settle 63 = .ok (.aload_n 0, 1) := by decide +kernel
theorem dX8_settle_64 : decode cX8_settle 64 = .ok (.getfield 19, 3) := by decide +kernel
theorem dX8_settle_67 : decode cX8_settle 67 = .ok (.invokevirtual 57, 3) := by decide +kernel
theorem dX8_settle_70 : decode cX8_settle 70 = .ok (.aload_n 0, 1) := by decide +kernel
theorem dX8_settle_71 : decode cX8_settle 71 = .ok (.aload_n 0, 1) := by decide +kernel
theorem dX8_settle_72 : decode cX8_settle 72 = .ok (.getfield 19, 3) := by decide +kernel
theorem dX8_settle_75 : decode cX8_settle 75 = .ok (.invokevirtual 61, 3) := by decide +kernel
theorem dX8_settle_78 : decode cX8_settle 78 = .ok (.invokevirtual 49, 3) := by decide +kernel
theorem dX8_settle_81 : decode cX8_settle 81 = .ok (.aload_n 0, 1) := by decide +kernel
theorem dX8_settle_82 : decode cX8_settle 82 = .ok (.aload_n 0, 1) := by decide +kernel
theorem dX8_settle_83 : decode cX8_settle 83 = .ok (.invokevirtual 53, 3) := by decide +kernel
theorem dX8_settle_86 : decode cX8_settle 86 = .ok (.putfield 19, 3) := by decide +kernel
theorem dX8_settle_89 : decode cX8_settle 89 = .ok (.iload_n 1, 1) := by decide +kernel
theorem dX8_settle_90 : decode cX8_settle 90 = .ok (.ifCond .eq 7, 3) := by decide +kernel
theorem dX8_settle_93 : decode cX8_settle 93 = .ok (.iconst 1, 1) := by decide +kernel
theorem dX8_settle_94 : decode cX8_settle 94 = .ok (.goto 4, 3) := by decide +kernel
theorem dX8_settle_97 : decode cX8_settle 97 = .ok (.iconst 2, 1) := by decide +kernel
theorem dX8_settle_98 : decode cX8_settle 98 = .ok (.ireturn, 1) := by decide +kernel
theorem dX8_makeBest_0 : decode cX8_makeBest 0 = .ok (.aload_n 0, 1) := by decide +kernel
theorem dX8_makeBest_1 : decode cX8_makeBest 1 = .ok (.iload_n 1, 1) := by decide +kernel
theorem dX8_makeBest_2 : decode cX8_makeBest 2 = .ok (.putfield 26, 3) := by decide +kernel
theorem dX8_makeBest_5 : decode cX8_makeBest 5 = .ok (.aload_n 0, 1) := by decide +kernel
theorem dX8_makeBest_6 : decode cX8_makeBest 6 = .ok (.iload_n 2, 1) := by decide +kernel
theorem dX8_makeBest_7 : decode cX8_makeBest 7 = .ok (.putfield 29, 3) := by decide +kernel
theorem dX8_makeBest_10 : decode cX8_makeBest 10 = .ok (.iconst 0, 1) := by decide +kernel
theorem dX8_makeBest_11 : decode cX8_makeBest 11 = .ok (.istore_n 3, 1) := by decide +kernel
theorem dX8_makeBest_12 : decode cX8_makeBest 12 = .ok (.iload_n 3, 1) := by decide +kernel
theorem dX8_makeBest_13 : decode cX8_makeBest 13 = .ok (.iconst 4, 1) := by decide +kernel
theorem dX8_makeBest_14 : decode cX8_makeBest 14 = .ok (.if_icmp .ge 16, 3) := by decide +kernel
theorem dX8_makeBest_17 : decode cX8_makeBest 17 = .ok (.aload_n 0, 1) := by decide +kernel
theorem dX8_makeBest_18 : decode cX8_makeBest 18 = .ok (.getfield 11, 3) := by decide +kernel
theorem dX8_makeBest_21 : decode cX8_makeBest 21 = .ok (.iload_n 3, 1) := by decide +kernel
theorem dX8_makeBest_22 : decode cX8_makeBest 22 = .ok (.iconst 0, 1) := by decide +kernel
theorem dX8_makeBest_23 : decode cX8_makeBest 23 = .ok (.bastore, 1) := by decide +kernel
theorem dX8_makeBest_24 : decode cX8_makeBest 24 = .ok (.iinc 3 1, 3) := by decide +kernel
theorem dX8_makeBest_27 : decode cX8_makeBest 27 = .ok (.goto (-15), 3) := by decide +kernel
theorem dX8_makeBest_30 : decode cX8_makeBest 30 = .ok (.return_, 1) := by decide +kernel
set_option maxRecDepth 20000 in
theorem ggX8_nextWay_X8_longOn : GoodIn wsX8_nextWay wsX8_longOn := goodIn_r _ [6, 7, 8, 21, 22, 23, 24, 25, 26, 27, 28, 29] (by decide +kernel) (by decide +kernel)
set_option maxRecDepth 20000 in
theorem gX8_nextWay_X8_longOn : GoodIn wsX8_nextWay (wsV RX8 57 RX8 yX8_longOn wsX8_longOn) := goodIn_app (goodIn_of _ (by decide +kernel)) ggX8_nextWay_X8_longOn
set_option maxRecDepth 20000 in
theorem ggX8_nextWay_X8_spreadOn : GoodIn wsX8_nextWay wsX8_spreadOn := goodIn_r _ [12, 13, 14, 21, 22, 23, 24, 25, 26, 27, 28, 29] (by decide +kernel) (by decide +kernel)
set_option maxRecDepth 20000 in
theorem gX8_nextWay_X8_spreadOn : GoodIn wsX8_nextWay (wsV RX8 61 RX8 yX8_spreadOn wsX8_spreadOn) := goodIn_app (goodIn_of _ (by decide +kernel)) ggX8_nextWay_X8_spreadOn
set_option maxRecDepth 20000 in
theorem ggX8_nextWay_X8_isOnGrid : GoodIn wsX8_nextWay wsX8_isOnGrid := goodIn_r _ [17, 18, 19, 20] (by decide +kernel) (by decide +kernel)
set_option maxRecDepth 20000 in
theorem gX8_nextWay_X8_isOnGrid : GoodIn wsX8_nextWay (va_wsS RX8 32 yX8_isOnGrid wsX8_isOnGrid) := goodIn_app (goodIn_of _ (by decide +kernel)) ggX8_nextWay_X8_isOnGrid
theorem dX8_nextWay_0 : decode cX8_nextWay 0 = .ok (.iconst 0, 1) := by decide +kernel
theorem dX8_nextWay_1 : decode cX8_nextWay 1 = .ok (.istore_n 1, 1) := by decide +kernel
theorem dX8_nextWay_2 : decode cX8_nextWay 2 = .ok (.iload_n 1, 1) := by decide +kernel
theorem dX8_nextWay_3 : decode cX8_nextWay 3 = .ok (.iconst 4, 1) := by decide +kernel
theorem dX8_nextWay_4 : decode cX8_nextWay 4 = .ok (.if_icmp .ge 36, 3) := by decide +kernel
theorem dX8_nextWay_7 : decode cX8_nextWay 7 = .ok (.aload_n 0, 1) := by decide +kernel
theorem dX8_nextWay_8 : decode cX8_nextWay 8 = .ok (.getfield 11, 3) := by decide +kernel
theorem dX8_nextWay_11 : decode cX8_nextWay 11 = .ok (.iload_n 1, 1) := by decide +kernel
theorem dX8_nextWay_12 : decode cX8_nextWay 12 = .ok (.baload, 1) := by decide +kernel
theorem dX8_nextWay_13 : decode cX8_nextWay 13 = .ok (.ifCond .ne 21, 3) := by decide +kernel
theorem dX8_nextWay_16 : decode cX8_nextWay 16 = .ok (.aload_n 0, 1) := by decide +kernel
theorem dX8_nextWay_17 : decode cX8_nextWay 17 = .ok (.iload_n 1, 1) := by decide +kernel
theorem dX8_nextWay_18 : decode cX8_nextWay 18 = .ok (.invokevirtual 57, 3) := by decide +kernel
theorem dX8_nextWay_21 : decode cX8_nextWay 21 = .ok (.aload_n 0, 1) := by decide +kernel
theorem dX8_nextWay_22 : decode cX8_nextWay 22 = .ok (.iload_n 1, 1) := by decide +kernel
theorem dX8_nextWay_23 : decode cX8_nextWay 23 = .ok (.invokevirtual 61, 3) := by decide +kernel
theorem dX8_nextWay_26 : decode cX8_nextWay 26 = .ok (.invokestatic 32, 3) := by decide +kernel
theorem dX8_nextWay_29 : decode cX8_nextWay 29 = .ok (.ifCond .eq 5, 3) := by decide +kernel
theorem dX8_nextWay_32 : decode cX8_nextWay 32 = .ok (.iload_n 1, 1) := by decide +kernel
theorem dX8_nextWay_33 : decode cX8_nextWay 33 = .ok (.ireturn, 1) := by decide +kernel
theorem dX8_nextWay_34 : decode cX8_nextWay 34 = .ok (.iinc 1 1, 3) := by decide +kernel
theorem dX8_nextWay_37 : decode cX8_nextWay 37 = .ok (.goto (-35), 3) := by decide +kernel
theorem dX8_nextWay_40 : decode cX8_nextWay 40 = .ok (.iconst (-1), 1) := by decide +kernel
theorem dX8_nextWay_41 : decode cX8_nextWay 41 = .ok (.ireturn, 1) := by decide +kernel
theorem dX8_longOn_0 : decode cX8_longOn 0 = .ok (.aload_n 0, 1) := by decide +kernel
theorem dX8_longOn_1 : decode cX8_longOn 1 = .ok (.getfield 26, 3) := by decide +kernel
theorem dX8_longOn_4 : decode cX8_longOn 4 = .ok (.getstatic 72, 3) := by decide +kernel
theorem dX8_longOn_7 : decode cX8_longOn 7 = .ok (.iload_n 1, 1) := by decide +kernel
theorem dX8_longOn_8 : decode cX8_longOn 8 = .ok (.iaload, 1) := by decide +kernel
theorem dX8_longOn_9 : decode cX8_longOn 9 = .ok (.iadd, 1) := by decide +kernel
theorem dX8_longOn_10 : decode cX8_longOn 10 = .ok (.ireturn, 1) := by decide +kernel
theorem dX8_spreadOn_0 : decode cX8_spreadOn 0 = .ok (.aload_n 0, 1) := by decide +kernel
theorem dX8_spreadOn_1 : decode cX8_spreadOn 1 = .ok (.getfield 29, 3) := by decide +kernel
theorem dX8_spreadOn_4 : decode cX8_spreadOn 4 = .ok (.getstatic 76, 3) := by decide +kernel
theorem dX8_spreadOn_7 : decode cX8_spreadOn 7 = .ok (.iload_n 1, 1) := by decide +kernel
theorem dX8_spreadOn_8 : decode cX8_spreadOn 8 = .ok (.iaload, 1) := by decide +kernel
theorem dX8_spreadOn_9 : decode cX8_spreadOn 9 = .ok (.iadd, 1) := by decide +kernel
theorem dX8_spreadOn_10 : decode cX8_spreadOn 10 = .ok (.ireturn, 1) := by decide +kernel
set_option maxRecDepth 20000 in
theorem ggX8_isOnGrid_X10_within : GoodIn wsX8_isOnGrid wsX10_within := goodIn_r _ [3] (by decide +kernel) (by decide +kernel)
set_option maxRecDepth 20000 in
theorem gX8_isOnGrid_X10_within_n36 : GoodIn wsX8_isOnGrid (wsX10_within) := ggX8_isOnGrid_X10_within
theorem dX8_isOnGrid_0 : decode cX8_isOnGrid 0 = .ok (.iload_n 0, 1) := by decide +kernel
theorem dX8_isOnGrid_1 : decode cX8_isOnGrid 1 = .ok (.iconst 0, 1) := by decide +kernel
theorem dX8_isOnGrid_2 : decode cX8_isOnGrid 2 = .ok (.bipush 10, 2) := by decide +kernel
theorem dX8_isOnGrid_4 : decode cX8_isOnGrid 4 = .ok (.invokestatic 36, 3) := by decide +kernel
theorem dX8_isOnGrid_7 : decode cX8_isOnGrid 7 = .ok (.ifCond .eq 16, 3) := by decide +kernel
theorem dX8_isOnGrid_10 : decode cX8_isOnGrid 10 = .ok (.iload_n 1, 1) := by decide +kernel
theorem dX8_isOnGrid_11 : decode cX8_isOnGrid 11 = .ok (.iconst 0, 1) := by decide +kernel
theorem dX8_isOnGrid_12 : decode cX8_isOnGrid 12 = .ok (.iconst 2, 1) := by decide +kernel
theorem dX8_isOnGrid_13 : decode cX8_isOnGrid 13 = .ok (.invokestatic 36, 3) := by decide +kernel
theorem dX8_isOnGrid_16 : decode cX8_isOnGrid 16 = .ok (.ifCond .eq 7, 3) := by decide +kernel
theorem dX8_isOnGrid_19 : decode cX8_isOnGrid 19 = .ok (.iconst 1, 1) := by decide +kernel
theorem dX8_isOnGrid_20 : decode cX8_isOnGrid 20 = .ok (.goto 4, 3) := by decide +kernel
theorem dX8_isOnGrid_23 : decode cX8_isOnGrid 23 = .ok (.iconst 0, 1) := by decide +kernel
theorem dX8_isOnGrid_24 : decode cX8_isOnGrid 24 = .ok (.ireturn, 1) := by decide +kernel
theorem dX9_init_0 : decode cX9_init 0 = .ok (.aload_n 0, 1) := by decide +kernel
theorem dX9_init_1 : decode cX9_init 1 = .ok (.invokespecial 3, 3) := by decide +kernel
theorem dX9_init_4 : decode cX9_init 4 = .ok (.aload_n 0, 1) := by decide +kernel
theorem dX9_init_5 : decode cX9_init 5 = .ok (.sipush 1600, 3) := by decide +kernel
theorem dX9_init_8 : decode cX9_init 8 = .ok (.newarray .int, 2) := by decide +kernel
theorem dX9_init_10 : decode cX9_init 10 = .ok (.putfield 9, 3) := by decide +kernel
theorem dX9_init_13 : decode cX9_init 13 = .ok (.aload_n 0, 1) := by decide +kernel
theorem dX9_init_14 : decode cX9_init 14 = .ok (.bipush 80, 2) := by decide +kernel
theorem dX9_init_16 : decode cX9_init 16 = .ok (.newarray .int, 2) := by decide +kernel
theorem dX9_init_18 : decode cX9_init 18 = .ok (.putfield 15, 3) := by decide +kernel
theorem dX9_init_21 : decode cX9_init 21 = .ok (.aload_n 0, 1) := by decide +kernel
theorem dX9_init_22 : decode cX9_init 22 = .ok (.bipush 80, 2) := by decide +kernel
theorem dX9_init_24 : decode cX9_init 24 = .ok (.newarray .int, 2) := by decide +kernel
theorem dX9_init_26 : decode cX9_init 26 = .ok (.putfield 18, 3) := by decide +kernel
theorem dX9_init_29 : decode cX9_init 29 = .ok (.return_, 1) := by decide +kernel
theorem dX9_count_0 : decode cX9_count 0 = .ok (.aload_n 0, 1) := by decide +kernel
theorem dX9_count_1 : decode cX9_count 1 = .ok (.getfield 21, 3) := by decide +kernel
theorem dX9_count_4 : decode cX9_count 4 = .ok (.ireturn, 1) := by decide +kernel
theorem dX9_has_0 : decode cX9_has 0 = .ok (.iload_n 1, 1) := by decide +kernel
theorem dX9_has_1 : decode cX9_has 1 = .ok (.ifCond .lt 15, 3) := by decide +kernel
theorem dX9_has_4 : decode cX9_has 4 = .ok (.iload_n 1, 1) := by decide +kernel
theorem dX9_has_5 : decode cX9_has 5 = .ok (.aload_n 0, 1) := by decide +kernel
theorem dX9_has_6 : decode cX9_has 6 = .ok (.getfield 21, 3) := by decide +kernel
theorem dX9_has_9 : decode cX9_has 9 = .ok (.if_icmp .ge 7, 3) := by decide +kernel
theorem dX9_has_12 : decode cX9_has 12 = .ok (.iconst 1, 1) := by decide +kernel
theorem dX9_has_13 : decode cX9_has 13 = .ok (.goto 4, 3) := by decide +kernel
theorem dX9_has_16 : decode cX9_has 16 = .ok (.iconst 0, 1) := by decide +kernel
theorem dX9_has_17 : decode cX9_has 17 = .ok (.ireturn, 1) := by decide +kernel
set_option maxRecDepth 20000 in
theorem ggX9_letters_X9_has : GoodIn wsX9_letters wsX9_has := goodIn_r _ [6, 7, 8, 9, 10, 11] (by decide +kernel) (by decide +kernel)
set_option maxRecDepth 20000 in
theorem gX9_letters_X9_has : GoodIn wsX9_letters (wsV RX9 25 RX9 yX9_has wsX9_has) := goodIn_app (goodIn_of _ (by decide +kernel)) ggX9_letters_X9_has
theorem dX9_letters_0 : decode cX9_letters 0 = .ok (.aload_n 0, 1) := by decide +kernel
theorem dX9_letters_1 : decode cX9_letters 1 = .ok (.iload_n 1, 1) := by decide +kernel
theorem dX9_letters_2 : decode cX9_letters 2 = .ok (.invokevirtual 25, 3) := by decide +kernel
theorem dX9_letters_5 : decode cX9_letters 5 = .ok (.ifCond .eq 12, 3) := by decide +kernel
theorem dX9_letters_8 : decode cX9_letters 8 = .ok (.aload_n 0, 1) := by decide +kernel
theorem dX9_letters_9 : decode cX9_letters 9 = .ok (.getfield 15, 3) := by decide +kernel
theorem dX9_letters_12 : decode cX9_letters 12 = .ok (.iload_n 1, 1) := by decide +kernel
theorem dX9_letters_13 : decode cX9_letters 13 = .ok (.iaload, 1) := by decide +kernel
theorem dX9_letters_14 : decode cX9_letters 14 = .ok (.goto 4, 3) := by decide +kernel
theorem dX9_letters_17 : decode cX9_letters 17 = .ok (.iconst (-1), 1) := by decide +kernel
theorem dX9_letters_18 : decode cX9_letters 18 = .ok (.ireturn, 1) := by decide +kernel
set_option maxRecDepth 20000 in
theorem ggX9_behind_X9_has : GoodIn wsX9_behind wsX9_has := goodIn_r _ [6, 7, 8, 9, 10, 11] (by decide +kernel) (by decide +kernel)
set_option maxRecDepth 20000 in
theorem gX9_behind_X9_has : GoodIn wsX9_behind (wsV RX9 25 RX9 yX9_has wsX9_has) := goodIn_app (goodIn_of _ (by decide +kernel)) ggX9_behind_X9_has
theorem dX9_behind_0 : decode cX9_behind 0 = .ok (.aload_n 0, 1) := by decide +kernel
theorem dX9_behind_1 : decode cX9_behind 1 = .ok (.iload_n 1, 1) := by decide +kernel
theorem dX9_behind_2 : decode cX9_behind 2 = .ok (.invokevirtual 25, 3) := by decide +kernel
theorem dX9_behind_5 : decode cX9_behind 5 = .ok (.ifCond .eq 12, 3) := by decide +kernel
theorem dX9_behind_8 : decode cX9_behind 8 = .ok (.aload_n 0, 1) := by decide +kernel
theorem dX9_behind_9 : decode cX9_behind 9 = .ok (.getfield 18, 3) := by decide +kernel
theorem dX9_behind_12 : decode cX9_behind 12 = .ok (.iload_n 1, 1) := by decide +kernel
theorem dX9_behind_13 : decode cX9_behind 13 = .ok (.iaload, 1) := by decide +kernel
theorem dX9_behind_14 : decode cX9_behind 14 = .ok (.goto 4, 3) := by decide +kernel
theorem dX9_behind_17 : decode cX9_behind 17 = .ok (.iconst (-1), 1) := by decide +kernel
theorem dX9_behind_18 : decode cX9_behind 18 = .ok (.ireturn, 1) := by decide +kernel
set_option maxRecDepth 20000 in
theorem ggX9_goesOn_X9_behind : GoodIn wsX9_goesOn wsX9_behind := goodIn_r _ [5, 6, 7, 8, 9, 4, 10, 11, 12, 13, 14, 15] (by decide +kernel) (by decide +kernel)
set_option maxRecDepth 20000 in
theorem gX9_goesOn_X9_behind : GoodIn wsX9_goesOn (wsV RX9 29 RX9 yX9_behind wsX9_behind) := goodIn_app (goodIn_of _ (by decide +kernel)) ggX9_goesOn_X9_behind
theorem dX9_goesOn_0 : decode cX9_goesOn 0 = .ok (.aload_n 0, 1) := by decide +kernel
theorem dX9_goesOn_1 : decode cX9_goesOn 1 = .ok (.iload_n 1, 1) := by decide +kernel
theorem dX9_goesOn_2 : decode cX9_goesOn 2 = .ok (.invokevirtual 29, 3) := by decide +kernel
theorem dX9_goesOn_5 : decode cX9_goesOn 5 = .ok (.bipush 45, 2) := by decide +kernel
theorem dX9_goesOn_7 : decode cX9_goesOn 7 = .ok (.if_icmp .ne 7, 3) := by decide +kernel
theorem dX9_goesOn_10 : decode cX9_goesOn 10 = .ok (.iconst 1, 1) := by decide +kernel
theorem dX9_goesOn_11 : decode cX9_goesOn 11 = .ok (.goto 4, 3) := by decide +kernel
theorem dX9_goesOn_14 : decode cX9_goesOn 14 = .ok (.iconst 0, 1) := by decide +kernel
theorem dX9_goesOn_15 : decode cX9_goesOn 15 = .ok (.ireturn, 1) := by decide +kernel
set_option maxRecDepth 20000 in
theorem ggX9_isWholeWord_X9_has : GoodIn wsX9_isWholeWord wsX9_has := goodIn_r _ [5, 6, 16, 17, 18, 19] (by decide +kernel) (by decide +kernel)
set_option maxRecDepth 20000 in
theorem gX9_isWholeWord_X9_has : GoodIn wsX9_isWholeWord (wsV RX9 25 RX9 yX9_has wsX9_has) := goodIn_app (goodIn_of _ (by decide +kernel)) ggX9_isWholeWord_X9_has
set_option maxRecDepth 20000 in
theorem ggX9_isWholeWord_X9_goesOn : GoodIn wsX9_isWholeWord wsX9_goesOn := goodIn_r _ [10, 11, 12, 13, 4, 14, 15, 1, 2, 3, 5, 6, 16, 17, 18, 19] (by decide +kernel) (by decide +kernel)
set_option maxRecDepth 20000 in
theorem gX9_isWholeWord_X9_goesOn : GoodIn wsX9_isWholeWord (wsV RX9 32 RX9 yX9_goesOn wsX9_goesOn) := goodIn_app (goodIn_of _ (by decide +kernel)) ggX9_isWholeWord_X9_goesOn
theorem dX9_isWholeWord_0 : decode cX9_isWholeWord 0 = .ok (.aload_n 0, 1) := by decide +kernel
theorem dX9_isWholeWord_1 : decode cX9_isWholeWord 1 = .ok (.iload_n 1, 1) := by decide +kernel
theorem dX9_isWholeWord_2 : decode cX9_isWholeWord 2 = .ok (.invokevirtual 25, 3) := by decide +kernel
theorem dX9_isWholeWord_5 : decode cX9_isWholeWord 5 = .ok (.ifCond .eq 25, 3) := by decide +kernel
theorem dX9_isWholeWord_8 : decode cX9_isWholeWord 8 = .ok (.aload_n 0, 1) := by decide +kernel
theorem dX9_isWholeWord_9 : decode cX9_isWholeWord 9 = .ok (.iload_n 1, 1) := by decide +kernel
theorem dX9_isWholeWord_10 : decode cX9_isWholeWord 10 = .ok (.invokevirtual 32, 3) := by decide +kernel
theorem dX9_isWholeWord_13 : decode cX9_isWholeWord 13 = .ok (.ifCond .ne 17, 3) := by decide +kernel
theorem dX9_isWholeWord_16 : decode cX9_isWholeWord 16 = .ok (.aload_n 0, 1) := by decide +kernel
theorem dX9_isWholeWord_17 : decode cX9_isWholeWord 17 = .ok (.iload_n 1, 1) := by decide +kernel
theorem dX9_isWholeWord_18 : decode cX9_isWholeWord 18 = .ok (.iconst 1, 1) := by decide +kernel
theorem dX9_isWholeWord_19 : decode cX9_isWholeWord 19 = .ok (.isub, 1) := by decide +kernel
theorem dX9_isWholeWord_20 : decode cX9_isWholeWord 20 = .ok (.invokevirtual 32, 3) := by decide +kernel
theorem dX9_isWholeWord_23 : decode cX9_isWholeWord 23 = .ok (.ifCond .ne 7, 3) := by decide +kernel
theorem dX9_isWholeWord_26 : decode cX9_isWholeWord 26 = .ok (.iconst 1, 1) := by decide +kernel
theorem dX9_isWholeWord_27 : decode cX9_isWholeWord 27 = .ok (.goto 4, 3) := by decide +kernel
theorem dX9_isWholeWord_30 : decode cX9_isWholeWord 30 = .ok (.iconst 0, 1) := by decide +kernel
theorem dX9_isWholeWord_31 : decode cX9_isWholeWord 31 = .ok (.ireturn, 1) := by decide +kernel
set_option maxRecDepth 20000 in
theorem ggX9_wordNumber_X9_goesOn : GoodIn wsX9_wordNumber wsX9_goesOn := goodIn_r _ [6, 7, 8, 9, 5, 10, 11, 12, 13, 14, 15, 1, 16, 17, 18, 19] (by decide +kernel) (by decide +kernel)
set_option maxRecDepth 20000 in
theorem gX9_wordNumber_X9_goesOn : GoodIn wsX9_wordNumber (wsV RX9 32 RX9 yX9_goesOn wsX9_goesOn) := goodIn_app (goodIn_of _ (by decide +kernel)) ggX9_wordNumber_X9_goesOn
theorem dX9_wordNumber_0 : decode cX9_wordNumber 0 = .ok (.iconst 0, 1) := by decide +kernel
theorem dX9_wordNumber_1 : decode cX9_wordNumber 1 = .ok (.istore_n 2, 1) := by decide +kernel
theorem dX9_wordNumber_2 : decode cX9_wordNumber 2 = .ok (.iconst 0, 1) := by decide +kernel
theorem dX9_wordNumber_3 : decode cX9_wordNumber 3 = .ok (.istore_n 3, 1) := by decide +kernel
theorem dX9_wordNumber_4 : decode cX9_wordNumber 4 = .ok (.iload_n 3, 1) := by decide +kernel
theorem dX9_wordNumber_5 : decode cX9_wordNumber 5 = .ok (.iload_n 1, 1) := by decide +kernel
theorem dX9_wordNumber_6 : decode cX9_wordNumber 6 = .ok (.if_icmp .ge 28, 3) := by decide +kernel
theorem dX9_wordNumber_9 : decode cX9_wordNumber 9 = .ok (.iload_n 3, 1) := by decide +kernel
theorem dX9_wordNumber_10 : decode cX9_wordNumber 10 = .ok (.aload_n 0, 1) := by decide +kernel
theorem dX9_wordNumber_11 : decode cX9_wordNumber 11 = .ok (.getfield 21, 3) := by decide +kernel
theorem dX9_wordNumber_14 : decode cX9_wordNumber 14 = .ok (.if_icmp .ge 20, 3) := by decide +kernel
theorem dX9_wordNumber_17 : decode cX9_wordNumber 17 = .ok (.aload_n 0, 1) := by decide +kernel
theorem dX9_wordNumber_18 : decode cX9_wordNumber 18 = .ok (.iload_n 3, 1) := by decide +kernel
theorem dX9_wordNumber_19 : decode cX9_wordNumber 19 = .ok (.invokevirtual 32, 3) := by decide +kernel
theorem dX9_wordNumber_22 : decode cX9_wordNumber 22 = .ok (.ifCond .ne 6, 3) := by decide +kernel
theorem dX9_wordNumber_25 : decode cX9_wordNumber 25 = .ok (.iinc 2 1, 3) := by decide +kernel
theorem dX9_wordNumber_28 : decode cX9_wordNumber 28 = .ok (.iinc 3 1, 3) := by decide +kernel
theorem dX9_wordNumber_31 : decode cX9_wordNumber 31 = .ok (.goto (-27), 3) := by decide +kernel
theorem dX9_wordNumber_34 : decode cX9_wordNumber 34 = .ok (.iload_n 2, 1) := by decide +kernel
theorem dX9_wordNumber_35 : decode cX9_wordNumber 35 = .ok (.ireturn, 1) := by decide +kernel
set_option maxRecDepth 20000 in
theorem ggX9_signs_X9_has : GoodIn wsX9_signs wsX9_has := goodIn_r _ [7, 8, 9, 10, 11, 12] (by decide +kernel) (by decide +kernel)
set_option maxRecDepth 20000 in
theorem gX9_signs_X9_has : GoodIn wsX9_signs (wsV RX9 25 RX9 yX9_has wsX9_has) := goodIn_app (goodIn_of _ (by decide +kernel)) ggX9_signs_X9_has
theorem dX9_signs_0 : decode cX9_signs 0 = .ok (.aload_n 0, 1) := by decide +kernel
theorem dX9_signs_1 : decode cX9_signs 1 = .ok (.iload_n 1, 1) := by decide +kernel
theorem dX9_signs_2 : decode cX9_signs 2 = .ok (.invokevirtual 25, 3) := by decide +kernel
theorem dX9_signs_5 : decode cX9_signs 5 = .ok (.ifCond .ne 5, 3) := by decide +kernel
theorem dX9_signs_8 : decode cX9_signs 8 = .ok (.iconst 0, 1) := by decide +kernel
theorem dX9_signs_9 : decode cX9_signs 9 = .ok (.ireturn, 1) := by decide +kernel
theorem dX9_signs_10 : decode cX9_signs 10 = .ok (.aload_n 0, 1) := by decide +kernel
theorem dX9_signs_11 : decode cX9_signs 11 = .ok (.getfield 18, 3) := by decide +kernel
theorem dX9_signs_14 : decode cX9_signs 14 = .ok (.iload_n 1, 1) := by decide +kernel
theorem dX9_signs_15 : decode cX9_signs 15 = .ok (.iaload, 1) := by decide +kernel
theorem dX9_signs_16 : decode cX9_signs 16 = .ok (.bipush 44, 2) := by decide +kernel
theorem dX9_signs_18 : decode cX9_signs 18 = .ok (.if_icmp .eq 14, 3) := by decide +kernel
theorem dX9_signs_21 : decode cX9_signs 21 = .ok (.aload_n 0, 1) := by decide +kernel
theorem dX9_signs_22 : decode cX9_signs 22 = .ok (.getfield 18, 3) := by decide +kernel
theorem dX9_signs_25 : decode cX9_signs 25 = .ok (.iload_n 1, 1) := by decide +kernel
theorem dX9_signs_26 : decode cX9_signs 26 = .ok (.iaload, 1) := by decide +kernel
theorem dX9_signs_27 : decode cX9_signs 27 = .ok (.bipush 46, 2) := by decide +kernel
theorem dX9_signs_29 : decode cX9_signs 29 = .ok (.if_icmp .ne 7, 3) := by decide +kernel
theorem dX9_signs_32 : decode cX9_signs 32 = .ok (.iconst 1, 1) := by decide +kernel
theorem dX9_signs_33 : decode cX9_signs 33 = .ok (.goto 4, 3) := by decide +kernel
theorem dX9_signs_36 : decode cX9_signs 36 = .ok (.iconst 0, 1) := by decide +kernel
theorem dX9_signs_37 : decode cX9_signs 37 = .ok (.istore_n 2, 1) := by decide +kernel
theorem dX9_signs_38 : decode cX9_signs 38 = .ok (.iload_n 2, 1) := by decide +kernel
theorem dX9_signs_39 : decode cX9_signs 39 = .ok (.ifCond .eq 14, 3) := by decide +kernel
theorem dX9_signs_42 : decode cX9_signs 42 = .ok (.aload_n 0, 1) := by decide +kernel
theorem dX9_signs_43 : decode cX9_signs 43 = .ok (.getfield 15, 3) := by decide +kernel
theorem dX9_signs_46 : decode cX9_signs 46 = .ok (.iload_n 1, 1) := by decide +kernel
theorem dX9_signs_47 : decode cX9_signs 47 = .ok (.iaload, 1) := by decide +kernel
theorem dX9_signs_48 : decode cX9_signs 48 = .ok (.iconst 1, 1) := by decide +kernel
theorem dX9_signs_49 : decode cX9_signs 49 = .ok (.iadd, 1) := by decide +kernel
theorem dX9_signs_50 : decode cX9_signs 50 = .ok (.goto 9, 3) := by decide +kernel
theorem dX9_signs_53 : decode cX9_signs 53 = .ok (.aload_n 0, 1) := by decide +kernel
theorem dX9_signs_54 : decode cX9_signs 54 = .ok (.getfield 15, 3) := by decide +kernel
theorem dX9_signs_57 : decode cX9_signs 57 = .ok (.iload_n 1, 1) := by decide +kernel
theorem dX9_signs_58 : decode cX9_signs 58 = .ok (.iaload, 1) := by decide +kernel
theorem dX9_signs_59 : decode cX9_signs 59 = .ok (.ireturn, 1) := by decide +kernel
set_option maxRecDepth 20000 in
theorem ggX9_signAt_X9_has : GoodIn wsX9_signAt wsX9_has := goodIn_r _ [8, 9, 10, 11, 12, 13] (by decide +kernel) (by decide +kernel)
set_option maxRecDepth 20000 in
theorem gX9_signAt_X9_has : GoodIn wsX9_signAt (wsV RX9 25 RX9 yX9_has wsX9_has) := goodIn_app (goodIn_of _ (by decide +kernel)) ggX9_signAt_X9_has
theorem dX9_signAt_0 : decode cX9_signAt 0 = .ok (.aload_n 0, 1) := by decide +kernel
theorem dX9_signAt_1 : decode cX9_signAt 1 = .ok (.iload_n 1, 1) := by decide +kernel
theorem dX9_signAt_2 : decode cX9_signAt 2 = .ok (.invokevirtual 25, 3) := by decide +kernel
theorem dX9_signAt_5 : decode cX9_signAt 5 = .ok (.ifCond .eq 17, 3) := by decide +kernel
theorem dX9_signAt_8 : decode cX9_signAt 8 = .ok (.iload_n 2, 1) := by decide +kernel
theorem dX9_signAt_9 : decode cX9_signAt 9 = .ok (.ifCond .lt 13, 3) := by decide +kernel
theorem dX9_signAt_12 : decode cX9_signAt 12 = .ok (.iload_n 2, 1) := by decide +kernel
theorem dX9_signAt_13 : decode cX9_signAt 13 = .ok (.aload_n 0, 1) := by decide +kernel
theorem dX9_signAt_14 : decode cX9_signAt 14 = .ok (.getfield 15, 3) := by decide +kernel
theorem dX9_signAt_17 : decode cX9_signAt 17 = .ok (.iload_n 1, 1) := by decide +kernel
theorem dX9_signAt_18 : decode cX9_signAt 18 = .ok (.iaload, 1) := by decide +kernel
theorem dX9_signAt_19 : decode cX9_signAt 19 = .ok (.if_icmp .le 5, 3) := by decide +kernel
theorem dX9_signAt_22 : decode cX9_signAt 22 = .ok (.iconst (-1), 1) := by decide +kernel
theorem dX9_signAt_23 : decode cX9_signAt 23 = .ok (.ireturn, 1) := by decide +kernel
theorem dX9_signAt_24 : decode cX9_signAt 24 = .ok (.iload_n 2, 1) := by decide +kernel
theorem dX9_signAt_25 : decode cX9_signAt 25 = .ok (.aload_n 0, 1) := by decide +kernel
theorem dX9_signAt_26 : decode cX9_signAt 26 = .ok (.getfield 15, 3) := by decide +kernel
theorem dX9_signAt_29 : decode cX9_signAt 29 = .ok (.iload_n 1, 1) := by decide +kernel
theorem dX9_signAt_30 : decode cX9_signAt 30 = .ok (.iaload, 1) := by decide +kernel
theorem dX9_signAt_31 : decode cX9_signAt 31 = .ok (.if_icmp .ge 17, 3) := by decide +kernel
theorem dX9_signAt_34 : decode cX9_signAt 34 = .ok (.aload_n 0, 1) := by decide +kernel
theorem dX9_signAt_35 : decode cX9_signAt 35 = .ok (.getfield 9, 3) := by decide +kernel
theorem dX9_signAt_38 : decode cX9_signAt 38 = .ok (.iload_n 1, 1) := by decide +kernel
theorem dX9_signAt_39 : decode cX9_signAt 39 = .ok (.bipush 20, 2) := by decide +kernel
theorem dX9_signAt_41 : decode cX9_signAt 41 = .ok (.imul, 1) := by decide +kernel
theorem dX9_signAt_42 : decode cX9_signAt 42 = .ok (.iload_n 2, 1) := by decide +kernel
theorem dX9_signAt_43 : decode cX9_signAt 43 = .ok (.iadd, 1) := by decide +kernel
theorem dX9_signAt_44 : decode cX9_signAt 44 = .ok (.iaload, 1) := by decide +kernel
theorem dX9_signAt_45 : decode cX9_signAt 45 = .ok (.goto 9, 3) := by decide +kernel
theorem dX9_signAt_48 : decode cX9_signAt 48 = .ok (.aload_n 0, 1) := by decide +kernel
theorem dX9_signAt_49 : decode cX9_signAt 49 = .ok (.getfield 18, 3) := by decide +kernel
theorem dX9_signAt_52 : decode cX9_signAt 52 = .ok (.iload_n 1, 1) := by decide +kernel
theorem dX9_signAt_53 : decode cX9_signAt 53 = .ok (.iaload, 1) := by decide +kernel
theorem dX9_signAt_54 : decode cX9_signAt 54 = .ok (.ireturn, 1) := by decide +kernel
set_option maxRecDepth 20000 in
theorem ggX9_fitAlone_X9_signs : GoodIn wsX9_fitAlone wsX9_signs := goodIn_r _ [6, 7, 8, 9, 10, 11, 5, 12, 1, 21, 22, 23, 24] (by decide +kernel) (by decide +kernel)
set_option maxRecDepth 20000 in
theorem gX9_fitAlone_X9_signs : GoodIn wsX9_fitAlone (wsV RX9 35 RX9 yX9_signs wsX9_signs) := goodIn_app (goodIn_of _ (by decide +kernel)) ggX9_fitAlone_X9_signs
set_option maxRecDepth 20000 in
theorem ggX9_fitAlone_X9_goesOn : GoodIn wsX9_fitAlone wsX9_goesOn := goodIn_r _ [16, 17, 18, 19, 5, 20, 7, 9, 10, 11, 12, 1, 21, 22, 23, 24] (by decide +kernel) (by decide +kernel)
set_option maxRecDepth 20000 in
theorem gX9_fitAlone_X9_goesOn : GoodIn wsX9_fitAlone (wsV RX9 32 RX9 yX9_goesOn wsX9_goesOn) := goodIn_app (goodIn_of _ (by decide +kernel)) ggX9_fitAlone_X9_goesOn
theorem dX9_fitAlone_0 : decode cX9_fitAlone 0 = .ok (.iconst 0, 1) := by decide +kernel
theorem dX9_fitAlone_1 : decode cX9_fitAlone 1 = .ok (.istore_n 2, 1) := by decide +kernel
theorem dX9_fitAlone_2 : decode cX9_fitAlone 2 = .ok (.iload_n 2, 1) := by decide +kernel
theorem dX9_fitAlone_3 : decode cX9_fitAlone 3 = .ok (.aload_n 0, 1) := by decide +kernel
theorem dX9_fitAlone_4 : decode cX9_fitAlone 4 = .ok (.getfield 21, 3) := by decide +kernel
theorem dX9_fitAlone_7 : decode cX9_fitAlone 7 = .ok (.if_icmp .ge 34, 3) := by decide +kernel
theorem dX9_fitAlone_10 : decode cX9_fitAlone 10 = .ok (.aload_n 0, 1) := by decide +kernel
theorem dX9_fitAlone_11 : decode cX9_fitAlone 11 = .ok (.iload_n 2, 1) := by decide +kernel
theorem dX9_fitAlone_12 : decode cX9_fitAlone 12 = .ok (.invokevirtual 35, 3) := by decide +kernel
theorem dX9_fitAlone_15 : decode cX9_fitAlone 15 = .ok (.aload_n 0, 1) := by decide +kernel
theorem dX9_fitAlone_16 : decode cX9_fitAlone 16 = .ok (.iload_n 2, 1) := by decide +kernel
theorem dX9_fitAlone_17 : decode cX9_fitAlone 17 = .ok (.invokevirtual 32, 3) := by decide +kernel
theorem dX9_fitAlone_20 : decode cX9_fitAlone 20 = .ok (.ifCond .eq 7, 3) := by decide +kernel
theorem dX9_fitAlone_23 : decode cX9_fitAlone 23 = .ok (.iconst 1, 1) := by decide +kernel
theorem dX9_fitAlone_24 : decode cX9_fitAlone 24 = .ok (.goto 4, 3) := by decide +kernel
theorem dX9_fitAlone_27 : decode cX9_fitAlone 27 = .ok (.iconst 0, 1) := by decide +kernel
theorem dX9_fitAlone_28 : decode cX9_fitAlone 28 = .ok (.iadd, 1) := by decide +kernel
theorem dX9_fitAlone_29 : decode cX9_fitAlone 29 = .ok (.iload_n 1, 1) := by decide +kernel
theorem dX9_fitAlone_30 : decode cX9_fitAlone 30 = .ok (.if_icmp .le 5, 3) := by decide +kernel
theorem dX9_fitAlone_33 : decode cX9_fitAlone 33 = .ok (.iconst 0, 1) := by decide +kernel
theorem dX9_fitAlone_34 : decode cX9_fitAlone 34 = .ok (.ireturn, 1) := by decide +kernel
theorem dX9_fitAlone_35 : decode cX9_fitAlone 35 = .ok (.iinc 2 1, 3) := by decide +kernel
theorem dX9_fitAlone_38 : decode cX9_fitAlone 38 = .ok (.goto (-36), 3) := by decide +kernel
theorem dX9_fitAlone_41 : decode cX9_fitAlone 41 = .ok (.iconst 1, 1) := by decide +kernel
theorem dX9_fitAlone_42 : decode cX9_fitAlone 42 = .ok (.ireturn, 1) := by decide +kernel
theorem dX9_clear_0 : decode cX9_clear 0 = .ok (.aload_n 0, 1) := by decide +kernel
theorem dX9_clear_1 : decode cX9_clear 1 = .ok (.iconst 0, 1) := by decide +kernel
theorem dX9_clear_2 : decode cX9_clear 2 = .ok (.putfield 21, 3) := by decide +kernel
theorem dX9_clear_5 : decode cX9_clear 5 = .ok (.return_, 1) := by decide +kernel
theorem dX9_open_0 : decode cX9_open 0 = .ok (.aload_n 0, 1) := by decide +kernel
theorem dX9_open_1 : decode cX9_open 1 = .ok (.getfield 21, 3) := by decide +kernel
theorem dX9_open_4 : decode cX9_open 4 = .ok (.bipush 80, 2) := by decide +kernel
theorem dX9_open_6 : decode cX9_open 6 = .ok (.if_icmp .lt 5, 3) := by decide +kernel
theorem dX9_open_9 : decode cX9_open 9 = .ok (.iconst 0, 1) := by decide +kernel
theorem dX9_open_10 : decode cX9_open 10 = .ok (.ireturn, 1) := by decide +kernel
theorem dX9_open_11 : decode cX9_open 11 = .ok (.aload_n 0, 1) := by decide +kernel
theorem dX9_open_12 : decode cX9_open 12 = .ok (.getfield 15, 3) := by decide +kernel
theorem dX9_open_15 : decode cX9_open 15 = .ok (.aload_n 0, 1) := by decide +kernel
theorem dX9_open_16 : decode cX9_open 16 = .ok (.getfield 21, 3) := by decide +kernel
theorem dX9_open_19 : decode cX9_open 19 = .ok (.iconst 0, 1) := by decide +kernel
theorem dX9_open_20 : decode cX9_open 20 = .ok (.iastore, 1) := by decide +kernel
theorem dX9_open_21 : decode cX9_open 21 = .ok (.aload_n 0, 1) := by decide +kernel
theorem dX9_open_22 : decode cX9_open 22 = .ok (.getfield 18, 3) := by decide +kernel
theorem dX9_open_25 : decode cX9_open 25 = .ok (.aload_n 0, 1) := by decide +kernel
theorem dX9_open_26 : decode cX9_open 26 = .ok (.getfield 21, 3) := by decide +kernel
theorem dX9_open_29 : decode cX9_open 29 = .ok (.bipush 32, 2) := by decide +kernel
theorem dX9_open_31 : decode cX9_open 31 = .ok (.iastore, 1) := by decide +kernel
theorem dX9_open_32 : decode cX9_open 32 = .ok (.aload_n 0, 1) := by decide +kernel
theorem dX9_open_33 : decode cX9_open 33 = .ok (.dup, 1) := by decide +kernel
theorem dX9_open_34 : decode cX9_open 34 = .ok (.getfield 21, 3) := by decide +kernel
theorem dX9_open_37 : decode cX9_open 37 = .ok (.iconst 1, 1) := by decide +kernel
theorem dX9_open_38 : decode cX9_open 38 = .ok (.iadd, 1) := by decide +kernel
theorem dX9_open_39 : decode cX9_open 39 = .ok (.putfield 21, 3) := by decide +kernel
theorem dX9_open_42 : decode cX9_open 42 = .ok (.iconst 1, 1) := by decide +kernel
theorem dX9_open_43 : decode cX9_open 43 = .ok (.ireturn, 1) := by decide +kernel
theorem dX9_addLetter_0 : decode cX9_addLetter 0 = .ok (.aload_n 0, 1) := by decide +kernel
theorem dX9_addLetter_1 : decode cX9_addLetter 1 = .ok (.getfield 21, 3) := by decide +kernel
theorem dX9_addLetter_4 : decode cX9_addLetter 4 = .ok (.iconst 1, 1) := by decide +kernel
theorem dX9_addLetter_5 : decode cX9_addLetter 5 = .ok (.isub, 1) := by decide +kernel
theorem dX9_addLetter_6 : decode cX9_addLetter 6 = .ok (.istore_n 2, 1) := by decide +kernel
theorem dX9_addLetter_7 : decode cX9_addLetter 7 = .ok (.iload_n 2, 1) := by decide +kernel
theorem dX9_addLetter_8 : decode cX9_addLetter 8 = .ok (.ifCond .lt 14, 3) := by decide +kernel
theorem dX9_addLetter_11 : decode cX9_addLetter 11 = .ok (.aload_n 0, 1) := by decide +kernel
theorem dX9_addLetter_12 : decode cX9_addLetter 12 = .ok (.getfield 15, 3) := by decide +kernel
theorem dX9_addLetter_15 : decode cX9_addLetter 15 = .ok (.iload_n 2, 1) := by decide +kernel
theorem dX9_addLetter_16 : decode cX9_addLetter 16 = .ok (.iaload, 1) := by decide +kernel
theorem dX9_addLetter_17 : decode cX9_addLetter 17 = .ok (.bipush 20, 2) := by decide +kernel
theorem dX9_addLetter_19 : decode cX9_addLetter 19 = .ok (.if_icmp .lt 5, 3) := by decide +kernel
theorem dX9_addLetter_22 : decode cX9_addLetter 22 = .ok (.iconst 0, 1) := by decide +kernel
theorem dX9_addLetter_23 : decode cX9_addLetter 23 = .ok (.ireturn, 1) := by decide +kernel
theorem dX9_addLetter_24 : decode cX9_addLetter 24 = .ok (.aload_n 0, 1) := by decide +kernel
theorem dX9_addLetter_25 : decode cX9_addLetter 25 = .ok (.getfield 9, 3) := by decide +kernel
theorem dX9_addLetter_28 : decode cX9_addLetter 28 = .ok (.iload_n 2, 1) := by decide +kernel
theorem dX9_addLetter_29 : decode cX9_addLetter 29 = .ok (.bipush 20, 2) := by decide +kernel
theorem dX9_addLetter_31 : decode cX9_addLetter 31 = .ok (.imul, 1) := by decide +kernel
theorem dX9_addLetter_32 : decode cX9_addLetter 32 = .ok (.aload_n 0, 1) := by decide +kernel
theorem dX9_addLetter_33 : decode cX9_addLetter 33 = .ok (.getfield 15, 3) := by decide +kernel
theorem dX9_addLetter_36 : decode cX9_addLetter 36 = .ok (.iload_n 2, 1) := by decide +kernel
theorem dX9_addLetter_37 : decode cX9_addLetter 37 = .ok (.iaload, 1) := by decide +kernel
theorem dX9_addLetter_38 : decode cX9_addLetter 38 = .ok (.iadd, 1) := by decide +kernel
theorem dX9_addLetter_39 : decode cX9_addLetter 39 = .ok (.iload_n 1, 1) := by decide +kernel
theorem dX9_addLetter_40 : decode cX9_addLetter 40 = .ok (.iastore, 1) := by decide +kernel
theorem dX9_addLetter_41 : decode cX9_addLetter 41 = .ok (.aload_n 0, 1) := by decide +kernel
theorem dX9_addLetter_42 : decode cX9_addLetter 42 = .ok (.getfield 15, 3) := by decide +kernel
theorem dX9_addLetter_45 : decode cX9_addLetter 45 = .ok (.iload_n 2, 1) := by decide +kernel
theorem dX9_addLetter_46 : decode cX9_addLetter 46 = .ok (.dup2, 1) := by decide +kernel
theorem dX9_addLetter_47 : decode cX9_addLetter 47 = .ok (.iaload, 1) := by decide +kernel
theorem dX9_addLetter_48 : decode cX9_addLetter 48 = .ok (.iconst 1, 1) := by decide +kernel
theorem dX9_addLetter_49 : decode cX9_addLetter 49 = .ok (.iadd, 1) := by decide +kernel
theorem dX9_addLetter_50 : decode cX9_addLetter 50 = .ok (.iastore, 1) := by decide +kernel
theorem dX9_addLetter_51 : decode cX9_addLetter 51 = .ok (.iconst 1, 1) := by decide +kernel
theorem dX9_addLetter_52 : decode cX9_addLetter 52 = .ok (.ireturn, 1) := by decide +kernel
theorem dX9_close_0 : decode cX9_close 0 = .ok (.aload_n 0, 1) := by decide +kernel
theorem dX9_close_1 : decode cX9_close 1 = .ok (.getfield 21, 3) := by decide +kernel
theorem dX9_close_4 : decode cX9_close 4 = .ok (.ifCond .le 15, 3) := by decide +kernel
theorem dX9_close_7 : decode cX9_close 7 = .ok (.aload_n 0, 1) := by decide +kernel
theorem dX9_close_8 : decode cX9_close 8 = .ok (.getfield 18, 3) := by decide +kernel
theorem dX9_close_11 : decode cX9_close 11 = .ok (.aload_n 0, 1) := by decide +kernel
theorem dX9_close_12 : decode cX9_close 12 = .ok (.getfield 21, 3) := by decide +kernel
theorem dX9_close_15 : decode cX9_close 15 = .ok (.iconst 1, 1) := by decide +kernel
theorem dX9_close_16 : decode cX9_close 16 = .ok (.isub, 1) := by decide +kernel
theorem dX9_close_17 : decode cX9_close 17 = .ok (.iload_n 1, 1) := by decide +kernel
theorem dX9_close_18 : decode cX9_close 18 = .ok (.iastore, 1) := by decide +kernel
theorem dX9_close_19 : decode cX9_close 19 = .ok (.return_, 1) := by decide +kernel
set_option maxRecDepth 20000 in
theorem ggX9_takeAll_X9_copyUnit : GoodIn wsX9_takeAll wsX9_copyUnit := goodIn_r _ [6, 7, 8, 9, 10, 11, 12, 13, 14, 15, 16, 17] (by decide +kernel) (by decide +kernel)
set_option maxRecDepth 20000 in
theorem gX9_takeAll_X9_copyUnit : GoodIn wsX9_takeAll (wsV RX9 38 RX9 yX9_copyUnit wsX9_copyUnit) := goodIn_app (goodIn_of _ (by decide +kernel)) ggX9_takeAll_X9_copyUnit
theorem dX9_takeAll_0 : decode cX9_takeAll 0 = .ok (.iconst 0, 1) := by decide +kernel
theorem dX9_takeAll_1 : decode cX9_takeAll 1 = .ok (.istore_n 2, 1) := by decide +kernel
theorem dX9_takeAll_2 : decode cX9_takeAll 2 = .ok (.iload_n 2, 1) := by decide +kernel
theorem dX9_takeAll_3 : decode cX9_takeAll 3 = .ok (.aload_n 1, 1) := by decide +kernel
theorem dX9_takeAll_4 : decode cX9_takeAll 4 = .ok (.getfield 21, 3) := by decide +kernel
theorem dX9_takeAll_7 : decode cX9_takeAll 7 = .ok (.if_icmp .ge 16, 3) := by decide +kernel
theorem dX9_takeAll_10 : decode cX9_takeAll 10 = .ok (.aload_n 0, 1) := by decide +kernel
theorem dX9_takeAll_11 : decode cX9_takeAll 11 = .ok (.aload_n 1, 1) := by decide +kernel
theorem dX9_takeAll_12 : decode cX9_takeAll 12 = .ok (.iload_n 2, 1) := by decide +kernel
theorem dX9_takeAll_13 : decode cX9_takeAll 13 = .ok (.iload_n 2, 1) := by decide +kernel
theorem dX9_takeAll_14 : decode cX9_takeAll 14 = .ok (.invokevirtual 38, 3) := by decide +kernel
theorem dX9_takeAll_17 : decode cX9_takeAll 17 = .ok (.iinc 2 1, 3) := by decide +kernel
theorem dX9_takeAll_20 : decode cX9_takeAll 20 = .ok (.goto (-18), 3) := by decide +kernel
theorem dX9_takeAll_23 : decode cX9_takeAll 23 = .ok (.aload_n 0, 1) := by decide +kernel
theorem dX9_takeAll_24 : decode cX9_takeAll 24 = .ok (.aload_n 1, 1) := by decide +kernel
theorem dX9_takeAll_25 : decode cX9_takeAll 25 = .ok (.getfield 21, 3) := by decide +kernel
theorem dX9_takeAll_28 : decode cX9_takeAll 28 = .ok (.putfield 21, 3) := by decide +kernel
theorem dX9_takeAll_31 : decode cX9_takeAll 31 = .ok (.return_, 1) := by decide +kernel
set_option maxRecDepth 20000 in
theorem ggX9_replace_X9_has : GoodIn wsX9_replace wsX9_has := goodIn_r _ [6, 1, 18, 19, 20, 21] (by decide +kernel) (by decide +kernel)
set_option maxRecDepth 20000 in
theorem gX9_replace_X9_has : GoodIn wsX9_replace (wsV RX9 25 RX9 yX9_has wsX9_has) := goodIn_app (goodIn_of _ (by decide +kernel)) ggX9_replace_X9_has
set_option maxRecDepth 20000 in
theorem ggX9_replace_X9_copyUnit : GoodIn wsX9_replace wsX9_copyUnit := goodIn_r _ [10, 11, 12, 13, 14, 15, 16, 17, 18, 19, 20, 21] (by decide +kernel) (by decide +kernel)
set_option maxRecDepth 20000 in
theorem gX9_replace_X9_copyUnit : GoodIn wsX9_replace (wsV RX9 38 RX9 yX9_copyUnit wsX9_copyUnit) := goodIn_app (goodIn_of _ (by decide +kernel)) ggX9_replace_X9_copyUnit
theorem dX9_replace_0 : decode cX9_replace 0 = .ok (.aload_n 2, 1) := by decide +kernel
theorem dX9_replace_1 : decode cX9_replace 1 = .ok (.getfield 21, 3) := by decide +kernel
theorem dX9_replace_4 : decode cX9_replace 4 = .ok (.iconst 1, 1) := by decide +kernel
theorem dX9_replace_5 : decode cX9_replace 5 = .ok (.isub, 1) := by decide +kernel
theorem dX9_replace_6 : decode cX9_replace 6 = .ok (.istore_n 3, 1) := by decide +kernel
theorem dX9_replace_7 : decode cX9_replace 7 = .ok (.aload_n 0, 1) := by decide +kernel
theorem dX9_replace_8 : decode cX9_replace 8 = .ok (.iload_n 1, 1) := by decide +kernel
theorem dX9_replace_9 : decode cX9_replace 9 = .ok (.invokevirtual 25, 3) := by decide +kernel
theorem dX9_replace_12 : decode cX9_replace 12 = .ok (.ifCond .eq 18, 3) := by decide +kernel
theorem dX9_replace_15 : decode cX9_replace 15 = .ok (.iload_n 3, 1) := by decide +kernel
theorem dX9_replace_16 : decode cX9_replace 16 = .ok (.ifCond .lt 14, 3) := by decide +kernel
theorem dX9_replace_19 : decode cX9_replace 19 = .ok (.aload_n 0, 1) := by decide +kernel
theorem dX9_replace_20 : decode cX9_replace 20 = .ok (.getfield 21, 3) := by decide +kernel
theorem dX9_replace_23 : decode cX9_replace 23 = .ok (.iload_n 3, 1) := by decide +kernel
theorem dX9_replace_24 : decode cX9_replace 24 = .ok (.iadd, 1) := by decide +kernel
theorem dX9_replace_25 : decode cX9_replace 25 = .ok (.bipush 80, 2) := by decide +kernel
theorem dX9_replace_27 : decode cX9_replace 27 = .ok (.if_icmp .le 4, 3) := by decide +kernel
theorem dX9_replace_30 : decode cX9_replace 30 = .ok (.return_, 1) := by decide +kernel
theorem dX9_replace_31 : decode cX9_replace 31 = .ok (.aload_n 0, 1) := by decide +kernel
theorem dX9_replace_32 : decode cX9_replace 32 = .ok (.getfield 21, 3) := by decide +kernel
theorem dX9_replace_35 : decode cX9_replace 35 = .ok (.iconst 1, 1) := by decide +kernel
theorem dX9_replace_36 : decode cX9_replace 36 = .ok (.isub, 1) := by decide +kernel
theorem dX9_replace_37 : decode cX9_replace 37 = .ok (.istore 4, 2) := by decide +kernel
theorem dX9_replace_39 : decode cX9_replace 39 = .ok (.iload 4, 2) := by decide +kernel
theorem dX9_replace_41 : decode cX9_replace 41 = .ok (.iload_n 1, 1) := by decide +kernel
theorem dX9_replace_42 : decode cX9_replace 42 = .ok (.if_icmp .le 20, 3) := by decide +kernel
theorem dX9_replace_45 : decode cX9_replace 45 = .ok (.aload_n 0, 1) := by decide +kernel
theorem dX9_replace_46 : decode cX9_replace 46 = .ok (.aload_n 0, 1) := by decide +kernel
theorem dX9_replace_47 : decode cX9_replace 47 = .ok (.iload 4, 2) := by decide +kernel
theorem dX9_replace_49 : decode cX9_replace 49 = .ok (.iload 4, 2) := by decide +kernel
theorem dX9_replace_51 : decode cX9_replace 51 = .ok (.iload_n 3, 1) := by decide +kernel
theorem dX9_replace_52 : decode cX9_replace 52 = .ok (.iadd, 1) := by decide +kernel
theorem dX9_replace_53 : decode cX9_replace 53 = .ok (.invokevirtual 38, 3) := by decide +kernel
theorem dX9_replace_56 : decode cX9_replace 56 = .ok (.iinc 4 (-1), 3) := by decide +kernel
theorem dX9_replace_59 : decode cX9_replace 59 = .ok (.goto (-20), 3) := by decide +kernel
theorem dX9_replace_62 : decode cX9_replace 62 = .ok (.iconst 0, 1) := by decide +kernel
theorem dX9_replace_63 : decode cX9_replace 63 = .ok (.istore 4, 2) := by decide +kernel
theorem dX9_replace_65 : decode cX9_replace 65 = .ok (.iload 4, 2) := by decide +kernel
theorem dX9_replace_67 : decode cX9_replace 67 = .ok (.aload_n 2, 1) := by decide +kernel
theorem dX9_replace_68 : decode cX9_replace 68 = .ok (.getfield 21, 3) := by decide +kernel
theorem dX9_replace_71 : decode cX9_replace 71 = .ok (.if_icmp .ge 20, 3) := by decide +kernel
theorem dX9_replace_74 : decode cX9_replace 74 = .ok (.aload_n 0, 1) := by decide +kernel
theorem dX9_replace_75 : decode cX9_replace 75 = .ok (.aload_n 2, 1) := by decide +kernel
theorem dX9_replace_76 : decode cX9_replace 76 = .ok (.iload 4, 2) := by decide +kernel
theorem dX9_replace_78 : decode cX9_replace 78 = .ok (.iload_n 1, 1) := by decide +kernel
theorem dX9_replace_79 : decode cX9_replace 79 = .ok (.iload 4, 2) := by decide +kernel
theorem dX9_replace_81 : decode cX9_replace 81 = .ok (.iadd, 1) := by decide +kernel
theorem dX9_replace_82 : decode cX9_replace 82 = .ok (.invokevirtual 38, 3) := by decide +kernel
theorem dX9_replace_85 : decode cX9_replace 85 = .ok (.iinc 4 1, 3) := by decide +kernel
theorem dX9_replace_88 : decode cX9_replace 88 = .ok (.goto (-23), 3) := by decide +kernel
theorem dX9_replace_91 : decode cX9_replace 91 = .ok (.aload_n 0, 1) := by decide +kernel
theorem dX9_replace_92 : decode cX9_replace 92 = .ok (.dup, 1) := by decide +kernel
theorem dX9_replace_93 : decode cX9_replace 93 = .ok (.getfield 21, 3) := by decide +kernel
theorem dX9_replace_96 : decode cX9_replace 96 = .ok (.iload_n 3, 1) := by decide +kernel
theorem dX9_replace_97 : decode cX9_replace 97 = .ok (.iadd, 1) := by decide +kernel
theorem dX9_replace_98 : decode cX9_replace 98 = .ok (.putfield 21, 3) := by decide +kernel
theorem dX9_replace_101 : decode cX9_replace 101 = .ok (.return_, 1) := by decide +kernel
theorem dX9_copyUnit_0 : decode cX9_copyUnit 0 = .ok (.aload_n 1, 1) := by decide +kernel
theorem dX9_copyUnit_1 : decode cX9_copyUnit 1 = .ok (.getfield 9, 3) := by decide +kernel
theorem dX9_copyUnit_4 : decode cX9_copyUnit 4 = .ok (.iload_n 2, 1) := by decide +kernel
theorem dX9_copyUnit_5 : decode cX9_copyUnit 5 = .ok (.bipush 20, 2) := by decide +kernel
theorem dX9_copyUnit_7 : decode cX9_copyUnit 7 = .ok (.imul, 1) := by decide +kernel
theorem dX9_copyUnit_8 : decode cX9_copyUnit 8 = .ok (.aload_n 0, 1) := by decide +kernel
theorem dX9_copyUnit_9 : decode cX9_copyUnit 9 = .ok (.getfield 9, 3) := by decide +kernel
theorem dX9_copyUnit_12 : decode cX9_copyUnit 12 = .ok (.iload_n 3, 1) := by decide +kernel
theorem dX9_copyUnit_13 : decode cX9_copyUnit 13 = .ok (.bipush 20, 2) := by decide +kernel
theorem dX9_copyUnit_15 : decode cX9_copyUnit 15 = .ok (.imul, 1) := by decide +kernel
theorem dX9_copyUnit_16 : decode cX9_copyUnit 16 = .ok (.bipush 20, 2) := by decide +kernel
theorem dX9_copyUnit_18 : decode cX9_copyUnit 18 = .ok (.invokestatic 42, 3) := by decide +kernel
theorem dX9_copyUnit_21 : decode cX9_copyUnit 21 = .ok (.aload_n 0, 1) := by decide +kernel
theorem dX9_copyUnit_22 : decode cX9_copyUnit 22 = .ok (.getfield 15, 3) := by decide +kernel
theorem dX9_copyUnit_25 : decode cX9_copyUnit 25 = .ok (.iload_n 3, 1) := by decide +kernel
theorem dX9_copyUnit_26 : decode cX9_copyUnit 26 = .ok (.aload_n 1, 1) := by decide +kernel
theorem dX9_copyUnit_27 : decode cX9_copyUnit 27 = .ok (.getfield 15, 3) := by decide +kernel
theorem dX9_copyUnit_30 : decode cX9_copyUnit 30 = .ok (.iload_n 2, 1) := by decide +kernel
theorem dX9_copyUnit_31 : decode cX9_copyUnit 31 = .ok (.iaload, 1) := by decide +kernel
theorem dX9_copyUnit_32 : decode cX9_copyUnit 32 = .ok (.iastore, 1) := by decide +kernel
theorem dX9_copyUnit_33 : decode cX9_copyUnit 33 = .ok (.aload_n 0, 1) := by decide +kernel
theorem dX9_copyUnit_34 : decode cX9_copyUnit 34 = .ok (.getfield 18, 3) := by decide +kernel
theorem dX9_copyUnit_37 : decode cX9_copyUnit 37 = .ok (.iload_n 3, 1) := by decide +kernel
theorem dX9_copyUnit_38 : decode cX9_copyUnit 38 = .ok (.aload_n 1, 1) := by decide +kernel
theorem dX9_copyUnit_39 : decode cX9_copyUnit 39 = .ok (.getfield 18, 3) := by decide +kernel
theorem dX9_copyUnit_42 : decode cX9_copyUnit 42 = .ok (.iload_n 2, 1) := by decide +kernel
theorem dX9_copyUnit_43 : decode cX9_copyUnit 43 = .ok (.iaload, 1) := by decide +kernel
theorem dX9_copyUnit_44 : decode cX9_copyUnit 44 = .ok (.iastore, 1) := by decide +kernel
theorem dX9_copyUnit_45 : decode cX9_copyUnit 45 = .ok (.return_, 1) := by decide +kernel
set_option maxRecDepth 20000 in
theorem ggX10_init_X7_init : GoodIn wsX10_init wsX7_init := goodIn_r _ [41, 42, 2, 3, 43, 44, 118, 119] (by decide +kernel) (by decide +kernel)
set_option maxRecDepth 20000 in
theorem gX10_init_X7_init_n9 : GoodIn wsX10_init (wsX7_init) := ggX10_init_X7_init
set_option maxRecDepth 20000 in
theorem ggX10_init_X3_init : GoodIn wsX10_init wsX3_init := goodIn_r _ [46, 47, 2, 3, 48, 13, 14, 49, 50, 51, 52, 53, 54, 43, 55, 56, 57, 132, 133, 134, 135, 129, 130, 131] (by decide +kernel) (by decide +kernel)
set_option maxRecDepth 20000 in
theorem gX10_init_X3_init_n18 : GoodIn wsX10_init (wsX3_init) := ggX10_init_X3_init
set_option maxRecDepth 20000 in
theorem ggX10_init_X9_init : GoodIn wsX10_init wsX9_init := goodIn_r _ [53, 54, 2, 3, 43, 55, 56, 57, 132, 133, 134, 135] (by decide +kernel) (by decide +kernel)
set_option maxRecDepth 20000 in
theorem gX10_init_X9_init_n25 : GoodIn wsX10_init (wsX9_init) := ggX10_init_X9_init
set_option maxRecDepth 20000 in
theorem ggX10_init_X1_init : GoodIn wsX10_init wsX1_init := goodIn_r _ [60, 61, 2, 3, 62, 63, 64, 65, 66, 67, 43, 68, 69, 70, 18, 71, 136, 137, 138, 139, 140, 141, 142] (by decide +kernel) (by decide +kernel)
set_option maxRecDepth 20000 in
theorem gX10_init_X1_init : GoodIn wsX10_init (wsX1_init) := ggX10_init_X1_init
set_option maxRecDepth 20000 in
theorem ggX10_init_X5_init : GoodIn wsX10_init wsX5_init := goodIn_r _ [73, 74, 2, 3, 75, 76, 77, 78, 43, 79, 80, 81, 82, 83, 84, 85, 86, 87, 88, 168, 169, 170, 171, 172, 173, 174, 143, 144, 145, 146, 147, 148] (by decide +kernel) (by decide +kernel)
set_option maxRecDepth 20000 in
theorem gX10_init_X5_init_n39 : GoodIn wsX10_init (wsX5_init) := ggX10_init_X5_init
set_option maxRecDepth 20000 in
theorem ggX10_init_X5_strip : GoodIn wsX10_init wsX5_strip := goodIn_r _ [92, 78, 143, 144, 145, 146, 147, 148] (by decide +kernel) (by decide +kernel)
set_option maxRecDepth 20000 in
theorem gX10_init_X5_strip : GoodIn wsX10_init (wsV RX10 46 RX5 yX5_strip wsX5_strip) := goodIn_app (goodIn_of _ (by decide +kernel)) ggX10_init_X5_strip
set_option maxRecDepth 20000 in
theorem ggX10_init_X4_init : GoodIn wsX10_init wsX4_init := goodIn_r _ [95, 96, 2, 3, 43, 97, 98, 99, 100, 149, 150, 151, 152, 153] (by decide +kernel) (by decide +kernel)
set_option maxRecDepth 20000 in
theorem gX10_init_X4_init : GoodIn wsX10_init (wsX4_init) := ggX10_init_X4_init
set_option maxRecDepth 20000 in
theorem ggX10_init_X2_init : GoodIn wsX10_init wsX2_init := goodIn_r _ [102, 103, 2, 3, 104, 105, 154, 155] (by decide +kernel) (by decide +kernel)
set_option maxRecDepth 20000 in
theorem gX10_init_X2_init_n59 : GoodIn wsX10_init (wsX2_init) := ggX10_init_X2_init
set_option maxRecDepth 20000 in
theorem ggX10_init_X0_init : GoodIn wsX10_init wsX0_init := goodIn_r _ [107, 108, 2, 3, 43, 109, 110, 156, 157, 158] (by decide +kernel) (by decide +kernel)
set_option maxRecDepth 20000 in
theorem gX10_init_X0_init_n66 : GoodIn wsX10_init (wsX0_init) := ggX10_init_X0_init
set_option maxRecDepth 20000 in
theorem ggX10_init_X8_init : GoodIn wsX10_init wsX8_init := goodIn_r _ [112, 113, 2, 3, 114, 115, 116, 117, 159, 160, 161, 162, 163, 164, 165, 166, 167] (by decide +kernel) (by decide +kernel)
set_option maxRecDepth 20000 in
theorem gX10_init_X8_init_n73 : GoodIn wsX10_init (wsX8_init) := ggX10_init_X8_init
theorem dX10_init_0 : decode cX10_init 0 = .ok (.aload_n 0, 1) := by decide +kernel
theorem dX10_init_1 : decode cX10_init 1 = .ok (.invokespecial 1, 3) := by decide +kernel
theorem dX10_init_4 : decode cX10_init 4 = .ok (.aload_n 0, 1) := by decide +kernel
theorem dX10_init_5 : decode cX10_init 5 = .ok (.new 7, 3) := by decide +kernel
theorem dX10_init_8 : decode cX10_init 8 = .ok (.dup, 1) := by decide +kernel
theorem dX10_init_9 : decode cX10_init 9 = .ok (.invokespecial 9, 3) := by decide +kernel
theorem dX10_init_12 : decode cX10_init 12 = .ok (.putfield 10, 3) := by decide +kernel
theorem dX10_init_15 : decode cX10_init 15 = .ok (.aload_n 0, 1) := by decide +kernel
theorem dX10_init_16 : decode cX10_init 16 = .ok (.new 16, 3) := by decide +kernel
theorem dX10_init_19 : decode cX10_init 19 = .ok (.dup, 1) := by decide +kernel
theorem dX10_init_20 : decode cX10_init 20 = .ok (.invokespecial 18, 3) := by decide +kernel
theorem dX10_init_23 : decode cX10_init 23 = .ok (.putfield 19, 3) := by decide +kernel
theorem dX10_init_26 : decode cX10_init 26 = .ok (.aload_n 0, 1) := by decide +kernel
theorem dX10_init_27 : decode cX10_init 27 = .ok (.new 23, 3) := by decide +kernel
theorem dX10_init_30 : decode cX10_init 30 = .ok (.dup, 1) := by decide +kernel
theorem dX10_init_31 : decode cX10_init 31 = .ok (.invokespecial 25, 3) := by decide +kernel
theorem dX10_init_34 : decode cX10_init 34 = .ok (.putfield 26, 3) := by decide +kernel
theorem dX10_init_37 : decode cX10_init 37 = .ok (.aload_n 0, 1) := by decide +kernel
theorem dX10_init_38 : decode cX10_init 38 = .ok (.new 30, 3) := by decide +kernel
theorem dX10_init_41 : decode cX10_init 41 = .ok (.dup, 1) := by decide +kernel
theorem dX10_init_42 : decode cX10_init 42 = .ok (.invokespecial 32, 3) := by decide +kernel
theorem dX10_init_45 : decode cX10_init 45 = .ok (.putfield 33, 3) := by decide +kernel
theorem dX10_init_48 : decode cX10_init 48 = .ok (.aload_n 0, 1) := by decide +kernel
theorem dX10_init_49 : decode cX10_init 49 = .ok (.new 37, 3) := by decide +kernel
theorem dX10_init_52 : decode cX10_init 52 = .ok (.dup, 1) := by decide +kernel
theorem dX10_init_53 : decode cX10_init 53 = .ok (.invokespecial 39, 3) := by decide +kernel
theorem dX10_init_56 : decode cX10_init 56 = .ok (.putfield 40, 3) := by decide +kernel
theorem dX10_init_59 : decode cX10_init 59 = .ok (.aload_n 0, 1) := by decide +kernel
theorem dX10_init_60 : decode cX10_init 60 = .ok (.new 44, 3) := by decide +kernel
theorem dX10_init_63 : decode cX10_init 63 = .ok (.dup, 1) := by decide +kernel
theorem dX10_init_64 : decode cX10_init 64 = .ok (.aload_n 0, 1) := by decide +kernel
theorem dX10_init_65 : decode cX10_init 65 = .ok (.getfield 40, 3) := by decide +kernel
theorem dX10_init_68 : decode cX10_init 68 = .ok (.invokevirtual 46, 3) := by decide +kernel
theorem dX10_init_71 : decode cX10_init 71 = .ok (.aload_n 0, 1) := by decide +kernel
theorem dX10_init_72 : decode cX10_init 72 = .ok (.getfield 33, 3) := by decide +kernel
theorem dX10_init_75 : decode cX10_init 75 = .ok (.invokespecial 50, 3) := by decide +kernel
theorem dX10_init_78 : decode cX10_init 78 = .ok (.putfield 53, 3) := by decide +kernel
theorem dX10_init_81 : decode cX10_init 81 = .ok (.aload_n 0, 1) := by decide +kernel
theorem dX10_init_82 : decode cX10_init 82 = .ok (.new 57, 3) := by decide +kernel
theorem dX10_init_85 : decode cX10_init 85 = .ok (.dup, 1) := by decide +kernel
theorem dX10_init_86 : decode cX10_init 86 = .ok (.invokespecial 59, 3) := by decide +kernel
theorem dX10_init_89 : decode cX10_init 89 = .ok (.putfield 60, 3) := by decide +kernel
theorem dX10_init_92 : decode cX10_init 92 = .ok (.aload_n 0, 1) := by decide +kernel
theorem dX10_init_93 : decode cX10_init 93 = .ok (.new 64, 3) := by decide +kernel
theorem dX10_init_96 : decode cX10_init 96 = .ok (.dup, 1) := by decide +kernel
theorem dX10_init_97 : decode cX10_init 97 = .ok (.invokespecial 66, 3) := by decide +kernel
theorem dX10_init_100 : decode cX10_init 100 = .ok (.putfield 67, 3) := by decide +kernel
theorem dX10_init_103 : decode cX10_init 103 = .ok (.aload_n 0, 1) := by decide +kernel
theorem dX10_init_104 : decode cX10_init 104 = .ok (.new 71, 3) := by decide +kernel
theorem dX10_init_107 : decode cX10_init 107 = .ok (.dup, 1) := by decide +kernel
theorem dX10_init_108 : decode cX10_init 108 = .ok (.invokespecial 73, 3) := by decide +kernel
theorem dX10_init_111 : decode cX10_init 111 = .ok (.putfield 74, 3) := by decide +kernel
theorem dX10_init_114 : decode cX10_init 114 = .ok (.return_, 1) := by decide +kernel
set_option maxRecDepth 20000 in
theorem ggX10_feed_X7_append : GoodIn wsX10_feed wsX7_append := goodIn_r _ [6, 7, 8, 9, 10, 5, 11, 12, 22, 23] (by decide +kernel) (by decide +kernel)
set_option maxRecDepth 20000 in
theorem gX10_feed_X7_append : GoodIn wsX10_feed (wsV RX10 78 RX7 yX7_append wsX7_append) := goodIn_app (goodIn_of _ (by decide +kernel)) ggX10_feed_X7_append
theorem dX10_feed_0 : decode cX10_feed 0 = .ok (.aload_n 0, 1) := by decide +kernel
theorem dX10_feed_1 : decode cX10_feed 1 = .ok (.getfield 10, 3) := by decide +kernel
theorem dX10_feed_4 : decode cX10_feed 4 = .ok (.iload_n 1, 1) := by decide +kernel
theorem dX10_feed_5 : decode cX10_feed 5 = .ok (.iload_n 2, 1) := by decide +kernel
theorem dX10_feed_6 : decode cX10_feed 6 = .ok (.iload_n 3, 1) := by decide +kernel
theorem dX10_feed_7 : decode cX10_feed 7 = .ok (.iload 4, 2) := by decide +kernel
theorem dX10_feed_9 : decode cX10_feed 9 = .ok (.iload 5, 2) := by decide +kernel
theorem dX10_feed_11 : decode cX10_feed 11 = .ok (.invokevirtual 78, 3) := by decide +kernel
theorem dX10_feed_14 : decode cX10_feed 14 = .ok (.ireturn, 1) := by decide +kernel
set_option maxRecDepth 20000 in
theorem ggX10_end_X7_keepFirst : GoodIn wsX10_end wsX7_keepFirst := goodIn_r _ [6, 7, 8, 9, 10, 20, 21] (by decide +kernel) (by decide +kernel)
set_option maxRecDepth 20000 in
theorem gX10_end_X7_keepFirst : GoodIn wsX10_end (wsV RX10 82 RX7 yX7_keepFirst wsX7_keepFirst) := goodIn_app (goodIn_of _ (by decide +kernel)) ggX10_end_X7_keepFirst
theorem dX10_end_0 : decode cX10_end 0 = .ok (.aload_n 0, 1) := by decide +kernel
theorem dX10_end_1 : decode cX10_end 1 = .ok (.getfield 10, 3) := by decide +kernel
theorem dX10_end_4 : decode cX10_end 4 = .ok (.iload_n 1, 1) := by decide +kernel
theorem dX10_end_5 : decode cX10_end 5 = .ok (.invokevirtual 82, 3) := by decide +kernel
theorem dX10_end_8 : decode cX10_end 8 = .ok (.ireturn, 1) := by decide +kernel
set_option maxRecDepth 20000 in
theorem ggX10_text_X10_readTape : GoodIn wsX10_text wsX10_readTape := goodIn_r _ [9, 1, 10, 11, 12, 13, 14, 15, 16, 17, 18, 19, 20, 21, 22, 23, 24, 25, 26, 27, 28, 29, 30, 31, 32, 33, 34, 35, 36, 37, 38, 39, 40, 8, 41, 42, 43, 44, 45, 46, 47, 48, 49, 50, 51, 52, 53, 54, 55, 56, 57, 58, 59, 60, 61, 62, 63, 64, 65, 66, 67, 68, 105, 106, 107, 108, 109, 110, 111, 112, 113, 114, 115, 116, 117, 118, 119, 120, 121, 122] (by decide +kernel) (by decide +kernel)
set_option maxRecDepth 20000 in
theorem gX10_text_X10_readTape : GoodIn wsX10_text (wsV RX10 86 RX10 yX10_readTape wsX10_readTape) := goodIn_app (goodIn_of _ (by decide +kernel)) ggX10_text_X10_readTape
set_option maxRecDepth 20000 in
theorem ggX10_text_X3_hasFault : GoodIn wsX10_text wsX3_hasFault := goodIn_r _ [72, 17, 114, 115, 116] (by decide +kernel) (by decide +kernel)
set_option maxRecDepth 20000 in
theorem gX10_text_X3_hasFault : GoodIn wsX10_text (wsV RX10 89 RX3 yX3_hasFault wsX3_hasFault) := goodIn_app (goodIn_of _ (by decide +kernel)) ggX10_text_X3_hasFault
set_option maxRecDepth 20000 in
theorem ggX10_text_X3_units : GoodIn wsX10_text wsX3_units := goodIn_r _ [76, 16, 114, 115, 116] (by decide +kernel) (by decide +kernel)
set_option maxRecDepth 20000 in
theorem gX10_text_X3_units : GoodIn wsX10_text (wsV RX10 93 RX3 yX3_units wsX3_units) := goodIn_app (goodIn_of _ (by decide +kernel)) ggX10_text_X3_units
set_option maxRecDepth 20000 in
theorem ggX10_text_X9_takeAll : GoodIn wsX10_text wsX9_takeAll := goodIn_r _ [80, 24, 81, 82, 83, 22, 84, 60, 85, 86, 87, 88, 54, 55, 117, 118, 119, 120] (by decide +kernel) (by decide +kernel)
set_option maxRecDepth 20000 in
theorem gX10_text_X9_takeAll : GoodIn wsX10_text (wsV RX10 96 RX9 yX9_takeAll wsX9_takeAll) := goodIn_app (goodIn_of _ (by decide +kernel)) ggX10_text_X9_takeAll
set_option maxRecDepth 20000 in
theorem ggX10_text_X5_drop : GoodIn wsX10_text wsX5_drop := goodIn_r _ [93, 94, 123, 124, 125, 126, 127, 128] (by decide +kernel) (by decide +kernel)
set_option maxRecDepth 20000 in
theorem gX10_text_X5_drop : GoodIn wsX10_text (wsV RX10 100 RX5 yX5_drop wsX5_drop) := goodIn_app (goodIn_of _ (by decide +kernel)) ggX10_text_X5_drop
set_option maxRecDepth 20000 in
theorem ggX10_text_X0_drop : GoodIn wsX10_text wsX0_drop := goodIn_r _ [99, 100, 129, 130, 131] (by decide +kernel) (by decide +kernel)
set_option maxRecDepth 20000 in
theorem gX10_text_X0_drop : GoodIn wsX10_text (wsV RX10 103 RX0 yX0_drop wsX0_drop) := goodIn_app (goodIn_of _ (by decide +kernel)) ggX10_text_X0_drop
set_option maxRecDepth 20000 in
theorem ggX10_text_X9_count : GoodIn wsX10_text wsX9_count := goodIn_r _ [104, 24, 117, 118, 119, 120] (by decide +kernel) (by decide +kernel)
set_option maxRecDepth 20000 in
theorem gX10_text_X9_count : GoodIn wsX10_text (wsV RX10 104 RX9 yX9_count wsX9_count) := goodIn_app (goodIn_of _ (by decide +kernel)) ggX10_text_X9_count
theorem dX10_text_0 : decode cX10_text 0 = .ok (.aload_n 0, 1) := by decide +kernel
theorem dX10_text_1 : decode cX10_text 1 = .ok (.invokevirtual 86, 3) := by decide +kernel
theorem dX10_text_4 : decode cX10_text 4 = .ok (.aload_n 0, 1) := by decide +kernel
theorem dX10_text_5 : decode cX10_text 5 = .ok (.getfield 19, 3) := by decide +kernel
theorem dX10_text_8 : decode cX10_text 8 = .ok (.invokevirtual 89, 3) := by decide +kernel
theorem dX10_text_11 : decode cX10_text 11 = .ok (.ifCond .eq 5, 3) := by decide +kernel
theorem dX10_text_14 : decode cX10_text 14 = .ok (.iconst (-1), 1) := by decide +kernel
theorem dX10_text_15 : decode cX10_text 15 = .ok (.ireturn, 1) := by decide +kernel
theorem dX10_text_16 : decode cX10_text 16 = .ok (.aload_n 0, 1) := by decide +kernel
theorem dX10_text_17 : decode cX10_text 17 = .ok (.getfield 26, 3) := by decide +kernel
theorem dX10_text_20 : decode cX10_text 20 = .ok (.aload_n 0, 1) := by decide +kernel
theorem dX10_text_21 : decode cX10_text 21 = .ok (.getfield 19, 3) := by decide +kernel
theorem dX10_text_24 : decode cX10_text 24 = .ok (.invokevirtual 93, 3) := by decide +kernel
theorem dX10_text_27 : decode cX10_text 27 = .ok (.invokevirtual 96, 3) := by decide +kernel
theorem dX10_text_30 : decode cX10_text 30 = .ok (.aload_n 0, 1) := by decide +kernel
theorem dX10_text_31 : decode cX10_text 31 = .ok (.getfield 40, 3) := by decide +kernel
theorem dX10_text_34 : decode cX10_text 34 = .ok (.invokevirtual 100, 3) := by decide +kernel
theorem dX10_text_37 : decode cX10_text 37 = .ok (.aload_n 0, 1) := by decide +kernel
theorem dX10_text_38 : decode cX10_text 38 = .ok (.getfield 67, 3) := by decide +kernel
theorem dX10_text_41 : decode cX10_text 41 = .ok (.invokevirtual 103, 3) := by decide +kernel
theorem dX10_text_44 : decode cX10_text 44 = .ok (.aload_n 0, 1) := by decide +kernel
theorem dX10_text_45 : decode cX10_text 45 = .ok (.getfield 26, 3) := by decide +kernel
theorem dX10_text_48 : decode cX10_text 48 = .ok (.invokevirtual 104, 3) := by decide +kernel
theorem dX10_text_51 : decode cX10_text 51 = .ok (.ireturn, 1) := by decide +kernel
set_option maxRecDepth 20000 in
theorem ggX10_fault_X3_kind : GoodIn wsX10_fault wsX3_kind := goodIn_r _ [6, 7, 22, 23, 24] (by decide +kernel) (by decide +kernel)
set_option maxRecDepth 20000 in
theorem gX10_fault_X3_kind : GoodIn wsX10_fault (wsV RX10 108 RX3 yX3_kind wsX3_kind) := goodIn_app (goodIn_of _ (by decide +kernel)) ggX10_fault_X3_kind
set_option maxRecDepth 20000 in
theorem ggX10_fault_X3_place : GoodIn wsX10_fault wsX3_place := goodIn_r _ [11, 12, 22, 23, 24] (by decide +kernel) (by decide +kernel)
set_option maxRecDepth 20000 in
theorem gX10_fault_X3_place : GoodIn wsX10_fault (wsV RX10 111 RX3 yX3_place wsX3_place) := goodIn_app (goodIn_of _ (by decide +kernel)) ggX10_fault_X3_place
theorem dX10_fault_0 : decode cX10_fault 0 = .ok (.iload_n 1, 1) := by decide +kernel
theorem dX10_fault_1 : decode cX10_fault 1 = .ok (.lookupswitch 43 #[(0, 27), (1, 35)], 27) := by decide +kernel
theorem dX10_fault_28 : decode cX10_fault 28 = .ok (.aload_n 0, 1) := by decide +kernel
theorem dX10_fault_29 : decode cX10_fault 29 = .ok (.getfield 19, 3) := by decide +kernel
theorem dX10_fault_32 : decode cX10_fault 32 = .ok (.invokevirtual 108, 3) := by decide +kernel
theorem dX10_fault_35 : decode cX10_fault 35 = .ok (.ireturn, 1) := by decide +kernel
theorem dX10_fault_36 : decode cX10_fault 36 = .ok (.aload_n 0, 1) := by decide +kernel
theorem dX10_fault_37 : decode cX10_fault 37 = .ok (.getfield 19, 3) := by decide +kernel
theorem dX10_fault_40 : decode cX10_fault 40 = .ok (.invokevirtual 111, 3) := by decide +kernel
theorem dX10_fault_43 : decode cX10_fault 43 = .ok (.ireturn, 1) := by decide +kernel
theorem dX10_fault_44 : decode cX10_fault 44 = .ok (.iconst (-1), 1) := by decide +kernel
theorem dX10_fault_45 : decode cX10_fault 45 = .ok (.ireturn, 1) := by decide +kernel
set_option maxRecDepth 20000 in
theorem ggX10_put_X9_isWholeWord : GoodIn wsX10_put wsX9_isWholeWord := goodIn_r _ [10, 11, 12, 13, 9, 14, 15, 16, 17, 18, 19, 20, 21, 22, 23, 24, 131, 132, 133, 134] (by decide +kernel) (by decide +kernel)
set_option maxRecDepth 20000 in
theorem gX10_put_X9_isWholeWord : GoodIn wsX10_put (wsV RX10 114 RX9 yX9_isWholeWord wsX9_isWholeWord) := goodIn_app (goodIn_of _ (by decide +kernel)) ggX10_put_X9_isWholeWord
set_option maxRecDepth 20000 in
theorem ggX10_put_X7_clear : GoodIn wsX10_put wsX7_clear := goodIn_r _ [29, 30, 135, 136] (by decide +kernel) (by decide +kernel)
set_option maxRecDepth 20000 in
theorem gX10_put_X7_clear : GoodIn wsX10_put (wsV RX10 117 RX7 yX7_clear wsX7_clear) := goodIn_app (goodIn_of _ (by decide +kernel)) ggX10_put_X7_clear
set_option maxRecDepth 20000 in
theorem ggX10_put_X10_readTape : GoodIn wsX10_put wsX10_readTape := goodIn_r _ [35, 3, 2, 36, 37, 38, 39, 40, 41, 42, 43, 44, 45, 46, 9, 47, 15, 48, 49, 50, 28, 51, 30, 52, 53, 54, 55, 56, 57, 58, 59, 60, 61, 34, 62, 63, 64, 65, 66, 67, 68, 69, 70, 71, 72, 73, 74, 75, 24, 76, 77, 78, 79, 80, 81, 82, 83, 84, 25, 26, 27, 29, 122, 123, 124, 125, 126, 127, 128, 129, 130, 137, 138, 139, 131, 132, 133, 134, 135, 136] (by decide +kernel) (by decide +kernel)
set_option maxRecDepth 20000 in
theorem gX10_put_X10_readTape : GoodIn wsX10_put (wsV RX10 86 RX10 yX10_readTape wsX10_readTape) := goodIn_app (goodIn_of _ (by decide +kernel)) ggX10_put_X10_readTape
set_option maxRecDepth 20000 in
theorem ggX10_put_X3_units : GoodIn wsX10_put wsX3_units := goodIn_r _ [88, 41, 137, 138, 139] (by decide +kernel) (by decide +kernel)
set_option maxRecDepth 20000 in
theorem gX10_put_X3_units : GoodIn wsX10_put (wsV RX10 93 RX3 yX3_units wsX3_units) := goodIn_app (goodIn_of _ (by decide +kernel)) ggX10_put_X3_units
set_option maxRecDepth 20000 in
theorem ggX10_put_X9_count : GoodIn wsX10_put wsX9_count := goodIn_r _ [92, 15, 131, 132, 133, 134] (by decide +kernel) (by decide +kernel)
set_option maxRecDepth 20000 in
theorem gX10_put_X9_count : GoodIn wsX10_put (wsV RX10 104 RX9 yX9_count wsX9_count) := goodIn_app (goodIn_of _ (by decide +kernel)) ggX10_put_X9_count
set_option maxRecDepth 20000 in
theorem ggX10_put_X3_hasFault : GoodIn wsX10_put wsX3_hasFault := goodIn_r _ [96, 42, 137, 138, 139] (by decide +kernel) (by decide +kernel)
set_option maxRecDepth 20000 in
theorem gX10_put_X3_hasFault : GoodIn wsX10_put (wsV RX10 89 RX3 yX3_hasFault wsX3_hasFault) := goodIn_app (goodIn_of _ (by decide +kernel)) ggX10_put_X3_hasFault
set_option maxRecDepth 20000 in
theorem ggX10_put_X9_replace : GoodIn wsX10_put wsX9_replace := goodIn_r _ [100, 15, 11, 12, 13, 9, 14, 101, 102, 103, 104, 80, 105, 106, 107, 108, 75, 24, 131, 132, 133, 134] (by decide +kernel) (by decide +kernel)
set_option maxRecDepth 20000 in
theorem gX10_put_X9_replace : GoodIn wsX10_put (wsV RX10 120 RX9 yX9_replace wsX9_replace) := goodIn_app (goodIn_of _ (by decide +kernel)) ggX10_put_X9_replace
set_option maxRecDepth 20000 in
theorem ggX10_put_X0_moveBehind : GoodIn wsX10_put wsX0_moveBehind := goodIn_r _ [113, 114, 115, 140, 141, 142] (by decide +kernel) (by decide +kernel)
set_option maxRecDepth 20000 in
theorem gX10_put_X0_moveBehind : GoodIn wsX10_put (wsV RX10 124 RX0 yX0_moveBehind wsX0_moveBehind) := goodIn_app (goodIn_of _ (by decide +kernel)) ggX10_put_X0_moveBehind
set_option maxRecDepth 20000 in
theorem ggX10_put_X5_outdate : GoodIn wsX10_put wsX5_outdate := goodIn_r _ [120, 121, 143, 144, 145, 146, 147, 148] (by decide +kernel) (by decide +kernel)
set_option maxRecDepth 20000 in
theorem gX10_put_X5_outdate : GoodIn wsX10_put (wsV RX10 128 RX5 yX5_outdate wsX5_outdate) := goodIn_app (goodIn_of _ (by decide +kernel)) ggX10_put_X5_outdate
theorem dX10_put_0 : decode cX10_put 0 = .ok (.aload_n 0, 1) := by decide +kernel
theorem dX10_put_1 : decode cX10_put 1 = .ok (.getfield 26, 3) := by decide +kernel
theorem dX10_put_4 : decode cX10_put 4 = .ok (.iload_n 1, 1) := by decide +kernel
theorem dX10_put_5 : decode cX10_put 5 = .ok (.invokevirtual 114, 3) := by decide +kernel
theorem dX10_put_8 : decode cX10_put 8 = .ok (.ifCond .ne 12, 3) := by decide +kernel
theorem dX10_put_11 : decode cX10_put 11 = .ok (.aload_n 0, 1) := by decide +kernel
theorem dX10_put_12 : decode cX10_put 12 = .ok (.getfield 10, 3) := by decide +kernel
theorem dX10_put_15 : decode cX10_put 15 = .ok (.invokevirtual 117, 3) := by decide +kernel
theorem dX10_put_18 : decode cX10_put 18 = .ok (.iconst (-1), 1) := by decide +kernel
theorem dX10_put_19 : decode cX10_put 19 = .ok (.ireturn, 1) := by decide +kernel
theorem dX10_put_20 : decode cX10_put 20 = .ok (.aload_n 0, 1) := by decide +kernel
theorem dX10_put_21 : decode cX10_put 21 = .ok (.invokevirtual 86, 3) := by decide +kernel
theorem dX10_put_24 : decode cX10_put 24 = .ok (.aload_n 0, 1) := by decide +kernel
theorem dX10_put_25 : decode cX10_put 25 = .ok (.getfield 19, 3) := by decide +kernel
theorem dX10_put_28 : decode cX10_put 28 = .ok (.invokevirtual 93, 3) := by decide +kernel
theorem dX10_put_31 : decode cX10_put 31 = .ok (.invokevirtual 104, 3) := by decide +kernel
theorem dX10_put_34 : decode cX10_put 34 = .ok (.iconst 1, 1) := by decide +kernel
theorem dX10_put_35 : decode cX10_put 35 = .ok (.isub, 1) := by decide +kernel
theorem dX10_put_36 : decode cX10_put 36 = .ok (.istore_n 2, 1) := by decide +kernel
theorem dX10_put_37 : decode cX10_put 37 = .ok (.aload_n 0, 1) := by decide +kernel
theorem dX10_put_38 : decode cX10_put 38 = .ok (.getfield 19, 3) := by decide +kernel
theorem dX10_put_41 : decode cX10_put 41 = .ok (.invokevirtual 89, 3) := by decide +kernel
theorem dX10_put_44 : decode cX10_put 44 = .ok (.ifCond .ne 21, 3) := by decide +kernel
theorem dX10_put_47 : decode cX10_put 47 = .ok (.iload_n 2, 1) := by decide +kernel
theorem dX10_put_48 : decode cX10_put 48 = .ok (.ifCond .lt 17, 3) := by decide +kernel
theorem dX10_put_51 : decode cX10_put 51 = .ok (.aload_n 0, 1) := by decide +kernel
theorem dX10_put_52 : decode cX10_put 52 = .ok (.getfield 26, 3) := by decide +kernel
theorem dX10_put_55 : decode cX10_put 55 = .ok (.invokevirtual 104, 3) := by decide +kernel
theorem dX10_put_58 : decode cX10_put 58 = .ok (.iload_n 2, 1) := by decide +kernel
theorem dX10_put_59 : decode cX10_put 59 = .ok (.iadd, 1) := by decide +kernel
theorem dX10_put_60 : decode cX10_put 60 = .ok (.bipush 80, 2) := by decide +kernel
theorem dX10_put_62 : decode cX10_put 62 = .ok (.if_icmp .le 6, 3) := by decide +kernel
theorem dX10_put_65 : decode cX10_put 65 = .ok (.bipush (-2), 2) := by decide +kernel
theorem dX10_put_67 : decode cX10_put 67 = .ok (.ireturn, 1) := by decide +kernel
theorem dX10_put_68 : decode cX10_put 68 = .ok (.aload_n 0, 1) := by decide +kernel
theorem dX10_put_69 : decode cX10_put 69 = .ok (.getfield 26, 3) := by decide +kernel
theorem dX10_put_72 : decode cX10_put 72 = .ok (.iload_n 1, 1) := by decide +kernel
theorem dX10_put_73 : decode cX10_put 73 = .ok (.aload_n 0, 1) := by decide +kernel
theorem dX10_put_74 : decode cX10_put 74 = .ok (.getfield 19, 3) := by decide +kernel
theorem dX10_put_77 : decode cX10_put 77 = .ok (.invokevirtual 93, 3) := by decide +kernel
theorem dX10_put_80 : decode cX10_put 80 = .ok (.invokevirtual 120, 3) := by decide +kernel
theorem dX10_put_83 : decode cX10_put 83 = .ok (.aload_n 0, 1) := by decide +kernel
theorem dX10_put_84 : decode cX10_put 84 = .ok (.getfield 67, 3) := by decide +kernel
theorem dX10_put_87 : decode cX10_put 87 = .ok (.iload_n 1, 1) := by decide +kernel
theorem dX10_put_88 : decode cX10_put 88 = .ok (.iload_n 2, 1) := by decide +kernel
theorem dX10_put_89 : decode cX10_put 89 = .ok (.invokevirtual 124, 3) := by decide +kernel
theorem dX10_put_92 : decode cX10_put 92 = .ok (.aload_n 0, 1) := by decide +kernel
theorem dX10_put_93 : decode cX10_put 93 = .ok (.getfield 40, 3) := by decide +kernel
theorem dX10_put_96 : decode cX10_put 96 = .ok (.invokevirtual 128, 3) := by decide +kernel
theorem dX10_put_99 : decode cX10_put 99 = .ok (.aload_n 0, 1) := by decide +kernel
theorem dX10_put_100 : decode cX10_put 100 = .ok (.getfield 26, 3) := by decide +kernel
theorem dX10_put_103 : decode cX10_put 103 = .ok (.invokevirtual 104, 3) := by decide +kernel
theorem dX10_put_106 : decode cX10_put 106 = .ok (.ireturn, 1) := by decide +kernel
set_option maxRecDepth 20000 in
theorem ggX10_unit_X9_has : GoodIn wsX10_unit wsX9_has := goodIn_r _ [6, 7, 37, 38, 39, 40] (by decide +kernel) (by decide +kernel)
set_option maxRecDepth 20000 in
theorem gX10_unit_X9_has : GoodIn wsX10_unit (wsV RX10 131 RX9 yX9_has wsX9_has) := goodIn_app (goodIn_of _ (by decide +kernel)) ggX10_unit_X9_has
set_option maxRecDepth 20000 in
theorem ggX10_unit_X9_letters : GoodIn wsX10_unit wsX9_letters := goodIn_r _ [11, 12, 13, 3, 4, 5, 6, 7, 37, 38, 39, 40] (by decide +kernel) (by decide +kernel)
set_option maxRecDepth 20000 in
theorem gX10_unit_X9_letters : GoodIn wsX10_unit (wsV RX10 134 RX9 yX9_letters wsX9_letters) := goodIn_app (goodIn_of _ (by decide +kernel)) ggX10_unit_X9_letters
set_option maxRecDepth 20000 in
theorem ggX10_unit_X9_behind : GoodIn wsX10_unit wsX9_behind := goodIn_r _ [17, 18, 13, 3, 4, 5, 6, 7, 37, 38, 39, 40] (by decide +kernel) (by decide +kernel)
set_option maxRecDepth 20000 in
theorem gX10_unit_X9_behind : GoodIn wsX10_unit (wsV RX10 138 RX9 yX9_behind wsX9_behind) := goodIn_app (goodIn_of _ (by decide +kernel)) ggX10_unit_X9_behind
set_option maxRecDepth 20000 in
theorem ggX10_unit_X9_wordNumber : GoodIn wsX10_unit wsX9_wordNumber := goodIn_r _ [22, 7, 23, 24, 25, 5, 26, 27, 15, 16, 17, 18, 13, 3, 4, 6, 37, 38, 39, 40] (by decide +kernel) (by decide +kernel)
set_option maxRecDepth 20000 in
theorem gX10_unit_X9_wordNumber : GoodIn wsX10_unit (wsV RX10 141 RX9 yX9_wordNumber wsX9_wordNumber) := goodIn_app (goodIn_of _ (by decide +kernel)) ggX10_unit_X9_wordNumber
theorem dX10_unit_0 : decode cX10_unit 0 = .ok (.aload_n 0, 1) := by decide +kernel
theorem dX10_unit_1 : decode cX10_unit 1 = .ok (.getfield 26, 3) := by decide +kernel
theorem dX10_unit_4 : decode cX10_unit 4 = .ok (.iload_n 1, 1) := by decide +kernel
theorem dX10_unit_5 : decode cX10_unit 5 = .ok (.invokevirtual 131, 3) := by decide +kernel
theorem dX10_unit_8 : decode cX10_unit 8 = .ok (.ifCond .ne 5, 3) := by decide +kernel
theorem dX10_unit_11 : decode cX10_unit 11 = .ok (.iconst (-1), 1) := by decide +kernel
theorem dX10_unit_12 : decode cX10_unit 12 = .ok (.ireturn, 1) := by decide +kernel
theorem dX10_unit_13 : decode cX10_unit 13 = .ok (.iload_n 2, 1) := by decide +kernel
theorem dX10_unit_14 : decode cX10_unit 14 = .ok (.tableswitch 53 0 2 #[26, 35, 44], 26) := by decide +kernel
theorem dX10_unit_40 : decode cX10_unit 40 = .ok (.aload_n 0, 1) := by decide +kernel
theorem dX10_unit_41 : decode cX10_unit 41 = .ok (.getfield 26, 3) := by decide +kernel
theorem dX10_unit_44 : decode cX10_unit 44 = .ok (.iload_n 1, 1) := by decide +kernel
theorem dX10_unit_45 : decode cX10_unit 45 = .ok (.invokevirtual 134, 3) := by decide +kernel
theorem dX10_unit_48 : decode cX10_unit 48 = .ok (.ireturn, 1) := by decide +kernel
theorem dX10_unit_49 : decode cX10_unit 49 = .ok (.aload_n 0, 1) := by decide +kernel
theorem dX10_unit_50 : decode cX10_unit 50 = .ok (.getfield 26, 3) := by decide +kernel
theorem dX10_unit_53 : decode cX10_unit 53 = .ok (.iload_n 1, 1) := by decide +kernel
theorem dX10_unit_54 : decode cX10_unit 54 = .ok (.invokevirtual 138, 3) := by decide +kernel
theorem dX10_unit_57 : decode cX10_unit 57 = .ok (.ireturn, 1) := by decide +kernel
theorem dX10_unit_58 : decode cX10_unit 58 = .ok (.aload_n 0, 1) := by decide +kernel
theorem dX10_unit_59 : decode cX10_unit 59 = .ok (.getfield 26, 3) := by decide +kernel
theorem dX10_unit_62 : decode cX10_unit 62 = .ok (.iload_n 1, 1) := by decide +kernel
theorem dX10_unit_63 : decode cX10_unit 63 = .ok (.invokevirtual 141, 3) := by decide +kernel
theorem dX10_unit_66 : decode cX10_unit 66 = .ok (.ireturn, 1) := by decide +kernel
theorem dX10_unit_67 : decode cX10_unit 67 = .ok (.iconst (-1), 1) := by decide +kernel
theorem dX10_unit_68 : decode cX10_unit 68 = .ok (.ireturn, 1) := by decide +kernel
set_option maxRecDepth 20000 in
theorem ggX10_measure_X1_changeLine : GoodIn wsX10_measure wsX1_changeLine := goodIn_r _ [6, 7, 8, 9, 10, 11, 21, 22, 23, 24, 25, 26, 27] (by decide +kernel) (by decide +kernel)
set_option maxRecDepth 20000 in
theorem gX10_measure_X1_changeLine : GoodIn wsX10_measure (wsV RX10 144 RX1 yX1_changeLine wsX1_changeLine) := goodIn_app (goodIn_of _ (by decide +kernel)) ggX10_measure_X1_changeLine
theorem dX10_measure_0 : decode cX10_measure 0 = .ok (.aload_n 0, 1) := by decide +kernel
theorem dX10_measure_1 : decode cX10_measure 1 = .ok (.getfield 33, 3) := by decide +kernel
theorem dX10_measure_4 : decode cX10_measure 4 = .ok (.iload_n 1, 1) := by decide +kernel
theorem dX10_measure_5 : decode cX10_measure 5 = .ok (.iload_n 2, 1) := by decide +kernel
theorem dX10_measure_6 : decode cX10_measure 6 = .ok (.invokevirtual 144, 3) := by decide +kernel
theorem dX10_measure_9 : decode cX10_measure 9 = .ok (.ireturn, 1) := by decide +kernel
set_option maxRecDepth 20000 in
theorem ggX10_strains_X1_changeStrains : GoodIn wsX10_strains wsX1_changeStrains := goodIn_r _ [6, 7, 8, 9, 10, 11, 12, 13, 14, 15, 16, 5, 17, 27, 28, 29, 30, 31, 32, 33] (by decide +kernel) (by decide +kernel)
set_option maxRecDepth 20000 in
theorem gX10_strains_X1_changeStrains : GoodIn wsX10_strains (wsV RX10 148 RX1 yX1_changeStrains wsX1_changeStrains) := goodIn_app (goodIn_of _ (by decide +kernel)) ggX10_strains_X1_changeStrains
theorem dX10_strains_0 : decode cX10_strains 0 = .ok (.aload_n 0, 1) := by decide +kernel
theorem dX10_strains_1 : decode cX10_strains 1 = .ok (.getfield 33, 3) := by decide +kernel
theorem dX10_strains_4 : decode cX10_strains 4 = .ok (.iload_n 1, 1) := by decide +kernel
theorem dX10_strains_5 : decode cX10_strains 5 = .ok (.iload_n 2, 1) := by decide +kernel
theorem dX10_strains_6 : decode cX10_strains 6 = .ok (.iload_n 3, 1) := by decide +kernel
theorem dX10_strains_7 : decode cX10_strains 7 = .ok (.iload 4, 2) := by decide +kernel
theorem dX10_strains_9 : decode cX10_strains 9 = .ok (.iload 5, 2) := by decide +kernel
theorem dX10_strains_11 : decode cX10_strains 11 = .ok (.invokevirtual 148, 3) := by decide +kernel
theorem dX10_strains_14 : decode cX10_strains 14 = .ok (.ireturn, 1) := by decide +kernel
set_option maxRecDepth 20000 in
theorem ggX10_like_X1_changeLikeness : GoodIn wsX10_like wsX1_changeLikeness := goodIn_r _ [6, 7, 8, 9, 10, 11, 12, 13, 14, 5, 15, 16, 17, 18, 28, 29, 30, 31, 32, 33, 34] (by decide +kernel) (by decide +kernel)
set_option maxRecDepth 20000 in
theorem gX10_like_X1_changeLikeness : GoodIn wsX10_like (wsV RX10 152 RX1 yX1_changeLikeness wsX1_changeLikeness) := goodIn_app (goodIn_of _ (by decide +kernel)) ggX10_like_X1_changeLikeness
theorem dX10_like_0 : decode cX10_like 0 = .ok (.aload_n 0, 1) := by decide +kernel
theorem dX10_like_1 : decode cX10_like 1 = .ok (.getfield 33, 3) := by decide +kernel
theorem dX10_like_4 : decode cX10_like 4 = .ok (.iload_n 1, 1) := by decide +kernel
theorem dX10_like_5 : decode cX10_like 5 = .ok (.iload_n 2, 1) := by decide +kernel
theorem dX10_like_6 : decode cX10_like 6 = .ok (.iload_n 3, 1) := by decide +kernel
theorem dX10_like_7 : decode cX10_like 7 = .ok (.invokevirtual 152, 3) := by decide +kernel
theorem dX10_like_10 : decode cX10_like 10 = .ok (.ireturn, 1) := by decide +kernel
set_option maxRecDepth 20000 in
theorem ggX10_set_X1_longest : GoodIn wsX10_set wsX1_longest := goodIn_r _ [9, 10, 190, 191, 192, 193, 194, 195, 196] (by decide +kernel) (by decide +kernel)
set_option maxRecDepth 20000 in
theorem gX10_set_X1_longest : GoodIn wsX10_set (wsV RX10 156 RX1 yX1_longest wsX1_longest) := goodIn_app (goodIn_of _ (by decide +kernel)) ggX10_set_X1_longest
set_option maxRecDepth 20000 in
theorem ggX10_set_X9_fitAlone : GoodIn wsX10_set wsX9_fitAlone := goodIn_r _ [15, 16, 17, 18, 19, 14, 20, 21, 22, 23, 24, 25, 26, 27, 28, 29, 30, 31, 32, 33, 34, 197, 198, 199, 200] (by decide +kernel) (by decide +kernel)
set_option maxRecDepth 20000 in
theorem gX10_set_X9_fitAlone : GoodIn wsX10_set (wsV RX10 159 RX9 yX9_fitAlone wsX9_fitAlone) := goodIn_app (goodIn_of _ (by decide +kernel)) ggX10_set_X9_fitAlone
set_option maxRecDepth 20000 in
theorem ggX10_set_X1_spread : GoodIn wsX10_set wsX1_spread := goodIn_r _ [38, 39, 190, 191, 192, 193, 194, 195, 196] (by decide +kernel) (by decide +kernel)
set_option maxRecDepth 20000 in
theorem gX10_set_X1_spread : GoodIn wsX10_set (wsV RX10 162 RX1 yX1_spread wsX1_spread) := goodIn_app (goodIn_of _ (by decide +kernel)) ggX10_set_X1_spread
set_option maxRecDepth 20000 in
theorem ggX10_set_X5_begin : GoodIn wsX10_set wsX5_begin := goodIn_r _ [44, 45, 46, 47, 48, 49, 50, 51, 52, 53, 54, 55, 56, 57, 58, 14, 59, 16, 60, 28, 29, 30, 31, 32, 33, 34, 21, 23, 24, 25, 26, 61, 62, 63, 64, 65, 66, 67, 68, 69, 70, 71, 72, 8, 73, 74, 75, 76, 77, 78, 79, 80, 81, 82, 83, 84, 18, 19, 20, 22, 85, 86, 87, 88, 89, 90, 201, 202, 203, 204, 205, 206, 207, 208, 209, 210, 211, 212, 213, 197, 198, 199, 200] (by decide +kernel) (by decide +kernel)
set_option maxRecDepth 20000 in
theorem gX10_set_X5_begin : GoodIn wsX10_set (wsV RX10 165 RX5 yX5_begin wsX5_begin) := goodIn_app (goodIn_of _ (by decide +kernel)) ggX10_set_X5_begin
set_option maxRecDepth 20000 in
theorem ggX10_set_X4_weighLines : GoodIn wsX10_set wsX4_weighLines := goodIn_r _ [95, 96, 97, 98, 99, 100, 101, 52, 102, 54, 103, 104, 105, 94, 106, 107, 108, 109, 110, 111, 112, 113, 114, 115, 82, 81, 116, 117, 118, 119, 120, 121, 122, 123, 83, 124, 6, 7, 8, 9, 10, 125, 126, 127, 128, 129, 130, 131, 132, 133, 134, 135, 136, 137, 138, 139, 140, 141, 142, 143, 144, 145, 146, 147, 148, 149, 150, 151, 152, 153, 154, 155, 156, 157, 158, 159, 160, 161, 162, 55, 70, 163, 164, 165, 166, 167, 168, 169, 170, 214, 215, 216, 217, 218, 207, 208, 209, 210, 211, 212, 213, 190, 191, 192, 193, 194, 195, 196] (by decide +kernel) (by decide +kernel)
set_option maxRecDepth 20000 in
theorem gX10_set_X4_weighLines : GoodIn wsX10_set (wsV RX10 169 RX4 yX4_weighLines wsX4_weighLines) := goodIn_app (goodIn_of _ (by decide +kernel)) ggX10_set_X4_weighLines
set_option maxRecDepth 20000 in
theorem ggX10_set_X4_putLines : GoodIn wsX10_set wsX4_putLines := goodIn_r _ [174, 96, 150, 146, 147, 148, 94, 149, 98, 151, 152, 153, 154, 107, 97, 99, 100, 101, 52, 102, 54, 155, 156, 157, 158, 81, 116, 117, 118, 119, 145, 113, 114, 115, 82, 159, 160, 161, 162, 55, 70, 163, 164, 165, 8, 166, 167, 168, 169, 170, 125, 126, 127, 175, 176, 177, 43, 178, 46, 179, 180, 214, 215, 216, 217, 218, 207, 208, 209, 210, 211, 212, 213, 190, 191, 192, 193, 194, 195, 196, 201, 202, 203, 204, 205, 206] (by decide +kernel) (by decide +kernel)
set_option maxRecDepth 20000 in
theorem gX10_set_X4_putLines : GoodIn wsX10_set (wsV RX10 172 RX4 yX4_putLines wsX4_putLines) := goodIn_app (goodIn_of _ (by decide +kernel)) ggX10_set_X4_putLines
theorem dX10_set_0 : decode cX10_set 0 = .ok (.aload_n 0, 1) := by decide +kernel
theorem dX10_set_1 : decode cX10_set 1 = .ok (.getfield 26, 3) := by decide +kernel
theorem dX10_set_4 : decode cX10_set 4 = .ok (.aload_n 0, 1) := by decide +kernel
theorem dX10_set_5 : decode cX10_set 5 = .ok (.getfield 33, 3) := by decide +kernel
theorem dX10_set_8 : decode cX10_set 8 = .ok (.invokevirtual 156, 3) := by decide +kernel
theorem dX10_set_11 : decode cX10_set 11 = .ok (.invokevirtual 159, 3) := by decide +kernel
theorem dX10_set_14 : decode cX10_set 14 = .ok (.ifCond .ne 5, 3) := by decide +kernel
theorem dX10_set_17 : decode cX10_set 17 = .ok (.iconst (-1), 1) := by decide +kernel
theorem dX10_set_18 : decode cX10_set 18 = .ok (.ireturn, 1) := by decide +kernel
theorem dX10_set_19 : decode cX10_set 19 = .ok (.aload_n 0, 1) := by decide +kernel
theorem dX10_set_20 : decode cX10_set 20 = .ok (.getfield 40, 3) := by decide +kernel
theorem dX10_set_23 : decode cX10_set 23 = .ok (.aload_n 0, 1) := by decide +kernel
theorem dX10_set_24 : decode cX10_set 24 = .ok (.getfield 26, 3) := by decide +kernel
theorem dX10_set_27 : decode cX10_set 27 = .ok (.aload_n 0, 1) := by decide +kernel
theorem dX10_set_28 : decode cX10_set 28 = .ok (.getfield 33, 3) := by decide +kernel
theorem dX10_set_31 : decode cX10_set 31 = .ok (.invokevirtual 162, 3) := by decide +kernel
theorem dX10_set_34 : decode cX10_set 34 = .ok (.invokevirtual 165, 3) := by decide +kernel
theorem dX10_set_37 : decode cX10_set 37 = .ok (.aload_n 0, 1) := by decide +kernel
theorem dX10_set_38 : decode cX10_set 38 = .ok (.getfield 53, 3) := by decide +kernel
theorem dX10_set_41 : decode cX10_set 41 = .ok (.invokevirtual 169, 3) := by decide +kernel
theorem dX10_set_44 : decode cX10_set 44 = .ok (.aload_n 0, 1) := by decide +kernel
theorem dX10_set_45 : decode cX10_set 45 = .ok (.getfield 53, 3) := by decide +kernel
theorem dX10_set_48 : decode cX10_set 48 = .ok (.aload_n 0, 1) := by decide +kernel
theorem dX10_set_49 : decode cX10_set 49 = .ok (.getfield 40, 3) := by decide +kernel
theorem dX10_set_52 : decode cX10_set 52 = .ok (.invokevirtual 172, 3) := by decide +kernel
theorem dX10_set_55 : decode cX10_set 55 = .ok (.ireturn, 1) := by decide +kernel
set_option maxRecDepth 20000 in
theorem ggX10_lines_X5_isThere : GoodIn wsX10_lines wsX5_isThere := goodIn_r _ [6, 7, 22, 23, 24, 25, 26, 27] (by decide +kernel) (by decide +kernel)
set_option maxRecDepth 20000 in
theorem gX10_lines_X5_isThere : GoodIn wsX10_lines (wsV RX10 176 RX5 yX5_isThere wsX5_isThere) := goodIn_app (goodIn_of _ (by decide +kernel)) ggX10_lines_X5_isThere
set_option maxRecDepth 20000 in
theorem ggX10_lines_X5_count : GoodIn wsX10_lines wsX5_count := goodIn_r _ [11, 12, 22, 23, 24, 25, 26, 27] (by decide +kernel) (by decide +kernel)
set_option maxRecDepth 20000 in
theorem gX10_lines_X5_count : GoodIn wsX10_lines (wsV RX10 179 RX5 yX5_count wsX5_count) := goodIn_app (goodIn_of _ (by decide +kernel)) ggX10_lines_X5_count
theorem dX10_lines_0 : decode cX10_lines 0 = .ok (.aload_n 0, 1) := by decide +kernel
theorem dX10_lines_1 : decode cX10_lines 1 = .ok (.getfield 40, 3) := by decide +kernel
theorem dX10_lines_4 : decode cX10_lines 4 = .ok (.invokevirtual 176, 3) := by decide +kernel
theorem dX10_lines_7 : decode cX10_lines 7 = .ok (.ifCond .eq 13, 3) := by decide +kernel
theorem dX10_lines_10 : decode cX10_lines 10 = .ok (.aload_n 0, 1) := by decide +kernel
theorem dX10_lines_11 : decode cX10_lines 11 = .ok (.getfield 40, 3) := by decide +kernel
theorem dX10_lines_14 : decode cX10_lines 14 = .ok (.invokevirtual 179, 3) := by decide +kernel
theorem dX10_lines_17 : decode cX10_lines 17 = .ok (.goto 4, 3) := by decide +kernel
theorem dX10_lines_20 : decode cX10_lines 20 = .ok (.iconst (-1), 1) := by decide +kernel
theorem dX10_lines_21 : decode cX10_lines 21 = .ok (.ireturn, 1) := by decide +kernel
set_option maxRecDepth 20000 in
theorem ggX10_line_X5_has : GoodIn wsX10_line wsX5_has := goodIn_r _ [7, 8, 9, 67, 68, 69, 70, 71, 72] (by decide +kernel) (by decide +kernel)
set_option maxRecDepth 20000 in
theorem gX10_line_X5_has : GoodIn wsX10_line (wsV RX10 180 RX5 yX5_has wsX5_has) := goodIn_app (goodIn_of _ (by decide +kernel)) ggX10_line_X5_has
set_option maxRecDepth 20000 in
theorem ggX10_line_X5_first : GoodIn wsX10_line wsX5_first := goodIn_r _ [13, 14, 15, 4, 5, 6, 7, 8, 9, 67, 68, 69, 70, 71, 72] (by decide +kernel) (by decide +kernel)
set_option maxRecDepth 20000 in
theorem gX10_line_X5_first : GoodIn wsX10_line (wsV RX10 181 RX5 yX5_first wsX5_first) := goodIn_app (goodIn_of _ (by decide +kernel)) ggX10_line_X5_first
set_option maxRecDepth 20000 in
theorem ggX10_line_X5_unitsIn : GoodIn wsX10_line wsX5_unitsIn := goodIn_r _ [19, 20, 15, 4, 5, 6, 7, 8, 9, 67, 68, 69, 70, 71, 72] (by decide +kernel) (by decide +kernel)
set_option maxRecDepth 20000 in
theorem gX10_line_X5_unitsIn : GoodIn wsX10_line (wsV RX10 184 RX5 yX5_unitsIn wsX5_unitsIn) := goodIn_app (goodIn_of _ (by decide +kernel)) ggX10_line_X5_unitsIn
set_option maxRecDepth 20000 in
theorem ggX10_line_X5_signsIn : GoodIn wsX10_line wsX5_signsIn := goodIn_r _ [24, 25, 14, 20, 15, 4, 5, 6, 7, 8, 9, 26, 27, 28, 29, 30, 31, 32, 33, 34, 35, 36, 37, 38, 39, 40, 41, 42, 43, 44, 45, 46, 67, 68, 69, 70, 71, 72, 73, 74, 75, 76, 77, 78, 79] (by decide +kernel) (by decide +kernel)
set_option maxRecDepth 20000 in
theorem gX10_line_X5_signsIn : GoodIn wsX10_line (wsV RX10 187 RX5 yX5_signsIn wsX5_signsIn) := goodIn_app (goodIn_of _ (by decide +kernel)) ggX10_line_X5_signsIn
set_option maxRecDepth 20000 in
theorem ggX10_line_X2_tintOf : GoodIn wsX10_line wsX2_tintOf := goodIn_r _ [51, 52, 53, 80, 81] (by decide +kernel) (by decide +kernel)
set_option maxRecDepth 20000 in
theorem gX10_line_X2_tintOf : GoodIn wsX10_line (wsV RX10 190 RX2 yX2_tintOf wsX2_tintOf) := goodIn_app (goodIn_of _ (by decide +kernel)) ggX10_line_X2_tintOf
set_option maxRecDepth 20000 in
theorem ggX10_line_X2_pageOf : GoodIn wsX10_line wsX2_pageOf := goodIn_r _ [57, 52, 80, 81] (by decide +kernel) (by decide +kernel)
set_option maxRecDepth 20000 in
theorem gX10_line_X2_pageOf : GoodIn wsX10_line (wsV RX10 193 RX2 yX2_pageOf wsX2_pageOf) := goodIn_app (goodIn_of _ (by decide +kernel)) ggX10_line_X2_pageOf
theorem dX10_line_0 : decode cX10_line 0 = .ok (.aload_n 0, 1) := by decide +kernel
theorem dX10_line_1 : decode cX10_line 1 = .ok (.getfield 40, 3) := by decide +kernel
theorem dX10_line_4 : decode cX10_line 4 = .ok (.iload_n 1, 1) := by decide +kernel
theorem dX10_line_5 : decode cX10_line 5 = .ok (.invokevirtual 180, 3) := by decide +kernel
theorem dX10_line_8 : decode cX10_line 8 = .ok (.ifCond .ne 5, 3) := by decide +kernel
theorem dX10_line_11 : decode cX10_line 11 = .ok (.iconst (-1), 1) := by decide +kernel
theorem dX10_line_12 : decode cX10_line 12 = .ok (.ireturn, 1) := by decide +kernel
theorem dX10_line_13 : decode cX10_line 13 = .ok (.iload_n 2, 1) := by decide +kernel
theorem dX10_line_14 : decode cX10_line 14 = .ok (.tableswitch 79 0 4 #[34, 43, 52, 61, 70], 34) := by decide +kernel
theorem dX10_line_48 : decode cX10_line 48 = .ok (.aload_n 0, 1) := by decide +kernel
theorem dX10_line_49 : decode cX10_line 49 = .ok (.getfield 40, 3) := by decide +kernel
theorem dX10_line_52 : decode cX10_line 52 = .ok (.iload_n 1, 1) := by decide +kernel
theorem dX10_line_53 : decode cX10_line 53 = .ok (.invokevirtual 181, 3) := by decide +kernel
theorem dX10_line_56 : decode cX10_line 56 = .ok (.ireturn, 1) := by decide +kernel
theorem dX10_line_57 : decode cX10_line 57 = .ok (.aload_n 0, 1) := by decide +kernel
theorem dX10_line_58 : decode cX10_line 58 = .ok (.getfield 40, 3) := by decide +kernel
theorem dX10_line_61 : decode cX10_line 61 = .ok (.iload_n 1, 1) := by decide +kernel
theorem dX10_line_62 : decode cX10_line 62 = .ok (.invokevirtual 184, 3) := by decide +kernel
theorem dX10_line_65 : decode cX10_line 65 = .ok (.ireturn, 1) := by decide +kernel
theorem dX10_line_66 : decode cX10_line 66 = .ok (.aload_n 0, 1) := by decide +kernel
theorem dX10_line_67 : decode cX10_line 67 = .ok (.getfield 40, 3) := by decide +kernel
theorem dX10_line_70 : decode cX10_line 70 = .ok (.iload_n 1, 1) := by decide +kernel
theorem dX10_line_71 : decode cX10_line 71 = .ok (.invokevirtual 187, 3) := by decide +kernel
theorem dX10_line_74 : decode cX10_line 74 = .ok (.ireturn, 1) := by decide +kernel
theorem dX10_line_75 : decode cX10_line 75 = .ok (.aload_n 0, 1) := by decide +kernel
theorem dX10_line_76 : decode cX10_line 76 = .ok (.getfield 60, 3) := by decide +kernel
theorem dX10_line_79 : decode cX10_line 79 = .ok (.iload_n 1, 1) := by decide +kernel
theorem dX10_line_80 : decode cX10_line 80 = .ok (.invokevirtual 190, 3) := by decide +kernel
theorem dX10_line_83 : decode cX10_line 83 = .ok (.ireturn, 1) := by decide +kernel
theorem dX10_line_84 : decode cX10_line 84 = .ok (.aload_n 0, 1) := by decide +kernel
theorem dX10_line_85 : decode cX10_line 85 = .ok (.getfield 60, 3) := by decide +kernel
theorem dX10_line_88 : decode cX10_line 88 = .ok (.iload_n 1, 1) := by decide +kernel
theorem dX10_line_89 : decode cX10_line 89 = .ok (.invokevirtual 193, 3) := by decide +kernel
theorem dX10_line_92 : decode cX10_line 92 = .ok (.ireturn, 1) := by decide +kernel
theorem dX10_line_93 : decode cX10_line 93 = .ok (.iconst (-1), 1) := by decide +kernel
theorem dX10_line_94 : decode cX10_line 94 = .ok (.ireturn, 1) := by decide +kernel
set_option maxRecDepth 20000 in
theorem ggX10_sign_X5_signAt : GoodIn wsX10_sign wsX5_signAt := goodIn_r _ [6, 7, 8, 9, 10, 11, 12, 5, 13, 14, 15, 16, 17, 18, 19, 20, 21, 22, 23, 24, 25, 26, 27, 28, 29, 30, 31, 32, 33, 34, 35, 36, 37, 38, 39, 40, 41, 51, 52, 53, 54, 55, 56, 57, 58, 59, 60, 61, 62, 63] (by decide +kernel) (by decide +kernel)
set_option maxRecDepth 20000 in
theorem gX10_sign_X5_signAt : GoodIn wsX10_sign (wsV RX10 196 RX5 yX5_signAt wsX5_signAt) := goodIn_app (goodIn_of _ (by decide +kernel)) ggX10_sign_X5_signAt
theorem dX10_sign_0 : decode cX10_sign 0 = .ok (.aload_n 0, 1) := by decide +kernel
theorem dX10_sign_1 : decode cX10_sign 1 = .ok (.getfield 40, 3) := by decide +kernel
theorem dX10_sign_4 : decode cX10_sign 4 = .ok (.iload_n 1, 1) := by decide +kernel
theorem dX10_sign_5 : decode cX10_sign 5 = .ok (.iload_n 2, 1) := by decide +kernel
theorem dX10_sign_6 : decode cX10_sign 6 = .ok (.invokevirtual 196, 3) := by decide +kernel
theorem dX10_sign_9 : decode cX10_sign 9 = .ok (.ireturn, 1) := by decide +kernel
set_option maxRecDepth 20000 in
theorem ggX10_rivers_X5_isThere : GoodIn wsX10_rivers wsX5_isThere := goodIn_r _ [6, 7, 59, 60, 61, 62, 63, 64] (by decide +kernel) (by decide +kernel)
set_option maxRecDepth 20000 in
theorem gX10_rivers_X5_isThere : GoodIn wsX10_rivers (wsV RX10 176 RX5 yX5_isThere wsX5_isThere) := goodIn_app (goodIn_of _ (by decide +kernel)) ggX10_rivers_X5_isThere
set_option maxRecDepth 20000 in
theorem ggX10_rivers_X5_riversAt : GoodIn wsX10_rivers wsX5_riversAt := goodIn_r _ [11, 12, 13, 14, 15, 5, 16, 17, 18, 19, 20, 21, 22, 23, 7, 24, 25, 26, 27, 28, 29, 30, 31, 32, 33, 34, 35, 36, 37, 38, 39, 40, 41, 42, 43, 44, 45, 46, 47, 48, 49, 59, 60, 61, 62, 63, 64, 65, 66, 67, 68, 69, 70, 71] (by decide +kernel) (by decide +kernel)
set_option maxRecDepth 20000 in
theorem gX10_rivers_X5_riversAt : GoodIn wsX10_rivers (wsV RX10 200 RX5 yX5_riversAt wsX5_riversAt) := goodIn_app (goodIn_of _ (by decide +kernel)) ggX10_rivers_X5_riversAt
theorem dX10_rivers_0 : decode cX10_rivers 0 = .ok (.aload_n 0, 1) := by decide +kernel
theorem dX10_rivers_1 : decode cX10_rivers 1 = .ok (.getfield 40, 3) := by decide +kernel
theorem dX10_rivers_4 : decode cX10_rivers 4 = .ok (.invokevirtual 176, 3) := by decide +kernel
theorem dX10_rivers_7 : decode cX10_rivers 7 = .ok (.ifCond .eq 8, 3) := by decide +kernel
theorem dX10_rivers_10 : decode cX10_rivers 10 = .ok (.iload_n 1, 1) := by decide +kernel
theorem dX10_rivers_11 : decode cX10_rivers 11 = .ok (.iconst 1, 1) := by decide +kernel
theorem dX10_rivers_12 : decode cX10_rivers 12 = .ok (.if_icmp .ge 5, 3) := by decide +kernel
theorem dX10_rivers_15 : decode cX10_rivers 15 = .ok (.iconst (-1), 1) := by decide +kernel
theorem dX10_rivers_16 : decode cX10_rivers 16 = .ok (.ireturn, 1) := by decide +kernel
theorem dX10_rivers_17 : decode cX10_rivers 17 = .ok (.iconst 0, 1) := by decide +kernel
theorem dX10_rivers_18 : decode cX10_rivers 18 = .ok (.istore_n 2, 1) := by decide +kernel
theorem dX10_rivers_19 : decode cX10_rivers 19 = .ok (.iconst 0, 1) := by decide +kernel
theorem dX10_rivers_20 : decode cX10_rivers 20 = .ok (.istore_n 3, 1) := by decide +kernel
theorem dX10_rivers_21 : decode cX10_rivers 21 = .ok (.iload_n 3, 1) := by decide +kernel
theorem dX10_rivers_22 : decode cX10_rivers 22 = .ok (.bipush 60, 2) := by decide +kernel
theorem dX10_rivers_24 : decode cX10_rivers 24 = .ok (.if_icmp .ge 21, 3) := by decide +kernel
theorem dX10_rivers_27 : decode cX10_rivers 27 = .ok (.iload_n 2, 1) := by decide +kernel
theorem dX10_rivers_28 : decode cX10_rivers 28 = .ok (.aload_n 0, 1) := by decide +kernel
theorem dX10_rivers_29 : decode cX10_rivers 29 = .ok (.getfield 40, 3) := by decide +kernel
theorem dX10_rivers_32 : decode cX10_rivers 32 = .ok (.iload_n 3, 1) := by decide +kernel
theorem dX10_rivers_33 : decode cX10_rivers 33 = .ok (.iload_n 1, 1) := by decide +kernel
theorem dX10_rivers_34 : decode cX10_rivers 34 = .ok (.invokevirtual 200, 3) := by decide +kernel
theorem dX10_rivers_37 : decode cX10_rivers 37 = .ok (.iadd, 1) := by decide +kernel
theorem dX10_rivers_38 : decode cX10_rivers 38 = .ok (.istore_n 2, 1) := by decide +kernel
theorem dX10_rivers_39 : decode cX10_rivers 39 = .ok (.iinc 3 1, 3) := by decide +kernel
theorem dX10_rivers_42 : decode cX10_rivers 42 = .ok (.goto (-21), 3) := by decide +kernel
theorem dX10_rivers_45 : decode cX10_rivers 45 = .ok (.iload_n 2, 1) := by decide +kernel
theorem dX10_rivers_46 : decode cX10_rivers 46 = .ok (.ireturn, 1) := by decide +kernel
set_option maxRecDepth 20000 in
theorem ggX10_page_X2_change : GoodIn wsX10_page wsX2_change := goodIn_r _ [6, 7, 8, 9, 10, 11, 21, 22] (by decide +kernel) (by decide +kernel)
set_option maxRecDepth 20000 in
theorem gX10_page_X2_change : GoodIn wsX10_page (wsV RX10 203 RX2 yX2_change wsX2_change) := goodIn_app (goodIn_of _ (by decide +kernel)) ggX10_page_X2_change
theorem dX10_page_0 : decode cX10_page 0 = .ok (.aload_n 0, 1) := by decide +kernel
theorem dX10_page_1 : decode cX10_page 1 = .ok (.getfield 60, 3) := by decide +kernel
theorem dX10_page_4 : decode cX10_page 4 = .ok (.iload_n 1, 1) := by decide +kernel
theorem dX10_page_5 : decode cX10_page 5 = .ok (.iload_n 2, 1) := by decide +kernel
theorem dX10_page_6 : decode cX10_page 6 = .ok (.invokevirtual 203, 3) := by decide +kernel
theorem dX10_page_9 : decode cX10_page 9 = .ok (.ireturn, 1) := by decide +kernel
set_option maxRecDepth 20000 in
theorem ggX10_mark_X5_isOfText : GoodIn wsX10_mark wsX5_isOfText := goodIn_r _ [9, 10, 11, 48, 49, 50, 51, 52, 53] (by decide +kernel) (by decide +kernel)
set_option maxRecDepth 20000 in
theorem gX10_mark_X5_isOfText : GoodIn wsX10_mark (wsV RX10 206 RX5 yX5_isOfText wsX5_isOfText) := goodIn_app (goodIn_of _ (by decide +kernel)) ggX10_mark_X5_isOfText
set_option maxRecDepth 20000 in
theorem ggX10_mark_X9_has : GoodIn wsX10_mark wsX9_has := goodIn_r _ [16, 17, 54, 55, 56, 57] (by decide +kernel) (by decide +kernel)
set_option maxRecDepth 20000 in
theorem gX10_mark_X9_has : GoodIn wsX10_mark (wsV RX10 131 RX9 yX9_has wsX9_has) := goodIn_app (goodIn_of _ (by decide +kernel)) ggX10_mark_X9_has
set_option maxRecDepth 20000 in
theorem ggX10_mark_X5_lineOf : GoodIn wsX10_mark wsX5_lineOf := goodIn_r _ [21, 22, 23, 24, 48, 49, 50, 51, 52, 53] (by decide +kernel) (by decide +kernel)
set_option maxRecDepth 20000 in
theorem gX10_mark_X5_lineOf : GoodIn wsX10_mark (wsV RX10 209 RX5 yX5_lineOf wsX5_lineOf) := goodIn_app (goodIn_of _ (by decide +kernel)) ggX10_mark_X5_lineOf
set_option maxRecDepth 20000 in
theorem ggX10_mark_X2_pageOf : GoodIn wsX10_mark wsX2_pageOf := goodIn_r _ [29, 30, 58, 59] (by decide +kernel) (by decide +kernel)
set_option maxRecDepth 20000 in
theorem gX10_mark_X2_pageOf : GoodIn wsX10_mark (wsV RX10 193 RX2 yX2_pageOf wsX2_pageOf) := goodIn_app (goodIn_of _ (by decide +kernel)) ggX10_mark_X2_pageOf
set_option maxRecDepth 20000 in
theorem ggX10_mark_X0_add : GoodIn wsX10_mark wsX0_add := goodIn_r _ [35, 36, 37, 38, 60, 61, 62] (by decide +kernel) (by decide +kernel)
set_option maxRecDepth 20000 in
theorem gX10_mark_X0_add : GoodIn wsX10_mark (wsV RX10 212 RX0 yX0_add wsX0_add) := goodIn_app (goodIn_of _ (by decide +kernel)) ggX10_mark_X0_add
theorem dX10_mark_0 : decode cX10_mark 0 = .ok (.aload_n 0, 1) := by decide +kernel
theorem dX10_mark_1 : decode cX10_mark 1 = .ok (.getfield 40, 3) := by decide +kernel
theorem dX10_mark_4 : decode cX10_mark 4 = .ok (.invokevirtual 206, 3) := by decide +kernel
theorem dX10_mark_7 : decode cX10_mark 7 = .ok (.ifCond .eq 14, 3) := by decide +kernel
theorem dX10_mark_10 : decode cX10_mark 10 = .ok (.aload_n 0, 1) := by decide +kernel
theorem dX10_mark_11 : decode cX10_mark 11 = .ok (.getfield 26, 3) := by decide +kernel
theorem dX10_mark_14 : decode cX10_mark 14 = .ok (.iload_n 1, 1) := by decide +kernel
theorem dX10_mark_15 : decode cX10_mark 15 = .ok (.invokevirtual 131, 3) := by decide +kernel
theorem dX10_mark_18 : decode cX10_mark 18 = .ok (.ifCond .ne 5, 3) := by decide +kernel
theorem dX10_mark_21 : decode cX10_mark 21 = .ok (.iconst (-1), 1) := by decide +kernel
theorem dX10_mark_22 : decode cX10_mark 22 = .ok (.ireturn, 1) := by decide +kernel
theorem dX10_mark_23 : decode cX10_mark 23 = .ok (.aload_n 0, 1) := by decide +kernel
theorem dX10_mark_24 : decode cX10_mark 24 = .ok (.getfield 67, 3) := by decide +kernel
theorem dX10_mark_27 : decode cX10_mark 27 = .ok (.iload_n 1, 1) := by decide +kernel
theorem dX10_mark_28 : decode cX10_mark 28 = .ok (.aload_n 0, 1) := by decide +kernel
theorem dX10_mark_29 : decode cX10_mark 29 = .ok (.getfield 60, 3) := by decide +kernel
theorem dX10_mark_32 : decode cX10_mark 32 = .ok (.aload_n 0, 1) := by decide +kernel
theorem dX10_mark_33 : decode cX10_mark 33 = .ok (.getfield 40, 3) := by decide +kernel
theorem dX10_mark_36 : decode cX10_mark 36 = .ok (.iload_n 1, 1) := by decide +kernel
theorem dX10_mark_37 : decode cX10_mark 37 = .ok (.invokevirtual 209, 3) := by decide +kernel
theorem dX10_mark_40 : decode cX10_mark 40 = .ok (.invokevirtual 193, 3) := by decide +kernel
theorem dX10_mark_43 : decode cX10_mark 43 = .ok (.invokevirtual 212, 3) := by decide +kernel
theorem dX10_mark_46 : decode cX10_mark 46 = .ok (.ireturn, 1) := by decide +kernel
set_option maxRecDepth 20000 in
theorem ggX10_marked_X0_has : GoodIn wsX10_marked wsX0_has := goodIn_r _ [6, 7, 55, 56, 57] (by decide +kernel) (by decide +kernel)
set_option maxRecDepth 20000 in
theorem gX10_marked_X0_has : GoodIn wsX10_marked (wsV RX10 215 RX0 yX0_has wsX0_has) := goodIn_app (goodIn_of _ (by decide +kernel)) ggX10_marked_X0_has
set_option maxRecDepth 20000 in
theorem ggX10_marked_X0_unitOf : GoodIn wsX10_marked wsX0_unitOf := goodIn_r _ [11, 12, 13, 3, 4, 5, 6, 7, 55, 56, 57] (by decide +kernel) (by decide +kernel)
set_option maxRecDepth 20000 in
theorem gX10_marked_X0_unitOf : GoodIn wsX10_marked (wsV RX10 216 RX0 yX0_unitOf wsX0_unitOf) := goodIn_app (goodIn_of _ (by decide +kernel)) ggX10_marked_X0_unitOf
set_option maxRecDepth 20000 in
theorem ggX10_marked_X0_pageOf : GoodIn wsX10_marked wsX0_pageOf := goodIn_r _ [17, 18, 13, 3, 4, 5, 6, 7, 55, 56, 57] (by decide +kernel) (by decide +kernel)
set_option maxRecDepth 20000 in
theorem gX10_marked_X0_pageOf : GoodIn wsX10_marked (wsV RX10 219 RX0 yX0_pageOf wsX0_pageOf) := goodIn_app (goodIn_of _ (by decide +kernel)) ggX10_marked_X0_pageOf
set_option maxRecDepth 20000 in
theorem ggX10_marked_X10_shiftOf : GoodIn wsX10_marked wsX10_shiftOf := goodIn_r _ [23, 24, 25, 1, 26, 27, 28, 29, 30, 31, 32, 8, 9, 10, 5, 11, 12, 13, 3, 4, 6, 7, 33, 34, 35, 36, 37, 38, 39, 40, 41, 42, 43, 44, 45, 14, 15, 16, 17, 18, 46, 47, 48, 49, 50, 51, 52, 53, 54, 58, 59, 60, 61, 62, 63, 55, 56, 57, 64, 65] (by decide +kernel) (by decide +kernel)
set_option maxRecDepth 20000 in
theorem gX10_marked_X10_shiftOf : GoodIn wsX10_marked (wsV RX10 220 RX10 yX10_shiftOf wsX10_shiftOf) := goodIn_app (goodIn_of _ (by decide +kernel)) ggX10_marked_X10_shiftOf
theorem dX10_marked_0 : decode cX10_marked 0 = .ok (.aload_n 0, 1) := by decide +kernel
theorem dX10_marked_1 : decode cX10_marked 1 = .ok (.getfield 67, 3) := by decide +kernel
theorem dX10_marked_4 : decode cX10_marked 4 = .ok (.iload_n 1, 1) := by decide +kernel
theorem dX10_marked_5 : decode cX10_marked 5 = .ok (.invokevirtual 215, 3) := by decide +kernel
theorem dX10_marked_8 : decode cX10_marked 8 = .ok (.ifCond .ne 5, 3) := by decide +kernel
theorem dX10_marked_11 : decode cX10_marked 11 = .ok (.iconst (-1), 1) := by decide +kernel
theorem dX10_marked_12 : decode cX10_marked 12 = .ok (.ireturn, 1) := by decide +kernel
theorem dX10_marked_13 : decode cX10_marked 13 = .ok (.iload_n 2, 1) := by decide +kernel
theorem dX10_marked_14 : decode cX10_marked 14 = .ok (.tableswitch 50 0 2 #[26, 35, 44], 26) := by decide +kernel
theorem dX10_marked_40 : decode cX10_marked 40 = .ok (.aload_n 0, 1) := by decide +kernel
theorem dX10_marked_41 : decode cX10_marked 41 = .ok (.getfield 67, 3) := by decide +kernel
theorem dX10_marked_44 : decode cX10_marked 44 = .ok (.iload_n 1, 1) := by decide +kernel
theorem dX10_marked_45 : decode cX10_marked 45 = .ok (.invokevirtual 216, 3) := by decide +kernel
theorem dX10_marked_48 : decode cX10_marked 48 = .ok (.ireturn, 1) := by decide +kernel
theorem dX10_marked_49 : decode cX10_marked 49 = .ok (.aload_n 0, 1) := by decide +kernel
theorem dX10_marked_50 : decode cX10_marked 50 = .ok (.getfield 67, 3) := by decide +kernel
theorem dX10_marked_53 : decode cX10_marked 53 = .ok (.iload_n 1, 1) := by decide +kernel
theorem dX10_marked_54 : decode cX10_marked 54 = .ok (.invokevirtual 219, 3) := by decide +kernel
theorem dX10_marked_57 : decode cX10_marked 57 = .ok (.ireturn, 1) := by decide +kernel
theorem dX10_marked_58 : decode cX10_marked 58 = .ok (.aload_n 0, 1) := by decide +kernel
theorem dX10_marked_59 : decode cX10_marked 59 = .ok (.iload_n 1, 1) := by decide +kernel
theorem dX10_marked_60 : decode cX10_marked 60 = .ok (.invokevirtual 220, 3) := by decide +kernel
theorem dX10_marked_63 : decode cX10_marked 63 = .ok (.ireturn, 1) := by decide +kernel
theorem dX10_marked_64 : decode cX10_marked 64 = .ok (.iconst (-1), 1) := by decide +kernel
theorem dX10_marked_65 : decode cX10_marked 65 = .ok (.ireturn, 1) := by decide +kernel
set_option maxRecDepth 20000 in
theorem ggX10_test_X8_begin : GoodIn wsX10_test wsX8_begin := goodIn_r _ [6, 7, 8, 9, 10, 11, 12, 13, 14, 5, 15, 16, 17, 18, 19, 20, 21, 22, 23, 24, 25, 26, 27, 28, 29, 30, 31, 32, 33, 34, 35, 36, 37, 38, 39, 49, 50, 51, 52, 53, 54, 55, 56, 57] (by decide +kernel) (by decide +kernel)
set_option maxRecDepth 20000 in
theorem gX10_test_X8_begin : GoodIn wsX10_test (wsV RX10 223 RX8 yX8_begin wsX8_begin) := goodIn_app (goodIn_of _ (by decide +kernel)) ggX10_test_X8_begin
theorem dX10_test_0 : decode cX10_test 0 = .ok (.aload_n 0, 1) := by decide +kernel
theorem dX10_test_1 : decode cX10_test 1 = .ok (.getfield 74, 3) := by decide +kernel
theorem dX10_test_4 : decode cX10_test 4 = .ok (.iload_n 1, 1) := by decide +kernel
theorem dX10_test_5 : decode cX10_test 5 = .ok (.iload_n 2, 1) := by decide +kernel
theorem dX10_test_6 : decode cX10_test 6 = .ok (.iload_n 3, 1) := by decide +kernel
theorem dX10_test_7 : decode cX10_test 7 = .ok (.invokevirtual 223, 3) := by decide +kernel
theorem dX10_test_10 : decode cX10_test 10 = .ok (.ireturn, 1) := by decide +kernel
set_option maxRecDepth 20000 in
theorem ggX10_tested_X8_tell : GoodIn wsX10_tested wsX8_tell := goodIn_r _ [6, 7, 8, 9, 10, 11, 12, 13, 14, 15, 5, 16, 17, 18, 19, 20, 21, 22, 32, 33, 34, 35, 36, 37, 38, 39, 40] (by decide +kernel) (by decide +kernel)
set_option maxRecDepth 20000 in
theorem gX10_tested_X8_tell : GoodIn wsX10_tested (wsV RX10 226 RX8 yX8_tell wsX8_tell) := goodIn_app (goodIn_of _ (by decide +kernel)) ggX10_tested_X8_tell
theorem dX10_tested_0 : decode cX10_tested 0 = .ok (.aload_n 0, 1) := by decide +kernel
theorem dX10_tested_1 : decode cX10_tested 1 = .ok (.getfield 74, 3) := by decide +kernel
theorem dX10_tested_4 : decode cX10_tested 4 = .ok (.iload_n 1, 1) := by decide +kernel
theorem dX10_tested_5 : decode cX10_tested 5 = .ok (.invokevirtual 226, 3) := by decide +kernel
theorem dX10_tested_8 : decode cX10_tested 8 = .ok (.ireturn, 1) := by decide +kernel
set_option maxRecDepth 20000 in
theorem ggX10_answer_X8_hear : GoodIn wsX10_answer wsX8_hear := goodIn_r _ [6, 7, 8, 9, 10, 11, 12, 5, 13, 14, 15, 16, 17, 18, 19, 20, 21, 22, 23, 24, 25, 26, 27, 28, 29, 30, 31, 32, 33, 34, 35, 36, 37, 38, 39, 40, 41, 42, 43, 44, 45, 46, 56, 57, 58, 59, 60, 61, 62, 63, 64] (by decide +kernel) (by decide +kernel)
set_option maxRecDepth 20000 in
theorem gX10_answer_X8_hear : GoodIn wsX10_answer (wsV RX10 229 RX8 yX8_hear wsX8_hear) := goodIn_app (goodIn_of _ (by decide +kernel)) ggX10_answer_X8_hear
theorem dX10_answer_0 : decode cX10_answer 0 = .ok (.aload_n 0, 1) := by decide +kernel
theorem dX10_answer_1 : decode cX10_answer 1 = .ok (.getfield 74, 3) := by decide +kernel
theorem dX10_answer_4 : decode cX10_answer 4 = .ok (.iload_n 1, 1) := by decide +kernel
theorem dX10_answer_5 : decode cX10_answer 5 = .ok (.invokevirtual 229, 3) := by decide +kernel
theorem dX10_answer_8 : decode cX10_answer 8 = .ok (.ireturn, 1) := by decide +kernel
set_option maxRecDepth 20000 in
theorem ggX10_use_X8_haveBegun : GoodIn wsX10_use wsX8_haveBegun := goodIn_r _ [7, 8, 38, 39, 40, 41, 42, 43, 44, 45, 46] (by decide +kernel) (by decide +kernel)
set_option maxRecDepth 20000 in
theorem gX10_use_X8_haveBegun : GoodIn wsX10_use (wsV RX10 233 RX8 yX8_haveBegun wsX8_haveBegun) := goodIn_app (goodIn_of _ (by decide +kernel)) ggX10_use_X8_haveBegun
set_option maxRecDepth 20000 in
theorem ggX10_use_X8_bestLongest : GoodIn wsX10_use wsX8_bestLongest := goodIn_r _ [12, 13, 38, 39, 40, 41, 42, 43, 44, 45, 46] (by decide +kernel) (by decide +kernel)
set_option maxRecDepth 20000 in
theorem gX10_use_X8_bestLongest : GoodIn wsX10_use (wsV RX10 236 RX8 yX8_bestLongest wsX8_bestLongest) := goodIn_app (goodIn_of _ (by decide +kernel)) ggX10_use_X8_bestLongest
set_option maxRecDepth 20000 in
theorem ggX10_use_X8_bestSpread : GoodIn wsX10_use wsX8_bestSpread := goodIn_r _ [17, 18, 38, 39, 40, 41, 42, 43, 44, 45, 46] (by decide +kernel) (by decide +kernel)
set_option maxRecDepth 20000 in
theorem gX10_use_X8_bestSpread : GoodIn wsX10_use (wsV RX10 239 RX8 yX8_bestSpread wsX8_bestSpread) := goodIn_app (goodIn_of _ (by decide +kernel)) ggX10_use_X8_bestSpread
set_option maxRecDepth 20000 in
theorem ggX10_use_X1_changeLine : GoodIn wsX10_use wsX1_changeLine := goodIn_r _ [23, 24, 25, 26, 27, 28, 47, 48, 49, 50, 51, 52, 53] (by decide +kernel) (by decide +kernel)
set_option maxRecDepth 20000 in
theorem gX10_use_X1_changeLine : GoodIn wsX10_use (wsV RX10 144 RX1 yX1_changeLine wsX1_changeLine) := goodIn_app (goodIn_of _ (by decide +kernel)) ggX10_use_X1_changeLine
theorem dX10_use_0 : decode cX10_use 0 = .ok (.aload_n 0, 1) := by decide +kernel
theorem dX10_use_1 : decode cX10_use 1 = .ok (.getfield 74, 3) := by decide +kernel
theorem dX10_use_4 : decode cX10_use 4 = .ok (.invokevirtual 233, 3) := by decide +kernel
theorem dX10_use_7 : decode cX10_use 7 = .ok (.ifCond .eq 31, 3) := by decide +kernel
theorem dX10_use_10 : decode cX10_use 10 = .ok (.aload_n 0, 1) := by decide +kernel
theorem dX10_use_11 : decode cX10_use 11 = .ok (.getfield 33, 3) := by decide +kernel
theorem dX10_use_14 : decode cX10_use 14 = .ok (.aload_n 0, 1) := by decide +kernel
theorem dX10_use_15 : decode cX10_use 15 = .ok (.getfield 74, 3) := by decide +kernel
theorem dX10_use_18 : decode cX10_use 18 = .ok (.invokevirtual 236, 3) := by decide +kernel
theorem dX10_use_21 : decode cX10_use 21 = .ok (.aload_n 0, 1) := by decide +kernel
theorem dX10_use_22 : decode cX10_use 22 = .ok (.getfield 74, 3) := by decide +kernel
theorem dX10_use_25 : decode cX10_use 25 = .ok (.invokevirtual 239, 3) := by decide +kernel
theorem dX10_use_28 : decode cX10_use 28 = .ok (.invokevirtual 144, 3) := by decide +kernel
theorem dX10_use_31 : decode cX10_use 31 = .ok (.ifCond .eq 7, 3) := by decide +kernel
theorem dX10_use_34 : decode cX10_use 34 = .ok (.iconst 1, 1) := by decide +kernel
theorem dX10_use_35 : decode cX10_use 35 = .ok (.goto 4, 3) := by decide +kernel
theorem dX10_use_38 : decode cX10_use 38 = .ok (.iconst 0, 1) := by decide +kernel
theorem dX10_use_39 : decode cX10_use 39 = .ok (.ireturn, 1) := by decide +kernel
set_option maxRecDepth 20000 in
theorem ggX10_readTape_X3_read : GoodIn wsX10_readTape wsX3_read := goodIn_r _ [7, 8, 9, 10, 11, 12, 13, 14, 15, 16, 17, 18, 19, 20, 21, 22, 23, 24, 25, 26, 27, 28, 29, 30, 6, 31, 32, 33, 34, 35, 36, 37, 38, 39, 40, 41, 42, 43, 44, 45, 46, 47, 48, 49, 50, 51, 52, 53, 54, 55, 56, 57, 71, 72, 73, 74, 75, 76, 77, 78, 79] (by decide +kernel) (by decide +kernel)
set_option maxRecDepth 20000 in
theorem gX10_readTape_X3_read : GoodIn wsX10_readTape (wsV RX10 242 RX3 yX3_read wsX3_read) := goodIn_app (goodIn_of _ (by decide +kernel)) ggX10_readTape_X3_read
set_option maxRecDepth 20000 in
theorem ggX10_readTape_X7_clear : GoodIn wsX10_readTape wsX7_clear := goodIn_r _ [61, 22, 78, 79] (by decide +kernel) (by decide +kernel)
set_option maxRecDepth 20000 in
theorem gX10_readTape_X7_clear : GoodIn wsX10_readTape (wsV RX10 117 RX7 yX7_clear wsX7_clear) := goodIn_app (goodIn_of _ (by decide +kernel)) ggX10_readTape_X7_clear
theorem dX10_readTape_0 : decode cX10_readTape 0 = .ok (.aload_n 0, 1) := by decide +kernel
theorem dX10_readTape_1 : decode cX10_readTape 1 = .ok (.getfield 19, 3) := by decide +kernel
theorem dX10_readTape_4 : decode cX10_readTape 4 = .ok (.aload_n 0, 1) := by decide +kernel
theorem dX10_readTape_5 : decode cX10_readTape 5 = .ok (.getfield 10, 3) := by decide +kernel
theorem dX10_readTape_8 : decode cX10_readTape 8 = .ok (.invokevirtual 242, 3) := by decide +kernel
theorem dX10_readTape_11 : decode cX10_readTape 11 = .ok (.aload_n 0, 1) := by decide +kernel
theorem dX10_readTape_12 : decode cX10_readTape 12 = .ok (.getfield 10, 3) := by decide +kernel
theorem dX10_readTape_15 : decode cX10_readTape 15 = .ok (.invokevirtual 117, 3) := by decide +kernel
theorem dX10_readTape_18 : decode cX10_readTape 18 = .ok (.return_, 1) := by decide +kernel
set_option maxRecDepth 20000 in
theorem ggX10_shiftOf_X5_isOfText : GoodIn wsX10_shiftOf wsX5_isOfText := goodIn_r _ [8, 9, 10, 49, 50, 51, 52, 53, 54] (by decide +kernel) (by decide +kernel)
set_option maxRecDepth 20000 in
theorem gX10_shiftOf_X5_isOfText : GoodIn wsX10_shiftOf (wsV RX10 206 RX5 yX5_isOfText wsX5_isOfText) := goodIn_app (goodIn_of _ (by decide +kernel)) ggX10_shiftOf_X5_isOfText
set_option maxRecDepth 20000 in
theorem ggX10_shiftOf_X0_unitOf : GoodIn wsX10_shiftOf wsX0_unitOf := goodIn_r _ [15, 16, 17, 18, 19, 14, 20, 21, 55, 56, 57] (by decide +kernel) (by decide +kernel)
set_option maxRecDepth 20000 in
theorem gX10_shiftOf_X0_unitOf : GoodIn wsX10_shiftOf (wsV RX10 216 RX0 yX0_unitOf wsX0_unitOf) := goodIn_app (goodIn_of _ (by decide +kernel)) ggX10_shiftOf_X0_unitOf
set_option maxRecDepth 20000 in
theorem ggX10_shiftOf_X5_lineOf : GoodIn wsX10_shiftOf wsX5_lineOf := goodIn_r _ [25, 26, 27, 28, 49, 50, 51, 52, 53, 54] (by decide +kernel) (by decide +kernel)
set_option maxRecDepth 20000 in
theorem gX10_shiftOf_X5_lineOf : GoodIn wsX10_shiftOf (wsV RX10 209 RX5 yX5_lineOf wsX5_lineOf) := goodIn_app (goodIn_of _ (by decide +kernel)) ggX10_shiftOf_X5_lineOf
set_option maxRecDepth 20000 in
theorem ggX10_shiftOf_X2_pageOf : GoodIn wsX10_shiftOf wsX2_pageOf := goodIn_r _ [33, 34, 58, 59] (by decide +kernel) (by decide +kernel)
set_option maxRecDepth 20000 in
theorem gX10_shiftOf_X2_pageOf : GoodIn wsX10_shiftOf (wsV RX10 193 RX2 yX2_pageOf wsX2_pageOf) := goodIn_app (goodIn_of _ (by decide +kernel)) ggX10_shiftOf_X2_pageOf
set_option maxRecDepth 20000 in
theorem ggX10_shiftOf_X0_pageOf : GoodIn wsX10_shiftOf wsX0_pageOf := goodIn_r _ [38, 39, 17, 18, 19, 14, 20, 21, 55, 56, 57] (by decide +kernel) (by decide +kernel)
set_option maxRecDepth 20000 in
theorem gX10_shiftOf_X0_pageOf : GoodIn wsX10_shiftOf (wsV RX10 219 RX0 yX0_pageOf wsX0_pageOf) := goodIn_app (goodIn_of _ (by decide +kernel)) ggX10_shiftOf_X0_pageOf
theorem dX10_shiftOf_0 : decode cX10_shiftOf 0 = .ok (.aload_n 0, 1) := by decide +kernel
theorem dX10_shiftOf_1 : decode cX10_shiftOf 1 = .ok (.getfield 40, 3) := by decide +kernel
theorem dX10_shiftOf_4 : decode cX10_shiftOf 4 = .ok (.invokevirtual 206, 3) := by decide +kernel
theorem dX10_shiftOf_7 : decode cX10_shiftOf 7 = .ok (.ifCond .ne 7, 3) := by decide +kernel
theorem dX10_shiftOf_10 : decode cX10_shiftOf 10 = .ok (.sipush (-1000), 3) := by decide +kernel
theorem dX10_shiftOf_13 : decode cX10_shiftOf 13 = .ok (.ireturn, 1) := by decide +kernel
theorem dX10_shiftOf_14 : decode cX10_shiftOf 14 = .ok (.aload_n 0, 1) := by decide +kernel
theorem dX10_shiftOf_15 : decode cX10_shiftOf 15 = .ok (.getfield 60, 3) := by decide +kernel
theorem dX10_shiftOf_18 : decode cX10_shiftOf 18 = .ok (.aload_n 0, 1) := by decide +kernel
theorem dX10_shiftOf_19 : decode cX10_shiftOf 19 = .ok (.getfield 40, 3) := by decide +kernel
theorem dX10_shiftOf_22 : decode cX10_shiftOf 22 = .ok (.aload_n 0, 1) := by decide +kernel
theorem dX10_shiftOf_23 : decode cX10_shiftOf 23 = .ok (.getfield 67, 3) := by decide +kernel
theorem dX10_shiftOf_26 : decode cX10_shiftOf 26 = .ok (.iload_n 1, 1) := by decide +kernel
theorem dX10_shiftOf_27 : decode cX10_shiftOf 27 = .ok (.invokevirtual 216, 3) := by decide +kernel
theorem dX10_shiftOf_30 : decode cX10_shiftOf 30 = .ok (.invokevirtual 209, 3) := by decide +kernel
theorem dX10_shiftOf_33 : decode cX10_shiftOf 33 = .ok (.invokevirtual 193, 3) := by decide +kernel
theorem dX10_shiftOf_36 : decode cX10_shiftOf 36 = .ok (.aload_n 0, 1) := by decide +kernel
theorem dX10_shiftOf_37 : decode cX10_shiftOf 37 = .ok (.getfield 67, 3) := by decide +kernel
theorem dX10_shiftOf_40 : decode cX10_shiftOf 40 = .ok (.iload_n 1, 1) := by decide +kernel
theorem dX10_shiftOf_41 : decode cX10_shiftOf 41 = .ok (.invokevirtual 219, 3) := by decide +kernel
theorem dX10_shiftOf_44 : decode cX10_shiftOf 44 = .ok (.isub, 1) := by decide +kernel
theorem dX10_shiftOf_45 : decode cX10_shiftOf 45 = .ok (.ireturn, 1) := by decide +kernel
theorem dX10_within_0 : decode cX10_within 0 = .ok (.iload_n 0, 1) := by decide +kernel
theorem dX10_within_1 : decode cX10_within 1 = .ok (.iload_n 1, 1) := by decide +kernel
theorem dX10_within_2 : decode cX10_within 2 = .ok (.if_icmp .lt 12, 3) := by decide +kernel
theorem dX10_within_5 : decode cX10_within 5 = .ok (.iload_n 0, 1) := by decide +kernel
theorem dX10_within_6 : decode cX10_within 6 = .ok (.iload_n 2, 1) := by decide +kernel
theorem dX10_within_7 : decode cX10_within 7 = .ok (.if_icmp .gt 7, 3) := by decide +kernel
theorem dX10_within_10 : decode cX10_within 10 = .ok (.iconst 1, 1) := by decide +kernel
theorem dX10_within_11 : decode cX10_within 11 = .ok (.goto 4, 3) := by decide +kernel
theorem dX10_within_14 : decode cX10_within 14 = .ok (.iconst 0, 1) := by decide +kernel
theorem dX10_within_15 : decode cX10_within 15 = .ok (.ireturn, 1) := by decide +kernel
theorem dX10_isLetter_0 : decode cX10_isLetter 0 = .ok (.iload_n 0, 1) := by decide +kernel
theorem dX10_isLetter_1 : decode cX10_isLetter 1 = .ok (.bipush 97, 2) := by decide +kernel
theorem dX10_isLetter_3 : decode cX10_isLetter 3 = .ok (.if_icmp .lt 13, 3) := by decide +kernel
theorem dX10_isLetter_6 : decode cX10_isLetter 6 = .ok (.iload_n 0, 1) := by decide +kernel
theorem dX10_isLetter_7 : decode cX10_isLetter 7 = .ok (.bipush 122, 2) := by decide +kernel
theorem dX10_isLetter_9 : decode cX10_isLetter 9 = .ok (.if_icmp .gt 7, 3) := by decide +kernel
theorem dX10_isLetter_12 : decode cX10_isLetter 12 = .ok (.iconst 1, 1) := by decide +kernel
theorem dX10_isLetter_13 : decode cX10_isLetter 13 = .ok (.goto 4, 3) := by decide +kernel
theorem dX10_isLetter_16 : decode cX10_isLetter 16 = .ok (.iconst 0, 1) := by decide +kernel
theorem dX10_isLetter_17 : decode cX10_isLetter 17 = .ok (.ireturn, 1) := by decide +kernel
