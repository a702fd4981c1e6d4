set_option maxRecDepth 20000 in
theorem ggX9_init_X9_begins : GoodIn wsX9_init wsX9_begins := goodIn_r _ [19] (by decide +kernel) (by decide +kernel)
set_option maxRecDepth 20000 in
theorem gX9_init_X9_begins : GoodIn wsX9_init (va_wsS RX9 39 yX9_begins wsX9_begins) := goodIn_app (goodIn_of _ (by decide +kernel)) ggX9_init_X9_begins
theorem dX9_init_0 : decode cX9_init 0 = .ok (.aload_n 0, 1) := by decide +kernel
theorem dX9_init_1 : decode cX9_init 1 = .ok (.invokespecial 1, 3) := by decide +kernel
theorem dX9_init_4 : decode cX9_init 4 = .ok (.aload_n 0, 1) := by decide +kernel
theorem dX9_init_5 : decode cX9_init 5 = .ok (.bipush 21, 2) := by decide +kernel
theorem dX9_init_7 : decode cX9_init 7 = .ok (.newarray .int, 2) := by decide +kernel
theorem dX9_init_9 : decode cX9_init 9 = .ok (.putfield 7, 3) := by decide +kernel
theorem dX9_init_12 : decode cX9_init 12 = .ok (.aload_n 0, 1) := by decide +kernel
theorem dX9_init_13 : decode cX9_init 13 = .ok (.sipush 252, 3) := by decide +kernel
theorem dX9_init_16 : decode cX9_init 16 = .ok (.newarray .int, 2) := by decide +kernel
theorem dX9_init_18 : decode cX9_init 18 = .ok (.putfield 13, 3) := by decide +kernel
theorem dX9_init_21 : decode cX9_init 21 = .ok (.aload_n 0, 1) := by decide +kernel
theorem dX9_init_22 : decode cX9_init 22 = .ok (.bipush 6, 2) := by decide +kernel
theorem dX9_init_24 : decode cX9_init 24 = .ok (.newarray .int, 2) := by decide +kernel
theorem dX9_init_26 : decode cX9_init 26 = .ok (.putfield 16, 3) := by decide +kernel
theorem dX9_init_29 : decode cX9_init 29 = .ok (.aload_n 0, 1) := by decide +kernel
theorem dX9_init_30 : decode cX9_init 30 = .ok (.iconst 2, 1) := by decide +kernel
theorem dX9_init_31 : decode cX9_init 31 = .ok (.newarray .boolean, 2) := by decide +kernel
theorem dX9_init_33 : decode cX9_init 33 = .ok (.putfield 19, 3) := by decide +kernel
theorem dX9_init_36 : decode cX9_init 36 = .ok (.aload_n 0, 1) := by decide +kernel
theorem dX9_init_37 : decode cX9_init 37 = .ok (.bipush 42, 2) := by decide +kernel
theorem dX9_init_39 : decode cX9_init 39 = .ok (.newarray .int, 2) := by decide +kernel
theorem dX9_init_41 : decode cX9_init 41 = .ok (.putfield 23, 3) := by decide +kernel
theorem dX9_init_44 : decode cX9_init 44 = .ok (.aload_n 0, 1) := by decide +kernel
theorem dX9_init_45 : decode cX9_init 45 = .ok (.bipush 60, 2) := by decide +kernel
theorem dX9_init_47 : decode cX9_init 47 = .ok (.newarray .int, 2) := by decide +kernel
theorem dX9_init_49 : decode cX9_init 49 = .ok (.putfield 26, 3) := by decide +kernel
theorem dX9_init_52 : decode cX9_init 52 = .ok (.aload_n 0, 1) := by decide +kernel
theorem dX9_init_53 : decode cX9_init 53 = .ok (.bipush 21, 2) := by decide +kernel
theorem dX9_init_55 : decode cX9_init 55 = .ok (.newarray .int, 2) := by decide +kernel
theorem dX9_init_57 : decode cX9_init 57 = .ok (.putfield 29, 3) := by decide +kernel
theorem dX9_init_60 : decode cX9_init 60 = .ok (.aload_n 0, 1) := by decide +kernel
theorem dX9_init_61 : decode cX9_init 61 = .ok (.bipush 16, 2) := by decide +kernel
theorem dX9_init_63 : decode cX9_init 63 = .ok (.newarray .int, 2) := by decide +kernel
theorem dX9_init_65 : decode cX9_init 65 = .ok (.putfield 32, 3) := by decide +kernel
theorem dX9_init_68 : decode cX9_init 68 = .ok (.aload_n 0, 1) := by decide +kernel
theorem dX9_init_69 : decode cX9_init 69 = .ok (.sipush 202, 3) := by decide +kernel
theorem dX9_init_72 : decode cX9_init 72 = .ok (.newarray .long, 2) := by decide +kernel
theorem dX9_init_74 : decode cX9_init 74 = .ok (.putfield 35, 3) := by decide +kernel
theorem dX9_init_77 : decode cX9_init 77 = .ok (.aload_n 0, 1) := by decide +kernel
theorem dX9_init_78 : decode cX9_init 78 = .ok (.getfield 7, 3) := by decide +kernel
theorem dX9_init_81 : decode cX9_init 81 = .ok (.iconst 2, 1) := by decide +kernel
theorem dX9_init_82 : decode cX9_init 82 = .ok (.invokestatic 39, 3) := by decide +kernel
theorem dX9_init_85 : decode cX9_init 85 = .ok (.return_, 1) := by decide +kernel
theorem dX9_in_0 : decode cX9_in 0 = .ok (.iload_n 0, 1) := by decide +kernel
theorem dX9_in_1 : decode cX9_in 1 = .ok (.iload_n 1, 1) := by decide +kernel
theorem dX9_in_2 : decode cX9_in 2 = .ok (.if_icmp .lt 12, 3) := by decide +kernel
theorem dX9_in_5 : decode cX9_in 5 = .ok (.iload_n 0, 1) := by decide +kernel
theorem dX9_in_6 : decode cX9_in 6 = .ok (.iload_n 2, 1) := by decide +kernel
theorem dX9_in_7 : decode cX9_in 7 = .ok (.if_icmp .gt 7, 3) := by decide +kernel
theorem dX9_in_10 : decode cX9_in 10 = .ok (.iconst 1, 1) := by decide +kernel
theorem dX9_in_11 : decode cX9_in 11 = .ok (.goto 4, 3) := by decide +kernel
theorem dX9_in_14 : decode cX9_in 14 = .ok (.iconst 0, 1) := by decide +kernel
theorem dX9_in_15 : decode cX9_in 15 = .ok (.ireturn, 1) := by decide +kernel
theorem dX9_has_0 : decode cX9_has 0 = .ok (.iload_n 0, 1) := by decide +kernel
theorem dX9_has_1 : decode cX9_has 1 = .ok (.iload_n 1, 1) := by decide +kernel
theorem dX9_has_2 : decode cX9_has 2 = .ok (.ishr, 1) := by decide +kernel
theorem dX9_has_3 : decode cX9_has 3 = .ok (.iconst 1, 1) := by decide +kernel
theorem dX9_has_4 : decode cX9_has 4 = .ok (.iand, 1) := by decide +kernel
theorem dX9_has_5 : decode cX9_has 5 = .ok (.iconst 1, 1) := by decide +kernel
theorem dX9_has_6 : decode cX9_has 6 = .ok (.if_icmp .ne 7, 3) := by decide +kernel
theorem dX9_has_9 : decode cX9_has 9 = .ok (.iconst 1, 1) := by decide +kernel
theorem dX9_has_10 : decode cX9_has 10 = .ok (.goto 4, 3) := by decide +kernel
theorem dX9_has_13 : decode cX9_has 13 = .ok (.iconst 0, 1) := by decide +kernel
theorem dX9_has_14 : decode cX9_has 14 = .ok (.ireturn, 1) := by decide +kernel
theorem dX9_begins_0 : decode cX9_begins 0 = .ok (.iconst 0, 1) := by decide +kernel
theorem dX9_begins_1 : decode cX9_begins 1 = .ok (.istore_n 2, 1) := by decide +kernel
theorem dX9_begins_2 : decode cX9_begins 2 = .ok (.iload_n 2, 1) := by decide +kernel
theorem dX9_begins_3 : decode cX9_begins 3 = .ok (.iconst 4, 1) := by decide +kernel
theorem dX9_begins_4 : decode cX9_begins 4 = .ok (.if_icmp .ge 37, 3) := by decide +kernel
theorem dX9_begins_7 : decode cX9_begins 7 = .ok (.iconst 0, 1) := by decide +kernel
theorem dX9_begins_8 : decode cX9_begins 8 = .ok (.istore_n 3, 1) := by decide +kernel
theorem dX9_begins_9 : decode cX9_begins 9 = .ok (.iload_n 3, 1) := by decide +kernel
theorem dX9_begins_10 : decode cX9_begins 10 = .ok (.iconst 4, 1) := by decide +kernel
theorem dX9_begins_11 : decode cX9_begins 11 = .ok (.if_icmp .ge 17, 3) := by decide +kernel
theorem dX9_begins_14 : decode cX9_begins 14 = .ok (.aload_n 0, 1) := by decide +kernel
theorem dX9_begins_15 : decode cX9_begins 15 = .ok (.iconst 4, 1) := by decide +kernel
theorem dX9_begins_16 : decode cX9_begins 16 = .ok (.iload_n 2, 1) := by decide +kernel
theorem dX9_begins_17 : decode cX9_begins 17 = .ok (.imul, 1) := by decide +kernel
theorem dX9_begins_18 : decode cX9_begins 18 = .ok (.iload_n 3, 1) := by decide +kernel
theorem dX9_begins_19 : decode cX9_begins 19 = .ok (.iadd, 1) := by decide +kernel
theorem dX9_begins_20 : decode cX9_begins 20 = .ok (.iload_n 2, 1) := by decide +kernel
theorem dX9_begins_21 : decode cX9_begins 21 = .ok (.iastore, 1) := by decide +kernel
theorem dX9_begins_22 : decode cX9_begins 22 = .ok (.iinc 3 1, 3) := by decide +kernel
theorem dX9_begins_25 : decode cX9_begins 25 = .ok (.goto (-16), 3) := by decide +kernel
theorem dX9_begins_28 : decode cX9_begins 28 = .ok (.aload_n 0, 1) := by decide +kernel
theorem dX9_begins_29 : decode cX9_begins 29 = .ok (.bipush 16, 2) := by decide +kernel
theorem dX9_begins_31 : decode cX9_begins 31 = .ok (.iload_n 2, 1) := by decide +kernel
theorem dX9_begins_32 : decode cX9_begins 32 = .ok (.iadd, 1) := by decide +kernel
theorem dX9_begins_33 : decode cX9_begins 33 = .ok (.iload_n 2, 1) := by decide +kernel
theorem dX9_begins_34 : decode cX9_begins 34 = .ok (.iastore, 1) := by decide +kernel
theorem dX9_begins_35 : decode cX9_begins 35 = .ok (.iinc 2 1, 3) := by decide +kernel
theorem dX9_begins_38 : decode cX9_begins 38 = .ok (.goto (-36), 3) := by decide +kernel
theorem dX9_begins_41 : decode cX9_begins 41 = .ok (.aload_n 0, 1) := by decide +kernel
theorem dX9_begins_42 : decode cX9_begins 42 = .ok (.bipush 20, 2) := by decide +kernel
theorem dX9_begins_44 : decode cX9_begins 44 = .ok (.iload_n 1, 1) := by decide +kernel
theorem dX9_begins_45 : decode cX9_begins 45 = .ok (.iastore, 1) := by decide +kernel
theorem dX9_begins_46 : decode cX9_begins 46 = .ok (.return_, 1) := by decide +kernel
theorem dX9_size_0 : decode cX9_size 0 = .ok (.aload_n 0, 1) := by decide +kernel
theorem dX9_size_1 : decode cX9_size 1 = .ok (.getfield 7, 3) := by decide +kernel
theorem dX9_size_4 : decode cX9_size 4 = .ok (.bipush 20, 2) := by decide +kernel
theorem dX9_size_6 : decode cX9_size 6 = .ok (.iaload, 1) := by decide +kernel
theorem dX9_size_7 : decode cX9_size 7 = .ok (.ireturn, 1) := by decide +kernel
theorem dX9_ff_0 : decode cX9_ff 0 = .ok (.aload_n 0, 1) := by decide +kernel
theorem dX9_ff_1 : decode cX9_ff 1 = .ok (.getfield 7, 3) := by decide +kernel
theorem dX9_ff_4 : decode cX9_ff 4 = .ok (.iconst 4, 1) := by decide +kernel
theorem dX9_ff_5 : decode cX9_ff 5 = .ok (.iload_n 1, 1) := by decide +kernel
theorem dX9_ff_6 : decode cX9_ff 6 = .ok (.imul, 1) := by decide +kernel
theorem dX9_ff_7 : decode cX9_ff 7 = .ok (.iload_n 2, 1) := by decide +kernel
theorem dX9_ff_8 : decode cX9_ff 8 = .ok (.iadd, 1) := by decide +kernel
theorem dX9_ff_9 : decode cX9_ff 9 = .ok (.iaload, 1) := by decide +kernel
theorem dX9_ff_10 : decode cX9_ff 10 = .ok (.ireturn, 1) := by decide +kernel
theorem dX9_gg_0 : decode cX9_gg 0 = .ok (.aload_n 0, 1) := by decide +kernel
theorem dX9_gg_1 : decode cX9_gg 1 = .ok (.getfield 7, 3) := by decide +kernel
theorem dX9_gg_4 : decode cX9_gg 4 = .ok (.bipush 16, 2) := by decide +kernel
theorem dX9_gg_6 : decode cX9_gg 6 = .ok (.iload_n 1, 1) := by decide +kernel
theorem dX9_gg_7 : decode cX9_gg 7 = .ok (.iadd, 1) := by decide +kernel
theorem dX9_gg_8 : decode cX9_gg 8 = .ok (.iaload, 1) := by decide +kernel
theorem dX9_gg_9 : decode cX9_gg 9 = .ok (.ireturn, 1) := by decide +kernel
set_option maxRecDepth 20000 in
theorem ggX9_is_X9_size : GoodIn wsX9_is wsX9_size := goodIn_r _ [5, 6, 10, 11, 12, 13, 14, 15, 16, 17, 18, 19, 20, 21, 22, 23, 24, 25, 26, 27, 28, 29, 30] (by decide +kernel) (by decide +kernel)
set_option maxRecDepth 20000 in
theorem gX9_is_X9_size : GoodIn wsX9_is (wsV RX9 43 RX9 yX9_size wsX9_size) := goodIn_app (goodIn_of _ (by decide +kernel)) ggX9_is_X9_size
set_option maxRecDepth 20000 in
theorem ggX9_is_X9_in : GoodIn wsX9_is wsX9_in := goodIn_r _ [9] (by decide +kernel) (by decide +kernel)
set_option maxRecDepth 20000 in
theorem gX9_is_X9_in : GoodIn wsX9_is (va_wsS RX9 47 yX9_in wsX9_in) := goodIn_app (goodIn_of _ (by decide +kernel)) ggX9_is_X9_in
theorem dX9_is_0 : decode cX9_is 0 = .ok (.iload_n 1, 1) := by decide +kernel
theorem dX9_is_1 : decode cX9_is 1 = .ok (.iconst 0, 1) := by decide +kernel
theorem dX9_is_2 : decode cX9_is 2 = .ok (.aload_n 0, 1) := by decide +kernel
theorem dX9_is_3 : decode cX9_is 3 = .ok (.invokevirtual 43, 3) := by decide +kernel
theorem dX9_is_6 : decode cX9_is 6 = .ok (.iconst 1, 1) := by decide +kernel
theorem dX9_is_7 : decode cX9_is 7 = .ok (.isub, 1) := by decide +kernel
theorem dX9_is_8 : decode cX9_is 8 = .ok (.invokestatic 47, 3) := by decide +kernel
theorem dX9_is_11 : decode cX9_is 11 = .ok (.ireturn, 1) := by decide +kernel
set_option maxRecDepth 20000 in
theorem ggX9_type_X9_in : GoodIn wsX9_type wsX9_in := goodIn_r _ [6] (by decide +kernel) (by decide +kernel)
set_option maxRecDepth 20000 in
theorem gX9_type_X9_in : GoodIn wsX9_type (va_wsS RX9 47 yX9_in wsX9_in) := goodIn_app (goodIn_of _ (by decide +kernel)) ggX9_type_X9_in
theorem dX9_type_0 : decode cX9_type 0 = .ok (.iload_n 1, 1) := by decide +kernel
theorem dX9_type_1 : decode cX9_type 1 = .ok (.iconst 0, 1) := by decide +kernel
theorem dX9_type_2 : decode cX9_type 2 = .ok (.sipush 255, 3) := by decide +kernel
theorem dX9_type_5 : decode cX9_type 5 = .ok (.invokestatic 47, 3) := by decide +kernel
theorem dX9_type_8 : decode cX9_type 8 = .ok (.ifCond .ne 6, 3) := by decide +kernel
theorem dX9_type_11 : decode cX9_type 11 = .ok (.bipush (-2), 2) := by decide +kernel
theorem dX9_type_13 : decode cX9_type 13 = .ok (.ireturn, 1) := by decide +kernel
theorem dX9_type_14 : decode cX9_type 14 = .ok (.aload_n 0, 1) := by decide +kernel
theorem dX9_type_15 : decode cX9_type 15 = .ok (.getfield 51, 3) := by decide +kernel
theorem dX9_type_18 : decode cX9_type 18 = .ok (.bipush 60, 2) := by decide +kernel
theorem dX9_type_20 : decode cX9_type 20 = .ok (.if_icmp .ne 6, 3) := by decide +kernel
theorem dX9_type_23 : decode cX9_type 23 = .ok (.bipush (-4), 2) := by decide +kernel
theorem dX9_type_25 : decode cX9_type 25 = .ok (.ireturn, 1) := by decide +kernel
theorem dX9_type_26 : decode cX9_type 26 = .ok (.aload_n 0, 1) := by decide +kernel
theorem dX9_type_27 : decode cX9_type 27 = .ok (.getfield 26, 3) := by decide +kernel
theorem dX9_type_30 : decode cX9_type 30 = .ok (.aload_n 0, 1) := by decide +kernel
theorem dX9_type_31 : decode cX9_type 31 = .ok (.getfield 51, 3) := by decide +kernel
theorem dX9_type_34 : decode cX9_type 34 = .ok (.iload_n 1, 1) := by decide +kernel
theorem dX9_type_35 : decode cX9_type 35 = .ok (.iastore, 1) := by decide +kernel
theorem dX9_type_36 : decode cX9_type 36 = .ok (.aload_n 0, 1) := by decide +kernel
theorem dX9_type_37 : decode cX9_type 37 = .ok (.dup, 1) := by decide +kernel
theorem dX9_type_38 : decode cX9_type 38 = .ok (.getfield 51, 3) := by decide +kernel
theorem dX9_type_41 : decode cX9_type 41 = .ok (.iconst 1, 1) := by decide +kernel
theorem dX9_type_42 : decode cX9_type 42 = .ok (.iadd, 1) := by decide +kernel
theorem dX9_type_43 : decode cX9_type 43 = .ok (.putfield 51, 3) := by decide +kernel
theorem dX9_type_46 : decode cX9_type 46 = .ok (.aload_n 0, 1) := by decide +kernel
theorem dX9_type_47 : decode cX9_type 47 = .ok (.getfield 51, 3) := by decide +kernel
theorem dX9_type_50 : decode cX9_type 50 = .ok (.ireturn, 1) := by decide +kernel
theorem dX9_clear_0 : decode cX9_clear 0 = .ok (.aload_n 0, 1) := by decide +kernel
theorem dX9_clear_1 : decode cX9_clear 1 = .ok (.getfield 51, 3) := by decide +kernel
theorem dX9_clear_4 : decode cX9_clear 4 = .ok (.istore_n 1, 1) := by decide +kernel
theorem dX9_clear_5 : decode cX9_clear 5 = .ok (.aload_n 0, 1) := by decide +kernel
theorem dX9_clear_6 : decode cX9_clear 6 = .ok (.iconst 0, 1) := by decide +kernel
theorem dX9_clear_7 : decode cX9_clear 7 = .ok (.putfield 51, 3) := by decide +kernel
theorem dX9_clear_10 : decode cX9_clear 10 = .ok (.iload_n 1, 1) := by decide +kernel
theorem dX9_clear_11 : decode cX9_clear 11 = .ok (.ireturn, 1) := by decide +kernel
theorem dX9_blanks_0 : decode cX9_blanks 0 = .ok (.aload_n 0, 1) := by decide +kernel
theorem dX9_blanks_1 : decode cX9_blanks 1 = .ok (.getfield 55, 3) := by decide +kernel
theorem dX9_blanks_4 : decode cX9_blanks 4 = .ok (.aload_n 0, 1) := by decide +kernel
theorem dX9_blanks_5 : decode cX9_blanks 5 = .ok (.getfield 51, 3) := by decide +kernel
theorem dX9_blanks_8 : decode cX9_blanks 8 = .ok (.if_icmp .ge 30, 3) := by decide +kernel
theorem dX9_blanks_11 : decode cX9_blanks 11 = .ok (.aload_n 0, 1) := by decide +kernel
theorem dX9_blanks_12 : decode cX9_blanks 12 = .ok (.getfield 26, 3) := by decide +kernel
theorem dX9_blanks_15 : decode cX9_blanks 15 = .ok (.aload_n 0, 1) := by decide +kernel
theorem dX9_blanks_16 : decode cX9_blanks 16 = .ok (.getfield 55, 3) := by decide +kernel
theorem dX9_blanks_19 : decode cX9_blanks 19 = .ok (.iaload, 1) := by decide +kernel
theorem dX9_blanks_20 : decode cX9_blanks 20 = .ok (.bipush 32, 2) := by decide +kernel
theorem dX9_blanks_22 : decode cX9_blanks 22 = .ok (.if_icmp .ne 16, 3) := by decide +kernel
theorem dX9_blanks_25 : decode cX9_blanks 25 = .ok (.aload_n 0, 1) := by decide +kernel
theorem dX9_blanks_26 : decode cX9_blanks 26 = .ok (.dup, 1) := by decide +kernel
theorem dX9_blanks_27 : decode cX9_blanks 27 = .ok (.getfield 55, 3) := by decide +kernel
theorem dX9_blanks_30 : decode cX9_blanks 30 = .ok (.iconst 1, 1) := by decide +kernel
theorem dX9_blanks_31 : decode cX9_blanks 31 = .ok (.iadd, 1) := by decide +kernel
theorem dX9_blanks_32 : decode cX9_blanks 32 = .ok (.putfield 55, 3) := by decide +kernel
theorem dX9_blanks_35 : decode cX9_blanks 35 = .ok (.goto (-35), 3) := by decide +kernel
theorem dX9_blanks_38 : decode cX9_blanks 38 = .ok (.return_, 1) := by decide +kernel
set_option maxRecDepth 20000 in
theorem ggX9_next_X9_blanks : GoodIn wsX9_next wsX9_blanks := goodIn_r _ [10, 1, 3, 4, 11, 12, 13, 14, 15, 16, 17, 18, 19, 20, 21, 22, 23, 24, 25, 26, 27, 28, 29, 30, 31] (by decide +kernel) (by decide +kernel)
set_option maxRecDepth 20000 in
theorem gX9_next_X9_blanks : GoodIn wsX9_next (wsV RX9 58 RX9 yX9_blanks wsX9_blanks) := goodIn_app (goodIn_of _ (by decide +kernel)) ggX9_next_X9_blanks
theorem dX9_next_0 : decode cX9_next 0 = .ok (.aload_n 0, 1) := by decide +kernel
theorem dX9_next_1 : decode cX9_next 1 = .ok (.invokevirtual 58, 3) := by decide +kernel
theorem dX9_next_4 : decode cX9_next 4 = .ok (.aload_n 0, 1) := by decide +kernel
theorem dX9_next_5 : decode cX9_next 5 = .ok (.aload_n 0, 1) := by decide +kernel
theorem dX9_next_6 : decode cX9_next 6 = .ok (.getfield 55, 3) := by decide +kernel
theorem dX9_next_9 : decode cX9_next 9 = .ok (.putfield 61, 3) := by decide +kernel
theorem dX9_next_12 : decode cX9_next 12 = .ok (.aload_n 0, 1) := by decide +kernel
theorem dX9_next_13 : decode cX9_next 13 = .ok (.aload_n 0, 1) := by decide +kernel
theorem dX9_next_14 : decode cX9_next 14 = .ok (.getfield 55, 3) := by decide +kernel
theorem dX9_next_17 : decode cX9_next 17 = .ok (.aload_n 0, 1) := by decide +kernel
theorem dX9_next_18 : decode cX9_next 18 = .ok (.getfield 51, 3) := by decide +kernel
theorem dX9_next_21 : decode cX9_next 21 = .ok (.if_icmp .ne 7, 3) := by decide +kernel
theorem dX9_next_24 : decode cX9_next 24 = .ok (.iconst (-1), 1) := by decide +kernel
theorem dX9_next_25 : decode cX9_next 25 = .ok (.goto 12, 3) := by decide +kernel
theorem dX9_next_28 : decode cX9_next 28 = .ok (.aload_n 0, 1) := by decide +kernel
theorem dX9_next_29 : decode cX9_next 29 = .ok (.getfield 26, 3) := by decide +kernel
theorem dX9_next_32 : decode cX9_next 32 = .ok (.aload_n 0, 1) := by decide +kernel
theorem dX9_next_33 : decode cX9_next 33 = .ok (.getfield 55, 3) := by decide +kernel
theorem dX9_next_36 : decode cX9_next 36 = .ok (.iaload, 1) := by decide +kernel
theorem dX9_next_37 : decode cX9_next 37 = .ok (.putfield 64, 3) := by decide +kernel
theorem dX9_next_40 : decode cX9_next 40 = .ok (.aload_n 0, 1) := by decide +kernel
theorem dX9_next_41 : decode cX9_next 41 = .ok (.dup, 1) := by decide +kernel
theorem dX9_next_42 : decode cX9_next 42 = .ok (.getfield 55, 3) := by decide +kernel
theorem dX9_next_45 : decode cX9_next 45 = .ok (.aload_n 0, 1) := by decide +kernel
theorem dX9_next_46 : decode cX9_next 46 = .ok (.getfield 55, 3) := by decide +kernel
theorem dX9_next_49 : decode cX9_next 49 = .ok (.aload_n 0, 1) := by decide +kernel
theorem dX9_next_50 : decode cX9_next 50 = .ok (.getfield 51, 3) := by decide +kernel
theorem dX9_next_53 : decode cX9_next 53 = .ok (.if_icmp .ne 7, 3) := by decide +kernel
theorem dX9_next_56 : decode cX9_next 56 = .ok (.iconst 0, 1) := by decide +kernel
theorem dX9_next_57 : decode cX9_next 57 = .ok (.goto 4, 3) := by decide +kernel
theorem dX9_next_60 : decode cX9_next 60 = .ok (.iconst 1, 1) := by decide +kernel
theorem dX9_next_61 : decode cX9_next 61 = .ok (.iadd, 1) := by decide +kernel
theorem dX9_next_62 : decode cX9_next 62 = .ok (.putfield 55, 3) := by decide +kernel
theorem dX9_next_65 : decode cX9_next 65 = .ok (.return_, 1) := by decide +kernel
set_option maxRecDepth 20000 in
theorem ggX9_figure_X9_next : GoodIn wsX9_figure wsX9_next := goodIn_r _ [6, 7, 8, 9, 10, 1, 11, 12, 13, 5, 14, 18, 19, 20, 21, 22, 23, 24, 25, 26, 27, 28, 29, 30, 31, 32, 33, 34, 35, 36, 37, 38] (by decide +kernel) (by decide +kernel)
set_option maxRecDepth 20000 in
theorem gX9_figure_X9_next : GoodIn wsX9_figure (wsV RX9 67 RX9 yX9_next wsX9_next) := goodIn_app (goodIn_of _ (by decide +kernel)) ggX9_figure_X9_next
set_option maxRecDepth 20000 in
theorem ggX9_figure_X9_in : GoodIn wsX9_figure wsX9_in := goodIn_r _ [17] (by decide +kernel) (by decide +kernel)
set_option maxRecDepth 20000 in
theorem gX9_figure_X9_in : GoodIn wsX9_figure (va_wsS RX9 47 yX9_in wsX9_in) := goodIn_app (goodIn_of _ (by decide +kernel)) ggX9_figure_X9_in
theorem dX9_figure_0 : decode cX9_figure 0 = .ok (.aload_n 0, 1) := by decide +kernel
theorem dX9_figure_1 : decode cX9_figure 1 = .ok (.invokevirtual 67, 3) := by decide +kernel
theorem dX9_figure_4 : decode cX9_figure 4 = .ok (.aload_n 0, 1) := by decide +kernel
theorem dX9_figure_5 : decode cX9_figure 5 = .ok (.getfield 64, 3) := by decide +kernel
theorem dX9_figure_8 : decode cX9_figure 8 = .ok (.bipush 48, 2) := by decide +kernel
theorem dX9_figure_10 : decode cX9_figure 10 = .ok (.iload_n 1, 1) := by decide +kernel
theorem dX9_figure_11 : decode cX9_figure 11 = .ok (.iadd, 1) := by decide +kernel
theorem dX9_figure_12 : decode cX9_figure 12 = .ok (.bipush 48, 2) := by decide +kernel
theorem dX9_figure_14 : decode cX9_figure 14 = .ok (.iload_n 2, 1) := by decide +kernel
theorem dX9_figure_15 : decode cX9_figure 15 = .ok (.iadd, 1) := by decide +kernel
theorem dX9_figure_16 : decode cX9_figure 16 = .ok (.invokestatic 47, 3) := by decide +kernel
theorem dX9_figure_19 : decode cX9_figure 19 = .ok (.ireturn, 1) := by decide +kernel
set_option maxRecDepth 20000 in
theorem ggX9_ends_X9_next : GoodIn wsX9_ends wsX9_next := goodIn_r _ [6, 7, 8, 9, 10, 1, 11, 12, 13, 5, 14, 15, 16, 17, 18, 19, 20, 21, 22, 23, 24, 25, 26, 27, 28, 29, 30, 31, 32, 33, 34, 35] (by decide +kernel) (by decide +kernel)
set_option maxRecDepth 20000 in
theorem gX9_ends_X9_next : GoodIn wsX9_ends (wsV RX9 67 RX9 yX9_next wsX9_next) := goodIn_app (goodIn_of _ (by decide +kernel)) ggX9_ends_X9_next
theorem dX9_ends_0 : decode cX9_ends 0 = .ok (.aload_n 0, 1) := by decide +kernel
theorem dX9_ends_1 : decode cX9_ends 1 = .ok (.invokevirtual 67, 3) := by decide +kernel
theorem dX9_ends_4 : decode cX9_ends 4 = .ok (.aload_n 0, 1) := by decide +kernel
theorem dX9_ends_5 : decode cX9_ends 5 = .ok (.getfield 64, 3) := by decide +kernel
theorem dX9_ends_8 : decode cX9_ends 8 = .ok (.bipush 59, 2) := by decide +kernel
theorem dX9_ends_10 : decode cX9_ends 10 = .ok (.if_icmp .ne 7, 3) := by decide +kernel
theorem dX9_ends_13 : decode cX9_ends 13 = .ok (.iconst 1, 1) := by decide +kernel
theorem dX9_ends_14 : decode cX9_ends 14 = .ok (.goto 4, 3) := by decide +kernel
theorem dX9_ends_17 : decode cX9_ends 17 = .ok (.iconst 0, 1) := by decide +kernel
theorem dX9_ends_18 : decode cX9_ends 18 = .ok (.ireturn, 1) := by decide +kernel
set_option maxRecDepth 20000 in
theorem ggX9_readsSize_X9_figure : GoodIn wsX9_readsSize wsX9_figure := goodIn_r _ [8, 3, 9, 10, 11, 7, 12, 13, 14, 15, 16, 17, 18, 19, 20, 21, 22, 23, 28, 29, 30, 31, 32, 33, 34, 35, 36, 37, 38, 39, 40, 41, 42, 43, 44, 45, 46, 47, 48] (by decide +kernel) (by decide +kernel)
set_option maxRecDepth 20000 in
theorem gX9_readsSize_X9_figure : GoodIn wsX9_readsSize (wsV RX9 73 RX9 yX9_figure wsX9_figure) := goodIn_app (goodIn_of _ (by decide +kernel)) ggX9_readsSize_X9_figure
set_option maxRecDepth 20000 in
theorem ggX9_readsSize_X9_ends : GoodIn wsX9_readsSize wsX9_ends := goodIn_r _ [27, 3, 9, 10, 11, 7, 12, 13, 14, 15, 16, 17, 18, 19, 20, 28, 29, 30, 31, 32, 33, 34, 35, 36, 37, 38, 39, 40, 41, 42, 43, 44, 45, 46, 47, 48] (by decide +kernel) (by decide +kernel)
set_option maxRecDepth 20000 in
theorem gX9_readsSize_X9_ends : GoodIn wsX9_readsSize (wsV RX9 77 RX9 yX9_ends wsX9_ends) := goodIn_app (goodIn_of _ (by decide +kernel)) ggX9_readsSize_X9_ends
theorem dX9_readsSize_0 : decode cX9_readsSize 0 = .ok (.aload_n 0, 1) := by decide +kernel
theorem dX9_readsSize_1 : decode cX9_readsSize 1 = .ok (.getfield 70, 3) := by decide +kernel
theorem dX9_readsSize_4 : decode cX9_readsSize 4 = .ok (.ifCond .gt 12, 3) := by decide +kernel
theorem dX9_readsSize_7 : decode cX9_readsSize 7 = .ok (.aload_n 0, 1) := by decide +kernel
theorem dX9_readsSize_8 : decode cX9_readsSize 8 = .ok (.iconst 1, 1) := by decide +kernel
theorem dX9_readsSize_9 : decode cX9_readsSize 9 = .ok (.iconst 4, 1) := by decide +kernel
theorem dX9_readsSize_10 : decode cX9_readsSize 10 = .ok (.invokevirtual 73, 3) := by decide +kernel
theorem dX9_readsSize_13 : decode cX9_readsSize 13 = .ok (.ifCond .ne 5, 3) := by decide +kernel
theorem dX9_readsSize_16 : decode cX9_readsSize 16 = .ok (.iconst 0, 1) := by decide +kernel
theorem dX9_readsSize_17 : decode cX9_readsSize 17 = .ok (.ireturn, 1) := by decide +kernel
theorem dX9_readsSize_18 : decode cX9_readsSize 18 = .ok (.aload_n 0, 1) := by decide +kernel
theorem dX9_readsSize_19 : decode cX9_readsSize 19 = .ok (.getfield 29, 3) := by decide +kernel
theorem dX9_readsSize_22 : decode cX9_readsSize 22 = .ok (.bipush 20, 2) := by decide +kernel
theorem dX9_readsSize_24 : decode cX9_readsSize 24 = .ok (.aload_n 0, 1) := by decide +kernel
theorem dX9_readsSize_25 : decode cX9_readsSize 25 = .ok (.getfield 64, 3) := by decide +kernel
theorem dX9_readsSize_28 : decode cX9_readsSize 28 = .ok (.bipush 48, 2) := by decide +kernel
theorem dX9_readsSize_30 : decode cX9_readsSize 30 = .ok (.isub, 1) := by decide +kernel
theorem dX9_readsSize_31 : decode cX9_readsSize 31 = .ok (.iastore, 1) := by decide +kernel
theorem dX9_readsSize_32 : decode cX9_readsSize 32 = .ok (.aload_n 0, 1) := by decide +kernel
theorem dX9_readsSize_33 : decode cX9_readsSize 33 = .ok (.invokevirtual 77, 3) := by decide +kernel
theorem dX9_readsSize_36 : decode cX9_readsSize 36 = .ok (.ireturn, 1) := by decide +kernel
set_option maxRecDepth 20000 in
theorem ggX9_readsF_X9_figure : GoodIn wsX9_readsF wsX9_figure := goodIn_r _ [7, 2, 8, 9, 10, 6, 11, 12, 13, 14, 15, 16, 17, 18, 19, 20, 21, 22, 27, 28, 29, 30, 31, 32, 33, 34, 35, 36, 37, 38, 39, 40, 41, 42, 43, 44, 45, 46, 47] (by decide +kernel) (by decide +kernel)
set_option maxRecDepth 20000 in
theorem gX9_readsF_X9_figure : GoodIn wsX9_readsF (wsV RX9 73 RX9 yX9_figure wsX9_figure) := goodIn_app (goodIn_of _ (by decide +kernel)) ggX9_readsF_X9_figure
set_option maxRecDepth 20000 in
theorem ggX9_readsF_X9_ends : GoodIn wsX9_readsF wsX9_ends := goodIn_r _ [26, 2, 8, 9, 10, 6, 11, 12, 13, 14, 15, 16, 17, 18, 19, 27, 28, 29, 30, 31, 32, 33, 34, 35, 36, 37, 38, 39, 40, 41, 42, 43, 44, 45, 46, 47] (by decide +kernel) (by decide +kernel)
set_option maxRecDepth 20000 in
theorem gX9_readsF_X9_ends : GoodIn wsX9_readsF (wsV RX9 77 RX9 yX9_ends wsX9_ends) := goodIn_app (goodIn_of _ (by decide +kernel)) ggX9_readsF_X9_ends
theorem dX9_readsF_0 : decode cX9_readsF 0 = .ok (.aload_n 0, 1) := by decide +kernel
theorem dX9_readsF_1 : decode cX9_readsF 1 = .ok (.getfield 29, 3) := by decide +kernel
theorem dX9_readsF_4 : decode cX9_readsF 4 = .ok (.bipush 20, 2) := by decide +kernel
theorem dX9_readsF_6 : decode cX9_readsF 6 = .ok (.iaload, 1) := by decide +kernel
theorem dX9_readsF_7 : decode cX9_readsF 7 = .ok (.istore_n 1, 1) := by decide +kernel
theorem dX9_readsF_8 : decode cX9_readsF 8 = .ok (.iconst 0, 1) := by decide +kernel
theorem dX9_readsF_9 : decode cX9_readsF 9 = .ok (.istore_n 2, 1) := by decide +kernel
theorem dX9_readsF_10 : decode cX9_readsF 10 = .ok (.iload_n 2, 1) := by decide +kernel
theorem dX9_readsF_11 : decode cX9_readsF 11 = .ok (.iload_n 1, 1) := by decide +kernel
theorem dX9_readsF_12 : decode cX9_readsF 12 = .ok (.iload_n 1, 1) := by decide +kernel
theorem dX9_readsF_13 : decode cX9_readsF 13 = .ok (.imul, 1) := by decide +kernel
theorem dX9_readsF_14 : decode cX9_readsF 14 = .ok (.if_icmp .ge 43, 3) := by decide +kernel
theorem dX9_readsF_17 : decode cX9_readsF 17 = .ok (.aload_n 0, 1) := by decide +kernel
theorem dX9_readsF_18 : decode cX9_readsF 18 = .ok (.iconst 0, 1) := by decide +kernel
theorem dX9_readsF_19 : decode cX9_readsF 19 = .ok (.iload_n 1, 1) := by decide +kernel
theorem dX9_readsF_20 : decode cX9_readsF 20 = .ok (.iconst 1, 1) := by decide +kernel
theorem dX9_readsF_21 : decode cX9_readsF 21 = .ok (.isub, 1) := by decide +kernel
theorem dX9_readsF_22 : decode cX9_readsF 22 = .ok (.invokevirtual 73, 3) := by decide +kernel
theorem dX9_readsF_25 : decode cX9_readsF 25 = .ok (.ifCond .ne 5, 3) := by decide +kernel
theorem dX9_readsF_28 : decode cX9_readsF 28 = .ok (.iconst 0, 1) := by decide +kernel
theorem dX9_readsF_29 : decode cX9_readsF 29 = .ok (.ireturn, 1) := by decide +kernel
theorem dX9_readsF_30 : decode cX9_readsF 30 = .ok (.aload_n 0, 1) := by decide +kernel
theorem dX9_readsF_31 : decode cX9_readsF 31 = .ok (.getfield 29, 3) := by decide +kernel
theorem dX9_readsF_34 : decode cX9_readsF 34 = .ok (.iconst 4, 1) := by decide +kernel
theorem dX9_readsF_35 : decode cX9_readsF 35 = .ok (.iload_n 2, 1) := by decide +kernel
theorem dX9_readsF_36 : decode cX9_readsF 36 = .ok (.iload_n 1, 1) := by decide +kernel
theorem dX9_readsF_37 : decode cX9_readsF 37 = .ok (.idiv, 1) := by decide +kernel
theorem dX9_readsF_38 : decode cX9_readsF 38 = .ok (.imul, 1) := by decide +kernel
theorem dX9_readsF_39 : decode cX9_readsF 39 = .ok (.iload_n 2, 1) := by decide +kernel
theorem dX9_readsF_40 : decode cX9_readsF 40 = .ok (.iload_n 1, 1) := by decide +kernel
theorem dX9_readsF_41 : decode cX9_readsF 41 = .ok (.irem, 1) := by decide +kernel
theorem dX9_readsF_42 : decode cX9_readsF 42 = .ok (.iadd, 1) := by decide +kernel
theorem dX9_readsF_43 : decode cX9_readsF 43 = .ok (.aload_n 0, 1) := by decide +kernel
theorem dX9_readsF_44 : decode cX9_readsF 44 = .ok (.getfield 64, 3) := by decide +kernel
theorem dX9_readsF_47 : decode cX9_readsF 47 = .ok (.bipush 48, 2) := by decide +kernel
theorem dX9_readsF_49 : decode cX9_readsF 49 = .ok (.isub, 1) := by decide +kernel
theorem dX9_readsF_50 : decode cX9_readsF 50 = .ok (.iastore, 1) := by decide +kernel
theorem dX9_readsF_51 : decode cX9_readsF 51 = .ok (.iinc 2 1, 3) := by decide +kernel
theorem dX9_readsF_54 : decode cX9_readsF 54 = .ok (.goto (-44), 3) := by decide +kernel
theorem dX9_readsF_57 : decode cX9_readsF 57 = .ok (.aload_n 0, 1) := by decide +kernel
theorem dX9_readsF_58 : decode cX9_readsF 58 = .ok (.invokevirtual 77, 3) := by decide +kernel
theorem dX9_readsF_61 : decode cX9_readsF 61 = .ok (.ireturn, 1) := by decide +kernel
set_option maxRecDepth 20000 in
theorem ggX9_readsG_X9_figure : GoodIn wsX9_readsG wsX9_figure := goodIn_r _ [7, 2, 8, 9, 10, 6, 11, 12, 13, 14, 15, 16, 17, 18, 19, 20, 21, 22, 27, 28, 29, 30, 31, 32, 33, 34, 35, 36, 37, 38, 39, 40, 41, 42, 43, 44, 45, 46, 47] (by decide +kernel) (by decide +kernel)
set_option maxRecDepth 20000 in
theorem gX9_readsG_X9_figure : GoodIn wsX9_readsG (wsV RX9 73 RX9 yX9_figure wsX9_figure) := goodIn_app (goodIn_of _ (by decide +kernel)) ggX9_readsG_X9_figure
set_option maxRecDepth 20000 in
theorem ggX9_readsG_X9_ends : GoodIn wsX9_readsG wsX9_ends := goodIn_r _ [26, 2, 8, 9, 10, 6, 11, 12, 13, 14, 15, 16, 17, 18, 19, 27, 28, 29, 30, 31, 32, 33, 34, 35, 36, 37, 38, 39, 40, 41, 42, 43, 44, 45, 46, 47] (by decide +kernel) (by decide +kernel)
set_option maxRecDepth 20000 in
theorem gX9_readsG_X9_ends : GoodIn wsX9_readsG (wsV RX9 77 RX9 yX9_ends wsX9_ends) := goodIn_app (goodIn_of _ (by decide +kernel)) ggX9_readsG_X9_ends
theorem dX9_readsG_0 : decode cX9_readsG 0 = .ok (.iconst 0, 1) := by decide +kernel
theorem dX9_readsG_1 : decode cX9_readsG 1 = .ok (.istore_n 1, 1) := by decide +kernel
theorem dX9_readsG_2 : decode cX9_readsG 2 = .ok (.iload_n 1, 1) := by decide +kernel
theorem dX9_readsG_3 : decode cX9_readsG 3 = .ok (.aload_n 0, 1) := by decide +kernel
theorem dX9_readsG_4 : decode cX9_readsG 4 = .ok (.getfield 29, 3) := by decide +kernel
theorem dX9_readsG_7 : decode cX9_readsG 7 = .ok (.bipush 20, 2) := by decide +kernel
theorem dX9_readsG_9 : decode cX9_readsG 9 = .ok (.iaload, 1) := by decide +kernel
theorem dX9_readsG_10 : decode cX9_readsG 10 = .ok (.if_icmp .ge 44, 3) := by decide +kernel
theorem dX9_readsG_13 : decode cX9_readsG 13 = .ok (.aload_n 0, 1) := by decide +kernel
theorem dX9_readsG_14 : decode cX9_readsG 14 = .ok (.iconst 0, 1) := by decide +kernel
theorem dX9_readsG_15 : decode cX9_readsG 15 = .ok (.aload_n 0, 1) := by decide +kernel
theorem dX9_readsG_16 : decode cX9_readsG 16 = .ok (.getfield 29, 3) := by decide +kernel
theorem dX9_readsG_19 : decode cX9_readsG 19 = .ok (.bipush 20, 2) := by decide +kernel
theorem dX9_readsG_21 : decode cX9_readsG 21 = .ok (.iaload, 1) := by decide +kernel
theorem dX9_readsG_22 : decode cX9_readsG 22 = .ok (.iconst 1, 1) := by decide +kernel
theorem dX9_readsG_23 : decode cX9_readsG 23 = .ok (.isub, 1) := by decide +kernel
theorem dX9_readsG_24 : decode cX9_readsG 24 = .ok (.invokevirtual 73, 3) := by decide +kernel
theorem dX9_readsG_27 : decode cX9_readsG 27 = .ok (.ifCond .ne 5, 3) := by decide +kernel
theorem dX9_readsG_30 : decode cX9_readsG 30 = .ok (.iconst 0, 1) := by decide +kernel
theorem dX9_readsG_31 : decode cX9_readsG 31 = .ok (.ireturn, 1) := by decide +kernel
theorem dX9_readsG_32 : decode cX9_readsG 32 = .ok (.aload_n 0, 1) := by decide +kernel
theorem dX9_readsG_33 : decode cX9_readsG 33 = .ok (.getfield 29, 3) := by decide +kernel
theorem dX9_readsG_36 : decode cX9_readsG 36 = .ok (.bipush 16, 2) := by decide +kernel
theorem dX9_readsG_38 : decode cX9_readsG 38 = .ok (.iload_n 1, 1) := by decide +kernel
theorem dX9_readsG_39 : decode cX9_readsG 39 = .ok (.iadd, 1) := by decide +kernel
theorem dX9_readsG_40 : decode cX9_readsG 40 = .ok (.aload_n 0, 1) := by decide +kernel
theorem dX9_readsG_41 : decode cX9_readsG 41 = .ok (.getfield 64, 3) := by decide +kernel
theorem dX9_readsG_44 : decode cX9_readsG 44 = .ok (.bipush 48, 2) := by decide +kernel
theorem dX9_readsG_46 : decode cX9_readsG 46 = .ok (.isub, 1) := by decide +kernel
theorem dX9_readsG_47 : decode cX9_readsG 47 = .ok (.iastore, 1) := by decide +kernel
theorem dX9_readsG_48 : decode cX9_readsG 48 = .ok (.iinc 1 1, 3) := by decide +kernel
theorem dX9_readsG_51 : decode cX9_readsG 51 = .ok (.goto (-49), 3) := by decide +kernel
theorem dX9_readsG_54 : decode cX9_readsG 54 = .ok (.aload_n 0, 1) := by decide +kernel
theorem dX9_readsG_55 : decode cX9_readsG 55 = .ok (.invokevirtual 77, 3) := by decide +kernel
theorem dX9_readsG_58 : decode cX9_readsG 58 = .ok (.ireturn, 1) := by decide +kernel
set_option maxRecDepth 20000 in
theorem ggX9_readsItem_X9_next : GoodIn wsX9_readsItem wsX9_next := goodIn_r _ [6, 7, 8, 9, 10, 1, 11, 12, 13, 5, 14, 40, 41, 42, 43, 44, 45, 46, 47, 48, 49, 50, 51, 52, 53, 54, 55, 56, 57, 58, 59, 60] (by decide +kernel) (by decide +kernel)
set_option maxRecDepth 20000 in
theorem gX9_readsItem_X9_next : GoodIn wsX9_readsItem (wsV RX9 67 RX9 yX9_next wsX9_next) := goodIn_app (goodIn_of _ (by decide +kernel)) ggX9_readsItem_X9_next
set_option maxRecDepth 20000 in
theorem ggX9_readsItem_X9_readsSize : GoodIn wsX9_readsItem wsX9_readsSize := goodIn_r _ [18, 19, 20, 1, 21, 22, 23, 5, 24, 2, 3, 4, 6, 7, 8, 9, 10, 11, 12, 13, 14, 25, 26, 27, 28, 29, 30, 31, 40, 41, 42, 43, 44, 45, 46, 47, 48, 49, 50, 51, 52, 53, 54, 55, 56, 57, 58, 59, 60] (by decide +kernel) (by decide +kernel)
set_option maxRecDepth 20000 in
theorem gX9_readsItem_X9_readsSize : GoodIn wsX9_readsItem (wsV RX9 81 RX9 yX9_readsSize wsX9_readsSize) := goodIn_app (goodIn_of _ (by decide +kernel)) ggX9_readsItem_X9_readsSize
set_option maxRecDepth 20000 in
theorem ggX9_readsItem_X9_readsF : GoodIn wsX9_readsItem wsX9_readsF := goodIn_r _ [35, 20, 1, 21, 22, 23, 5, 24, 2, 3, 4, 6, 7, 8, 9, 10, 11, 12, 13, 14, 25, 26, 27, 28, 29, 30, 31, 40, 41, 42, 43, 44, 45, 46, 47, 48, 49, 50, 51, 52, 53, 54, 55, 56, 57, 58, 59, 60] (by decide +kernel) (by decide +kernel)
set_option maxRecDepth 20000 in
theorem gX9_readsItem_X9_readsF : GoodIn wsX9_readsItem (wsV RX9 84 RX9 yX9_readsF wsX9_readsF) := goodIn_app (goodIn_of _ (by decide +kernel)) ggX9_readsItem_X9_readsF
set_option maxRecDepth 20000 in
theorem ggX9_readsItem_X9_readsG : GoodIn wsX9_readsItem wsX9_readsG := goodIn_r _ [39, 20, 1, 21, 22, 23, 5, 24, 2, 3, 4, 6, 7, 8, 9, 10, 11, 12, 13, 14, 25, 26, 27, 28, 29, 30, 31, 40, 41, 42, 43, 44, 45, 46, 47, 48, 49, 50, 51, 52, 53, 54, 55, 56, 57, 58, 59, 60] (by decide +kernel) (by decide +kernel)
set_option maxRecDepth 20000 in
theorem gX9_readsItem_X9_readsG : GoodIn wsX9_readsItem (wsV RX9 87 RX9 yX9_readsG wsX9_readsG) := goodIn_app (goodIn_of _ (by decide +kernel)) ggX9_readsItem_X9_readsG
theorem dX9_readsItem_0 : decode cX9_readsItem 0 = .ok (.aload_n 0, 1) := by decide +kernel
theorem dX9_readsItem_1 : decode cX9_readsItem 1 = .ok (.invokevirtual 67, 3) := by decide +kernel
theorem dX9_readsItem_4 : decode cX9_readsItem 4 = .ok (.aload_n 0, 1) := by decide +kernel
theorem dX9_readsItem_5 : decode cX9_readsItem 5 = .ok (.getfield 64, 3) := by decide +kernel
theorem dX9_readsItem_8 : decode cX9_readsItem 8 = .ok (.lookupswitch 51 #[(102, 41), (103, 46), (110, 36)], 36) := by decide +kernel
theorem dX9_readsItem_44 : decode cX9_readsItem 44 = .ok (.aload_n 0, 1) := by decide +kernel
theorem dX9_readsItem_45 : decode cX9_readsItem 45 = .ok (.invokevirtual 81, 3) := by decide +kernel
theorem dX9_readsItem_48 : decode cX9_readsItem 48 = .ok (.ireturn, 1) := by decide +kernel
theorem dX9_readsItem_49 : decode cX9_readsItem 49 = .ok (.aload_n 0, 1) := by decide +kernel
theorem dX9_readsItem_50 : decode cX9_readsItem 50 = .ok (.invokevirtual 84, 3) := by decide +kernel
theorem dX9_readsItem_53 : decode cX9_readsItem 53 = .ok (.ireturn, 1) := by decide +kernel
theorem dX9_readsItem_54 : decode cX9_readsItem 54 = .ok (.aload_n 0, 1) := by decide +kernel
theorem dX9_readsItem_55 : decode cX9_readsItem 55 = .ok (.invokevirtual 87, 3) := by decide +kernel
theorem dX9_readsItem_58 : decode cX9_readsItem 58 = .ok (.ireturn, 1) := by decide +kernel
theorem dX9_readsItem_59 : decode cX9_readsItem 59 = .ok (.iconst 0, 1) := by decide +kernel
theorem dX9_readsItem_60 : decode cX9_readsItem 60 = .ok (.ireturn, 1) := by decide +kernel
set_option maxRecDepth 20000 in
theorem ggX9_tables_X9_begins : GoodIn wsX9_tables wsX9_begins := goodIn_r _ [14] (by decide +kernel) (by decide +kernel)
set_option maxRecDepth 20000 in
theorem gX9_tables_X9_begins : GoodIn wsX9_tables (va_wsS RX9 39 yX9_begins wsX9_begins) := goodIn_app (goodIn_of _ (by decide +kernel)) ggX9_tables_X9_begins
set_option maxRecDepth 20000 in
theorem ggX9_tables_X9_blanks : GoodIn wsX9_tables wsX9_blanks := goodIn_r _ [18, 2, 4, 19, 52, 53, 54, 55, 56, 57, 58, 59, 60, 61, 62, 63, 64, 65, 66, 67, 68, 69, 70, 71, 72] (by decide +kernel) (by decide +kernel)
set_option maxRecDepth 20000 in
theorem gX9_tables_X9_blanks : GoodIn wsX9_tables (wsV RX9 58 RX9 yX9_blanks wsX9_blanks) := goodIn_app (goodIn_of _ (by decide +kernel)) ggX9_tables_X9_blanks
set_option maxRecDepth 20000 in
theorem ggX9_tables_X9_readsItem : GoodIn wsX9_tables wsX9_readsItem := goodIn_r _ [23, 24, 25, 26, 27, 13, 28, 2, 5, 4, 19, 15, 16, 17, 18, 29, 30, 31, 32, 3, 1, 33, 34, 35, 36, 37, 38, 39, 40, 41, 42, 43, 44, 45, 46, 47, 48, 49, 50, 51, 52, 53, 54, 55, 56, 57, 58, 59, 60, 61, 62, 63, 64, 65, 66, 67, 68, 69, 70, 71, 72] (by decide +kernel) (by decide +kernel)
set_option maxRecDepth 20000 in
theorem gX9_tables_X9_readsItem : GoodIn wsX9_tables (wsV RX9 90 RX9 yX9_readsItem wsX9_readsItem) := goodIn_app (goodIn_of _ (by decide +kernel)) ggX9_tables_X9_readsItem
theorem dX9_tables_0 : decode cX9_tables 0 = .ok (.aload_n 0, 1) := by decide +kernel
theorem dX9_tables_1 : decode cX9_tables 1 = .ok (.getfield 29, 3) := by decide +kernel
theorem dX9_tables_4 : decode cX9_tables 4 = .ok (.iconst 2, 1) := by decide +kernel
theorem dX9_tables_5 : decode cX9_tables 5 = .ok (.invokestatic 39, 3) := by decide +kernel
theorem dX9_tables_8 : decode cX9_tables 8 = .ok (.aload_n 0, 1) := by decide +kernel
theorem dX9_tables_9 : decode cX9_tables 9 = .ok (.iconst 0, 1) := by decide +kernel
theorem dX9_tables_10 : decode cX9_tables 10 = .ok (.putfield 55, 3) := by decide +kernel
theorem dX9_tables_13 : decode cX9_tables 13 = .ok (.aload_n 0, 1) := by decide +kernel
theorem dX9_tables_14 : decode cX9_tables 14 = .ok (.iconst 0, 1) := by decide +kernel
theorem dX9_tables_15 : decode cX9_tables 15 = .ok (.putfield 70, 3) := by decide +kernel
theorem dX9_tables_18 : decode cX9_tables 18 = .ok (.aload_n 0, 1) := by decide +kernel
theorem dX9_tables_19 : decode cX9_tables 19 = .ok (.invokevirtual 58, 3) := by decide +kernel
theorem dX9_tables_22 : decode cX9_tables 22 = .ok (.aload_n 0, 1) := by decide +kernel
theorem dX9_tables_23 : decode cX9_tables 23 = .ok (.getfield 55, 3) := by decide +kernel
theorem dX9_tables_26 : decode cX9_tables 26 = .ok (.aload_n 0, 1) := by decide +kernel
theorem dX9_tables_27 : decode cX9_tables 27 = .ok (.getfield 51, 3) := by decide +kernel
theorem dX9_tables_30 : decode cX9_tables 30 = .ok (.if_icmp .ge 43, 3) := by decide +kernel
theorem dX9_tables_33 : decode cX9_tables 33 = .ok (.aload_n 0, 1) := by decide +kernel
theorem dX9_tables_34 : decode cX9_tables 34 = .ok (.invokevirtual 90, 3) := by decide +kernel
theorem dX9_tables_37 : decode cX9_tables 37 = .ok (.ifCond .ne 19, 3) := by decide +kernel
theorem dX9_tables_40 : decode cX9_tables 40 = .ok (.aload_n 0, 1) := by decide +kernel
theorem dX9_tables_41 : decode cX9_tables 41 = .ok (.aload_n 0, 1) := by decide +kernel
theorem dX9_tables_42 : decode cX9_tables 42 = .ok (.getfield 61, 3) := by decide +kernel
theorem dX9_tables_45 : decode cX9_tables 45 = .ok (.putfield 93, 3) := by decide +kernel
theorem dX9_tables_48 : decode cX9_tables 48 = .ok (.bipush (-10), 2) := by decide +kernel
theorem dX9_tables_50 : decode cX9_tables 50 = .ok (.aload_n 0, 1) := by decide +kernel
theorem dX9_tables_51 : decode cX9_tables 51 = .ok (.getfield 93, 3) := by decide +kernel
theorem dX9_tables_54 : decode cX9_tables 54 = .ok (.isub, 1) := by decide +kernel
theorem dX9_tables_55 : decode cX9_tables 55 = .ok (.ireturn, 1) := by decide +kernel
theorem dX9_tables_56 : decode cX9_tables 56 = .ok (.aload_n 0, 1) := by decide +kernel
theorem dX9_tables_57 : decode cX9_tables 57 = .ok (.dup, 1) := by decide +kernel
theorem dX9_tables_58 : decode cX9_tables 58 = .ok (.getfield 70, 3) := by decide +kernel
theorem dX9_tables_61 : decode cX9_tables 61 = .ok (.iconst 1, 1) := by decide +kernel
theorem dX9_tables_62 : decode cX9_tables 62 = .ok (.iadd, 1) := by decide +kernel
theorem dX9_tables_63 : decode cX9_tables 63 = .ok (.putfield 70, 3) := by decide +kernel
theorem dX9_tables_66 : decode cX9_tables 66 = .ok (.aload_n 0, 1) := by decide +kernel
theorem dX9_tables_67 : decode cX9_tables 67 = .ok (.invokevirtual 58, 3) := by decide +kernel
theorem dX9_tables_70 : decode cX9_tables 70 = .ok (.goto (-48), 3) := by decide +kernel
theorem dX9_tables_73 : decode cX9_tables 73 = .ok (.aload_n 0, 1) := by decide +kernel
theorem dX9_tables_74 : decode cX9_tables 74 = .ok (.iconst 0, 1) := by decide +kernel
theorem dX9_tables_75 : decode cX9_tables 75 = .ok (.putfield 51, 3) := by decide +kernel
theorem dX9_tables_78 : decode cX9_tables 78 = .ok (.iconst 0, 1) := by decide +kernel
theorem dX9_tables_79 : decode cX9_tables 79 = .ok (.istore_n 1, 1) := by decide +kernel
theorem dX9_tables_80 : decode cX9_tables 80 = .ok (.iload_n 1, 1) := by decide +kernel
theorem dX9_tables_81 : decode cX9_tables 81 = .ok (.bipush 21, 2) := by decide +kernel
theorem dX9_tables_83 : decode cX9_tables 83 = .ok (.if_icmp .ge 21, 3) := by decide +kernel
theorem dX9_tables_86 : decode cX9_tables 86 = .ok (.aload_n 0, 1) := by decide +kernel
theorem dX9_tables_87 : decode cX9_tables 87 = .ok (.getfield 7, 3) := by decide +kernel
theorem dX9_tables_90 : decode cX9_tables 90 = .ok (.iload_n 1, 1) := by decide +kernel
theorem dX9_tables_91 : decode cX9_tables 91 = .ok (.aload_n 0, 1) := by decide +kernel
theorem dX9_tables_92 : decode cX9_tables 92 = .ok (.getfield 29, 3) := by decide +kernel
theorem dX9_tables_95 : decode cX9_tables 95 = .ok (.iload_n 1, 1) := by decide +kernel
theorem dX9_tables_96 : decode cX9_tables 96 = .ok (.iaload, 1) := by decide +kernel
theorem dX9_tables_97 : decode cX9_tables 97 = .ok (.iastore, 1) := by decide +kernel
theorem dX9_tables_98 : decode cX9_tables 98 = .ok (.iinc 1 1, 3) := by decide +kernel
theorem dX9_tables_101 : decode cX9_tables 101 = .ok (.goto (-21), 3) := by decide +kernel
theorem dX9_tables_104 : decode cX9_tables 104 = .ok (.aload_n 0, 1) := by decide +kernel
theorem dX9_tables_105 : decode cX9_tables 105 = .ok (.iconst 0, 1) := by decide +kernel
theorem dX9_tables_106 : decode cX9_tables 106 = .ok (.putfield 96, 3) := by decide +kernel
theorem dX9_tables_109 : decode cX9_tables 109 = .ok (.aload_n 0, 1) := by decide +kernel
theorem dX9_tables_110 : decode cX9_tables 110 = .ok (.iconst 0, 1) := by decide +kernel
theorem dX9_tables_111 : decode cX9_tables 111 = .ok (.putfield 99, 3) := by decide +kernel
theorem dX9_tables_114 : decode cX9_tables 114 = .ok (.aload_n 0, 1) := by decide +kernel
theorem dX9_tables_115 : decode cX9_tables 115 = .ok (.getfield 19, 3) := by decide +kernel
theorem dX9_tables_118 : decode cX9_tables 118 = .ok (.iconst 0, 1) := by decide +kernel
theorem dX9_tables_119 : decode cX9_tables 119 = .ok (.iconst 0, 1) := by decide +kernel
theorem dX9_tables_120 : decode cX9_tables 120 = .ok (.bastore, 1) := by decide +kernel
theorem dX9_tables_121 : decode cX9_tables 121 = .ok (.aload_n 0, 1) := by decide +kernel
theorem dX9_tables_122 : decode cX9_tables 122 = .ok (.getfield 19, 3) := by decide +kernel
theorem dX9_tables_125 : decode cX9_tables 125 = .ok (.iconst 1, 1) := by decide +kernel
theorem dX9_tables_126 : decode cX9_tables 126 = .ok (.iconst 0, 1) := by decide +kernel
theorem dX9_tables_127 : decode cX9_tables 127 = .ok (.bastore, 1) := by decide +kernel
theorem dX9_tables_128 : decode cX9_tables 128 = .ok (.aload_n 0, 1) := by decide +kernel
theorem dX9_tables_129 : decode cX9_tables 129 = .ok (.getfield 70, 3) := by decide +kernel
theorem dX9_tables_132 : decode cX9_tables 132 = .ok (.ireturn, 1) := by decide +kernel
set_option maxRecDepth 20000 in
theorem ggX9_f_X9_is : GoodIn wsX9_f wsX9_is := goodIn_r _ [5, 6, 7, 8, 4, 9, 10, 11, 12, 13, 18, 19, 20, 21, 22, 23, 24, 25, 26, 27, 28, 29, 30, 31, 32, 33, 34, 35, 36, 37, 38] (by decide +kernel) (by decide +kernel)
set_option maxRecDepth 20000 in
theorem gX9_f_X9_is : GoodIn wsX9_f (wsV RX9 102 RX9 yX9_is wsX9_is) := goodIn_app (goodIn_of _ (by decide +kernel)) ggX9_f_X9_is
set_option maxRecDepth 20000 in
theorem ggX9_f_X9_ff : GoodIn wsX9_f wsX9_ff := goodIn_r _ [17, 10, 18, 19, 20, 21, 22, 23, 24, 25, 26, 27, 28, 29, 30, 31, 32, 33, 34, 35, 36, 37, 38] (by decide +kernel) (by decide +kernel)
set_option maxRecDepth 20000 in
theorem gX9_f_X9_ff : GoodIn wsX9_f (wsV RX9 106 RX9 yX9_ff wsX9_ff) := goodIn_app (goodIn_of _ (by decide +kernel)) ggX9_f_X9_ff
theorem dX9_f_0 : decode cX9_f 0 = .ok (.aload_n 0, 1) := by decide +kernel
theorem dX9_f_1 : decode cX9_f 1 = .ok (.iload_n 1, 1) := by decide +kernel
theorem dX9_f_2 : decode cX9_f 2 = .ok (.invokevirtual 102, 3) := by decide +kernel
theorem dX9_f_5 : decode cX9_f 5 = .ok (.ifCond .eq 20, 3) := by decide +kernel
theorem dX9_f_8 : decode cX9_f 8 = .ok (.aload_n 0, 1) := by decide +kernel
theorem dX9_f_9 : decode cX9_f 9 = .ok (.iload_n 2, 1) := by decide +kernel
theorem dX9_f_10 : decode cX9_f 10 = .ok (.invokevirtual 102, 3) := by decide +kernel
theorem dX9_f_13 : decode cX9_f 13 = .ok (.ifCond .eq 12, 3) := by decide +kernel
theorem dX9_f_16 : decode cX9_f 16 = .ok (.aload_n 0, 1) := by decide +kernel
theorem dX9_f_17 : decode cX9_f 17 = .ok (.iload_n 1, 1) := by decide +kernel
theorem dX9_f_18 : decode cX9_f 18 = .ok (.iload_n 2, 1) := by decide +kernel
theorem dX9_f_19 : decode cX9_f 19 = .ok (.invokevirtual 106, 3) := by decide +kernel
theorem dX9_f_22 : decode cX9_f 22 = .ok (.goto 5, 3) := by decide +kernel
theorem dX9_f_25 : decode cX9_f 25 = .ok (.bipush (-2), 2) := by decide +kernel
theorem dX9_f_27 : decode cX9_f 27 = .ok (.ireturn, 1) := by decide +kernel
set_option maxRecDepth 20000 in
theorem ggX9_g_X9_is : GoodIn wsX9_g wsX9_is := goodIn_r _ [5, 6, 7, 8, 4, 9, 10, 11, 12, 13, 18, 19, 20, 21, 22, 23, 24, 25, 26, 27, 28, 29, 30, 31, 32, 33, 34, 35, 36, 37, 38] (by decide +kernel) (by decide +kernel)
set_option maxRecDepth 20000 in
theorem gX9_g_X9_is : GoodIn wsX9_g (wsV RX9 102 RX9 yX9_is wsX9_is) := goodIn_app (goodIn_of _ (by decide +kernel)) ggX9_g_X9_is
set_option maxRecDepth 20000 in
theorem ggX9_g_X9_gg : GoodIn wsX9_g wsX9_gg := goodIn_r _ [17, 10, 18, 19, 20, 21, 22, 23, 24, 25, 26, 27, 28, 29, 30, 31, 32, 33, 34, 35, 36, 37, 38] (by decide +kernel) (by decide +kernel)
set_option maxRecDepth 20000 in
theorem gX9_g_X9_gg : GoodIn wsX9_g (wsV RX9 110 RX9 yX9_gg wsX9_gg) := goodIn_app (goodIn_of _ (by decide +kernel)) ggX9_g_X9_gg
theorem dX9_g_0 : decode cX9_g 0 = .ok (.aload_n 0, 1) := by decide +kernel
theorem dX9_g_1 : decode cX9_g 1 = .ok (.iload_n 1, 1) := by decide +kernel
theorem dX9_g_2 : decode cX9_g 2 = .ok (.invokevirtual 102, 3) := by decide +kernel
theorem dX9_g_5 : decode cX9_g 5 = .ok (.ifCond .eq 11, 3) := by decide +kernel
theorem dX9_g_8 : decode cX9_g 8 = .ok (.aload_n 0, 1) := by decide +kernel
theorem dX9_g_9 : decode cX9_g 9 = .ok (.iload_n 1, 1) := by decide +kernel
theorem dX9_g_10 : decode cX9_g 10 = .ok (.invokevirtual 110, 3) := by decide +kernel
theorem dX9_g_13 : decode cX9_g 13 = .ok (.goto 5, 3) := by decide +kernel
theorem dX9_g_16 : decode cX9_g 16 = .ok (.bipush (-2), 2) := by decide +kernel
theorem dX9_g_18 : decode cX9_g 18 = .ok (.ireturn, 1) := by decide +kernel
set_option maxRecDepth 20000 in
theorem ggX9_sets_X9_is : GoodIn wsX9_sets wsX9_is := goodIn_r _ [9, 10, 11, 12, 8, 13, 1, 14, 15, 16, 17, 18, 19, 20, 21, 22, 23, 24, 25, 26, 27, 28, 29, 30, 31, 32, 33, 34, 35, 36, 37] (by decide +kernel) (by decide +kernel)
set_option maxRecDepth 20000 in
theorem gX9_sets_X9_is : GoodIn wsX9_sets (wsV RX9 102 RX9 yX9_is wsX9_is) := goodIn_app (goodIn_of _ (by decide +kernel)) ggX9_sets_X9_is
set_option maxRecDepth 20000 in
theorem ggX9_sets_X9_size : GoodIn wsX9_sets wsX9_size := goodIn_r _ [13, 1, 17, 18, 19, 20, 21, 22, 23, 24, 25, 26, 27, 28, 29, 30, 31, 32, 33, 34, 35, 36, 37] (by decide +kernel) (by decide +kernel)
set_option maxRecDepth 20000 in
theorem gX9_sets_X9_size : GoodIn wsX9_sets (wsV RX9 43 RX9 yX9_size wsX9_size) := goodIn_app (goodIn_of _ (by decide +kernel)) ggX9_sets_X9_size
set_option maxRecDepth 20000 in
theorem ggX9_sets_X9_in : GoodIn wsX9_sets wsX9_in := goodIn_r _ [16] (by decide +kernel) (by decide +kernel)
set_option maxRecDepth 20000 in
theorem gX9_sets_X9_in : GoodIn wsX9_sets (va_wsS RX9 47 yX9_in wsX9_in) := goodIn_app (goodIn_of _ (by decide +kernel)) ggX9_sets_X9_in
theorem dX9_sets_0 : decode cX9_sets 0 = .ok (.aload_n 0, 1) := by decide +kernel
theorem dX9_sets_1 : decode cX9_sets 1 = .ok (.iload_n 1, 1) := by decide +kernel
theorem dX9_sets_2 : decode cX9_sets 2 = .ok (.invokevirtual 102, 3) := by decide +kernel
theorem dX9_sets_5 : decode cX9_sets 5 = .ok (.ifCond .eq 25, 3) := by decide +kernel
theorem dX9_sets_8 : decode cX9_sets 8 = .ok (.iload_n 2, 1) := by decide +kernel
theorem dX9_sets_9 : decode cX9_sets 9 = .ok (.iconst (-1), 1) := by decide +kernel
theorem dX9_sets_10 : decode cX9_sets 10 = .ok (.aload_n 0, 1) := by decide +kernel
theorem dX9_sets_11 : decode cX9_sets 11 = .ok (.invokevirtual 43, 3) := by decide +kernel
theorem dX9_sets_14 : decode cX9_sets 14 = .ok (.iconst 1, 1) := by decide +kernel
theorem dX9_sets_15 : decode cX9_sets 15 = .ok (.isub, 1) := by decide +kernel
theorem dX9_sets_16 : decode cX9_sets 16 = .ok (.invokestatic 47, 3) := by decide +kernel
theorem dX9_sets_19 : decode cX9_sets 19 = .ok (.ifCond .eq 11, 3) := by decide +kernel
theorem dX9_sets_22 : decode cX9_sets 22 = .ok (.aload_n 0, 1) := by decide +kernel
theorem dX9_sets_23 : decode cX9_sets 23 = .ok (.iload_n 3, 1) := by decide +kernel
theorem dX9_sets_24 : decode cX9_sets 24 = .ok (.invokevirtual 102, 3) := by decide +kernel
theorem dX9_sets_27 : decode cX9_sets 27 = .ok (.ifCond .ne 6, 3) := by decide +kernel
theorem dX9_sets_30 : decode cX9_sets 30 = .ok (.bipush (-2), 2) := by decide +kernel
theorem dX9_sets_32 : decode cX9_sets 32 = .ok (.ireturn, 1) := by decide +kernel
theorem dX9_sets_33 : decode cX9_sets 33 = .ok (.iload_n 2, 1) := by decide +kernel
theorem dX9_sets_34 : decode cX9_sets 34 = .ok (.ifCond .ge 10, 3) := by decide +kernel
theorem dX9_sets_37 : decode cX9_sets 37 = .ok (.bipush 16, 2) := by decide +kernel
theorem dX9_sets_39 : decode cX9_sets 39 = .ok (.iload_n 1, 1) := by decide +kernel
theorem dX9_sets_40 : decode cX9_sets 40 = .ok (.iadd, 1) := by decide +kernel
theorem dX9_sets_41 : decode cX9_sets 41 = .ok (.goto 8, 3) := by decide +kernel
theorem dX9_sets_44 : decode cX9_sets 44 = .ok (.iconst 4, 1) := by decide +kernel
theorem dX9_sets_45 : decode cX9_sets 45 = .ok (.iload_n 1, 1) := by decide +kernel
theorem dX9_sets_46 : decode cX9_sets 46 = .ok (.imul, 1) := by decide +kernel
theorem dX9_sets_47 : decode cX9_sets 47 = .ok (.iload_n 2, 1) := by decide +kernel
theorem dX9_sets_48 : decode cX9_sets 48 = .ok (.iadd, 1) := by decide +kernel
theorem dX9_sets_49 : decode cX9_sets 49 = .ok (.istore 4, 2) := by decide +kernel
theorem dX9_sets_51 : decode cX9_sets 51 = .ok (.aload_n 0, 1) := by decide +kernel
theorem dX9_sets_52 : decode cX9_sets 52 = .ok (.getfield 7, 3) := by decide +kernel
theorem dX9_sets_55 : decode cX9_sets 55 = .ok (.iload 4, 2) := by decide +kernel
theorem dX9_sets_57 : decode cX9_sets 57 = .ok (.iaload, 1) := by decide +kernel
theorem dX9_sets_58 : decode cX9_sets 58 = .ok (.istore 5, 2) := by decide +kernel
theorem dX9_sets_60 : decode cX9_sets 60 = .ok (.iload 5, 2) := by decide +kernel
theorem dX9_sets_62 : decode cX9_sets 62 = .ok (.iload_n 3, 1) := by decide +kernel
theorem dX9_sets_63 : decode cX9_sets 63 = .ok (.if_icmp .ne 6, 3) := by decide +kernel
theorem dX9_sets_66 : decode cX9_sets 66 = .ok (.bipush (-3), 2) := by decide +kernel
theorem dX9_sets_68 : decode cX9_sets 68 = .ok (.ireturn, 1) := by decide +kernel
theorem dX9_sets_69 : decode cX9_sets 69 = .ok (.iconst 0, 1) := by decide +kernel
theorem dX9_sets_70 : decode cX9_sets 70 = .ok (.istore 6, 2) := by decide +kernel
theorem dX9_sets_72 : decode cX9_sets 72 = .ok (.iload 6, 2) := by decide +kernel
theorem dX9_sets_74 : decode cX9_sets 74 = .ok (.bipush 21, 2) := by decide +kernel
theorem dX9_sets_76 : decode cX9_sets 76 = .ok (.if_icmp .ge 31, 3) := by decide +kernel
theorem dX9_sets_79 : decode cX9_sets 79 = .ok (.aload_n 0, 1) := by decide +kernel
theorem dX9_sets_80 : decode cX9_sets 80 = .ok (.getfield 13, 3) := by decide +kernel
theorem dX9_sets_83 : decode cX9_sets 83 = .ok (.bipush 21, 2) := by decide +kernel
theorem dX9_sets_85 : decode cX9_sets 85 = .ok (.aload_n 0, 1) := by decide +kernel
theorem dX9_sets_86 : decode cX9_sets 86 = .ok (.getfield 114, 3) := by decide +kernel
theorem dX9_sets_89 : decode cX9_sets 89 = .ok (.imul, 1) := by decide +kernel
theorem dX9_sets_90 : decode cX9_sets 90 = .ok (.iload 6, 2) := by decide +kernel
theorem dX9_sets_92 : decode cX9_sets 92 = .ok (.iadd, 1) := by decide +kernel
theorem dX9_sets_93 : decode cX9_sets 93 = .ok (.aload_n 0, 1) := by decide +kernel
theorem dX9_sets_94 : decode cX9_sets 94 = .ok (.getfield 7, 3) := by decide +kernel
theorem dX9_sets_97 : decode cX9_sets 97 = .ok (.iload 6, 2) := by decide +kernel
theorem dX9_sets_99 : decode cX9_sets 99 = .ok (.iaload, 1) := by decide +kernel
theorem dX9_sets_100 : decode cX9_sets 100 = .ok (.iastore, 1) := by decide +kernel
theorem dX9_sets_101 : decode cX9_sets 101 = .ok (.iinc 6 1, 3) := by decide +kernel
theorem dX9_sets_104 : decode cX9_sets 104 = .ok (.goto (-32), 3) := by decide +kernel
theorem dX9_sets_107 : decode cX9_sets 107 = .ok (.aload_n 0, 1) := by decide +kernel
theorem dX9_sets_108 : decode cX9_sets 108 = .ok (.aload_n 0, 1) := by decide +kernel
theorem dX9_sets_109 : decode cX9_sets 109 = .ok (.getfield 114, 3) := by decide +kernel
theorem dX9_sets_112 : decode cX9_sets 112 = .ok (.iconst 1, 1) := by decide +kernel
theorem dX9_sets_113 : decode cX9_sets 113 = .ok (.iadd, 1) := by decide +kernel
theorem dX9_sets_114 : decode cX9_sets 114 = .ok (.bipush 12, 2) := by decide +kernel
theorem dX9_sets_116 : decode cX9_sets 116 = .ok (.irem, 1) := by decide +kernel
theorem dX9_sets_117 : decode cX9_sets 117 = .ok (.putfield 114, 3) := by decide +kernel
theorem dX9_sets_120 : decode cX9_sets 120 = .ok (.aload_n 0, 1) := by decide +kernel
theorem dX9_sets_121 : decode cX9_sets 121 = .ok (.dup, 1) := by decide +kernel
theorem dX9_sets_122 : decode cX9_sets 122 = .ok (.getfield 96, 3) := by decide +kernel
theorem dX9_sets_125 : decode cX9_sets 125 = .ok (.aload_n 0, 1) := by decide +kernel
theorem dX9_sets_126 : decode cX9_sets 126 = .ok (.getfield 96, 3) := by decide +kernel
theorem dX9_sets_129 : decode cX9_sets 129 = .ok (.bipush 12, 2) := by decide +kernel
theorem dX9_sets_131 : decode cX9_sets 131 = .ok (.if_icmp .ge 7, 3) := by decide +kernel
theorem dX9_sets_134 : decode cX9_sets 134 = .ok (.iconst 1, 1) := by decide +kernel
theorem dX9_sets_135 : decode cX9_sets 135 = .ok (.goto 4, 3) := by decide +kernel
theorem dX9_sets_138 : decode cX9_sets 138 = .ok (.iconst 0, 1) := by decide +kernel
theorem dX9_sets_139 : decode cX9_sets 139 = .ok (.iadd, 1) := by decide +kernel
theorem dX9_sets_140 : decode cX9_sets 140 = .ok (.putfield 96, 3) := by decide +kernel
theorem dX9_sets_143 : decode cX9_sets 143 = .ok (.aload_n 0, 1) := by decide +kernel
theorem dX9_sets_144 : decode cX9_sets 144 = .ok (.getfield 7, 3) := by decide +kernel
theorem dX9_sets_147 : decode cX9_sets 147 = .ok (.iload 4, 2) := by decide +kernel
theorem dX9_sets_149 : decode cX9_sets 149 = .ok (.iload_n 3, 1) := by decide +kernel
theorem dX9_sets_150 : decode cX9_sets 150 = .ok (.iastore, 1) := by decide +kernel
theorem dX9_sets_151 : decode cX9_sets 151 = .ok (.iload 5, 2) := by decide +kernel
theorem dX9_sets_153 : decode cX9_sets 153 = .ok (.ireturn, 1) := by decide +kernel
theorem dX9_undo_0 : decode cX9_undo 0 = .ok (.aload_n 0, 1) := by decide +kernel
theorem dX9_undo_1 : decode cX9_undo 1 = .ok (.getfield 96, 3) := by decide +kernel
theorem dX9_undo_4 : decode cX9_undo 4 = .ok (.ifCond .ne 6, 3) := by decide +kernel
theorem dX9_undo_7 : decode cX9_undo 7 = .ok (.bipush (-3), 2) := by decide +kernel
theorem dX9_undo_9 : decode cX9_undo 9 = .ok (.ireturn, 1) := by decide +kernel
theorem dX9_undo_10 : decode cX9_undo 10 = .ok (.aload_n 0, 1) := by decide +kernel
theorem dX9_undo_11 : decode cX9_undo 11 = .ok (.aload_n 0, 1) := by decide +kernel
theorem dX9_undo_12 : decode cX9_undo 12 = .ok (.getfield 114, 3) := by decide +kernel
theorem dX9_undo_15 : decode cX9_undo 15 = .ok (.bipush 12, 2) := by decide +kernel
theorem dX9_undo_17 : decode cX9_undo 17 = .ok (.iadd, 1) := by decide +kernel
theorem dX9_undo_18 : decode cX9_undo 18 = .ok (.iconst 1, 1) := by decide +kernel
theorem dX9_undo_19 : decode cX9_undo 19 = .ok (.isub, 1) := by decide +kernel
theorem dX9_undo_20 : decode cX9_undo 20 = .ok (.bipush 12, 2) := by decide +kernel
theorem dX9_undo_22 : decode cX9_undo 22 = .ok (.irem, 1) := by decide +kernel
theorem dX9_undo_23 : decode cX9_undo 23 = .ok (.putfield 114, 3) := by decide +kernel
theorem dX9_undo_26 : decode cX9_undo 26 = .ok (.aload_n 0, 1) := by decide +kernel
theorem dX9_undo_27 : decode cX9_undo 27 = .ok (.dup, 1) := by decide +kernel
theorem dX9_undo_28 : decode cX9_undo 28 = .ok (.getfield 96, 3) := by decide +kernel
theorem dX9_undo_31 : decode cX9_undo 31 = .ok (.iconst 1, 1) := by decide +kernel
theorem dX9_undo_32 : decode cX9_undo 32 = .ok (.isub, 1) := by decide +kernel
theorem dX9_undo_33 : decode cX9_undo 33 = .ok (.putfield 96, 3) := by decide +kernel
theorem dX9_undo_36 : decode cX9_undo 36 = .ok (.iconst 0, 1) := by decide +kernel
theorem dX9_undo_37 : decode cX9_undo 37 = .ok (.istore_n 1, 1) := by decide +kernel
theorem dX9_undo_38 : decode cX9_undo 38 = .ok (.iload_n 1, 1) := by decide +kernel
theorem dX9_undo_39 : decode cX9_undo 39 = .ok (.bipush 21, 2) := by decide +kernel
theorem dX9_undo_41 : decode cX9_undo 41 = .ok (.if_icmp .ge 29, 3) := by decide +kernel
theorem dX9_undo_44 : decode cX9_undo 44 = .ok (.aload_n 0, 1) := by decide +kernel
theorem dX9_undo_45 : decode cX9_undo 45 = .ok (.getfield 7, 3) := by decide +kernel
theorem dX9_undo_48 : decode cX9_undo 48 = .ok (.iload_n 1, 1) := by decide +kernel
theorem dX9_undo_49 : decode cX9_undo 49 = .ok (.aload_n 0, 1) := by decide +kernel
theorem dX9_undo_50 : decode cX9_undo 50 = .ok (.getfield 13, 3) := by decide +kernel
theorem dX9_undo_53 : decode cX9_undo 53 = .ok (.bipush 21, 2) := by decide +kernel
theorem dX9_undo_55 : decode cX9_undo 55 = .ok (.aload_n 0, 1) := by decide +kernel
theorem dX9_undo_56 : decode cX9_undo 56 = .ok (.getfield 114, 3) := by decide +kernel
theorem dX9_undo_59 : decode cX9_undo 59 = .ok (.imul, 1) := by decide +kernel
theorem dX9_undo_60 : decode cX9_undo 60 = .ok (.iload_n 1, 1) := by decide +kernel
theorem dX9_undo_61 : decode cX9_undo 61 = .ok (.iadd, 1) := by decide +kernel
theorem dX9_undo_62 : decode cX9_undo 62 = .ok (.iaload, 1) := by decide +kernel
theorem dX9_undo_63 : decode cX9_undo 63 = .ok (.iastore, 1) := by decide +kernel
theorem dX9_undo_64 : decode cX9_undo 64 = .ok (.iinc 1 1, 3) := by decide +kernel
theorem dX9_undo_67 : decode cX9_undo 67 = .ok (.goto (-29), 3) := by decide +kernel
theorem dX9_undo_70 : decode cX9_undo 70 = .ok (.aload_n 0, 1) := by decide +kernel
theorem dX9_undo_71 : decode cX9_undo 71 = .ok (.getfield 96, 3) := by decide +kernel
theorem dX9_undo_74 : decode cX9_undo 74 = .ok (.ireturn, 1) := by decide +kernel
set_option maxRecDepth 20000 in
theorem ggX9_wider_X9_size : GoodIn wsX9_wider wsX9_size := goodIn_r _ [5, 6, 18, 19, 20, 21, 22, 23, 24, 25, 26, 27, 28, 29, 30, 31, 32, 33, 34, 35, 36, 37, 38] (by decide +kernel) (by decide +kernel)
set_option maxRecDepth 20000 in
theorem gX9_wider_X9_size : GoodIn wsX9_wider (wsV RX9 43 RX9 yX9_size wsX9_size) := goodIn_app (goodIn_of _ (by decide +kernel)) ggX9_wider_X9_size
set_option maxRecDepth 20000 in
theorem ggX9_wider_X9_has : GoodIn wsX9_wider wsX9_has := goodIn_r _ [9] (by decide +kernel) (by decide +kernel)
set_option maxRecDepth 20000 in
theorem gX9_wider_X9_has : GoodIn wsX9_wider (va_wsS RX9 117 yX9_has wsX9_has) := goodIn_app (goodIn_of _ (by decide +kernel)) ggX9_wider_X9_has
set_option maxRecDepth 20000 in
theorem ggX9_wider_X9_gg : GoodIn wsX9_wider wsX9_gg := goodIn_r _ [13, 6, 18, 19, 20, 21, 22, 23, 24, 25, 26, 27, 28, 29, 30, 31, 32, 33, 34, 35, 36, 37, 38] (by decide +kernel) (by decide +kernel)
set_option maxRecDepth 20000 in
theorem gX9_wider_X9_gg : GoodIn wsX9_wider (wsV RX9 110 RX9 yX9_gg wsX9_gg) := goodIn_app (goodIn_of _ (by decide +kernel)) ggX9_wider_X9_gg
set_option maxRecDepth 20000 in
theorem ggX9_wider_X9_ff : GoodIn wsX9_wider wsX9_ff := goodIn_r _ [17, 6, 18, 19, 20, 21, 22, 23, 24, 25, 26, 27, 28, 29, 30, 31, 32, 33, 34, 35, 36, 37, 38] (by decide +kernel) (by decide +kernel)
set_option maxRecDepth 20000 in
theorem gX9_wider_X9_ff : GoodIn wsX9_wider (wsV RX9 106 RX9 yX9_ff wsX9_ff) := goodIn_app (goodIn_of _ (by decide +kernel)) ggX9_wider_X9_ff
theorem dX9_wider_0 : decode cX9_wider 0 = .ok (.iload_n 1, 1) := by decide +kernel
theorem dX9_wider_1 : decode cX9_wider 1 = .ok (.istore_n 2, 1) := by decide +kernel
theorem dX9_wider_2 : decode cX9_wider 2 = .ok (.iconst 0, 1) := by decide +kernel
theorem dX9_wider_3 : decode cX9_wider 3 = .ok (.istore_n 3, 1) := by decide +kernel
theorem dX9_wider_4 : decode cX9_wider 4 = .ok (.iload_n 3, 1) := by decide +kernel
theorem dX9_wider_5 : decode cX9_wider 5 = .ok (.aload_n 0, 1) := by decide +kernel
theorem dX9_wider_6 : decode cX9_wider 6 = .ok (.invokevirtual 43, 3) := by decide +kernel
theorem dX9_wider_9 : decode cX9_wider 9 = .ok (.if_icmp .ge 82, 3) := by decide +kernel
theorem dX9_wider_12 : decode cX9_wider 12 = .ok (.iload_n 2, 1) := by decide +kernel
theorem dX9_wider_13 : decode cX9_wider 13 = .ok (.iload_n 1, 1) := by decide +kernel
theorem dX9_wider_14 : decode cX9_wider 14 = .ok (.iload_n 3, 1) := by decide +kernel
theorem dX9_wider_15 : decode cX9_wider 15 = .ok (.invokestatic 117, 3) := by decide +kernel
theorem dX9_wider_18 : decode cX9_wider 18 = .ok (.ifCond .eq 13, 3) := by decide +kernel
theorem dX9_wider_21 : decode cX9_wider 21 = .ok (.iconst 1, 1) := by decide +kernel
theorem dX9_wider_22 : decode cX9_wider 22 = .ok (.aload_n 0, 1) := by decide +kernel
theorem dX9_wider_23 : decode cX9_wider 23 = .ok (.iload_n 3, 1) := by decide +kernel
theorem dX9_wider_24 : decode cX9_wider 24 = .ok (.invokevirtual 110, 3) := by decide +kernel
theorem dX9_wider_27 : decode cX9_wider 27 = .ok (.ishl, 1) := by decide +kernel
theorem dX9_wider_28 : decode cX9_wider 28 = .ok (.goto 4, 3) := by decide +kernel
theorem dX9_wider_31 : decode cX9_wider 31 = .ok (.iconst 0, 1) := by decide +kernel
theorem dX9_wider_32 : decode cX9_wider 32 = .ok (.ior, 1) := by decide +kernel
theorem dX9_wider_33 : decode cX9_wider 33 = .ok (.istore_n 2, 1) := by decide +kernel
theorem dX9_wider_34 : decode cX9_wider 34 = .ok (.iconst 0, 1) := by decide +kernel
theorem dX9_wider_35 : decode cX9_wider 35 = .ok (.istore 4, 2) := by decide +kernel
theorem dX9_wider_37 : decode cX9_wider 37 = .ok (.iload 4, 2) := by decide +kernel
theorem dX9_wider_39 : decode cX9_wider 39 = .ok (.aload_n 0, 1) := by decide +kernel
theorem dX9_wider_40 : decode cX9_wider 40 = .ok (.invokevirtual 43, 3) := by decide +kernel
theorem dX9_wider_43 : decode cX9_wider 43 = .ok (.if_icmp .ge 42, 3) := by decide +kernel
theorem dX9_wider_46 : decode cX9_wider 46 = .ok (.iload_n 2, 1) := by decide +kernel
theorem dX9_wider_47 : decode cX9_wider 47 = .ok (.iload_n 1, 1) := by decide +kernel
theorem dX9_wider_48 : decode cX9_wider 48 = .ok (.iload_n 3, 1) := by decide +kernel
theorem dX9_wider_49 : decode cX9_wider 49 = .ok (.invokestatic 117, 3) := by decide +kernel
theorem dX9_wider_52 : decode cX9_wider 52 = .ok (.ifCond .eq 24, 3) := by decide +kernel
theorem dX9_wider_55 : decode cX9_wider 55 = .ok (.iload_n 1, 1) := by decide +kernel
theorem dX9_wider_56 : decode cX9_wider 56 = .ok (.iload 4, 2) := by decide +kernel
theorem dX9_wider_58 : decode cX9_wider 58 = .ok (.invokestatic 117, 3) := by decide +kernel
theorem dX9_wider_61 : decode cX9_wider 61 = .ok (.ifCond .eq 15, 3) := by decide +kernel
theorem dX9_wider_64 : decode cX9_wider 64 = .ok (.iconst 1, 1) := by decide +kernel
theorem dX9_wider_65 : decode cX9_wider 65 = .ok (.aload_n 0, 1) := by decide +kernel
theorem dX9_wider_66 : decode cX9_wider 66 = .ok (.iload_n 3, 1) := by decide +kernel
theorem dX9_wider_67 : decode cX9_wider 67 = .ok (.iload 4, 2) := by decide +kernel
theorem dX9_wider_69 : decode cX9_wider 69 = .ok (.invokevirtual 106, 3) := by decide +kernel
theorem dX9_wider_72 : decode cX9_wider 72 = .ok (.ishl, 1) := by decide +kernel
theorem dX9_wider_73 : decode cX9_wider 73 = .ok (.goto 4, 3) := by decide +kernel
theorem dX9_wider_76 : decode cX9_wider 76 = .ok (.iconst 0, 1) := by decide +kernel
theorem dX9_wider_77 : decode cX9_wider 77 = .ok (.ior, 1) := by decide +kernel
theorem dX9_wider_78 : decode cX9_wider 78 = .ok (.istore_n 2, 1) := by decide +kernel
theorem dX9_wider_79 : decode cX9_wider 79 = .ok (.iinc 4 1, 3) := by decide +kernel
theorem dX9_wider_82 : decode cX9_wider 82 = .ok (.goto (-45), 3) := by decide +kernel
theorem dX9_wider_85 : decode cX9_wider 85 = .ok (.iinc 3 1, 3) := by decide +kernel
theorem dX9_wider_88 : decode cX9_wider 88 = .ok (.goto (-84), 3) := by decide +kernel
theorem dX9_wider_91 : decode cX9_wider 91 = .ok (.iload_n 2, 1) := by decide +kernel
theorem dX9_wider_92 : decode cX9_wider 92 = .ok (.ireturn, 1) := by decide +kernel
set_option maxRecDepth 20000 in
theorem ggX9_setMany_X9_size : GoodIn wsX9_setMany wsX9_size := goodIn_r _ [5, 6, 7, 8, 9, 10, 11, 12, 13, 14, 15, 16, 17, 18, 19, 20, 21, 22, 23, 24, 25, 26, 27] (by decide +kernel) (by decide +kernel)
set_option maxRecDepth 20000 in
theorem gX9_setMany_X9_size : GoodIn wsX9_setMany (wsV RX9 43 RX9 yX9_size wsX9_size) := goodIn_app (goodIn_of _ (by decide +kernel)) ggX9_setMany_X9_size
theorem dX9_setMany_0 : decode cX9_setMany 0 = .ok (.iconst 1, 1) := by decide +kernel
theorem dX9_setMany_1 : decode cX9_setMany 1 = .ok (.aload_n 0, 1) := by decide +kernel
theorem dX9_setMany_2 : decode cX9_setMany 2 = .ok (.invokevirtual 43, 3) := by decide +kernel
theorem dX9_setMany_5 : decode cX9_setMany 5 = .ok (.ishl, 1) := by decide +kernel
theorem dX9_setMany_6 : decode cX9_setMany 6 = .ok (.ireturn, 1) := by decide +kernel
set_option maxRecDepth 20000 in
theorem ggX9_made_X9_setMany : GoodIn wsX9_made wsX9_setMany := goodIn_r _ [5, 6, 7, 8, 4, 9, 10, 29, 30, 31, 32, 33, 34, 35, 36, 37, 38, 39, 40, 41, 42, 43, 44, 45, 46, 47, 48, 49] (by decide +kernel) (by decide +kernel)
set_option maxRecDepth 20000 in
theorem gX9_made_X9_setMany : GoodIn wsX9_made (wsV RX9 120 RX9 yX9_setMany wsX9_setMany) := goodIn_app (goodIn_of _ (by decide +kernel)) ggX9_made_X9_setMany
set_option maxRecDepth 20000 in
theorem ggX9_made_X9_in : GoodIn wsX9_made wsX9_in := goodIn_r _ [13] (by decide +kernel) (by decide +kernel)
set_option maxRecDepth 20000 in
theorem gX9_made_X9_in : GoodIn wsX9_made (va_wsS RX9 47 yX9_in wsX9_in) := goodIn_app (goodIn_of _ (by decide +kernel)) ggX9_made_X9_in
set_option maxRecDepth 20000 in
theorem ggX9_made_X9_wider : GoodIn wsX9_made wsX9_wider := goodIn_r _ [17, 6, 7, 8, 4, 9, 10, 18, 19, 20, 21, 22, 23, 24, 25, 26, 27, 28, 29, 30, 31, 32, 33, 34, 35, 36, 37, 38, 39, 40, 41, 42, 43, 44, 45, 46, 47, 48, 49] (by decide +kernel) (by decide +kernel)
set_option maxRecDepth 20000 in
theorem gX9_made_X9_wider : GoodIn wsX9_made (wsV RX9 123 RX9 yX9_wider wsX9_wider) := goodIn_app (goodIn_of _ (by decide +kernel)) ggX9_made_X9_wider
theorem dX9_made_0 : decode cX9_made 0 = .ok (.iload_n 1, 1) := by decide +kernel
theorem dX9_made_1 : decode cX9_made 1 = .ok (.iconst 0, 1) := by decide +kernel
theorem dX9_made_2 : decode cX9_made 2 = .ok (.aload_n 0, 1) := by decide +kernel
theorem dX9_made_3 : decode cX9_made 3 = .ok (.invokevirtual 120, 3) := by decide +kernel
theorem dX9_made_6 : decode cX9_made 6 = .ok (.iconst 1, 1) := by decide +kernel
theorem dX9_made_7 : decode cX9_made 7 = .ok (.isub, 1) := by decide +kernel
theorem dX9_made_8 : decode cX9_made 8 = .ok (.invokestatic 47, 3) := by decide +kernel
theorem dX9_made_11 : decode cX9_made 11 = .ok (.ifCond .ne 6, 3) := by decide +kernel
theorem dX9_made_14 : decode cX9_made 14 = .ok (.bipush (-2), 2) := by decide +kernel
theorem dX9_made_16 : decode cX9_made 16 = .ok (.ireturn, 1) := by decide +kernel
theorem dX9_made_17 : decode cX9_made 17 = .ok (.iload_n 1, 1) := by decide +kernel
theorem dX9_made_18 : decode cX9_made 18 = .ok (.istore_n 2, 1) := by decide +kernel
theorem dX9_made_19 : decode cX9_made 19 = .ok (.aload_n 0, 1) := by decide +kernel
theorem dX9_made_20 : decode cX9_made 20 = .ok (.iload_n 2, 1) := by decide +kernel
theorem dX9_made_21 : decode cX9_made 21 = .ok (.invokevirtual 123, 3) := by decide +kernel
theorem dX9_made_24 : decode cX9_made 24 = .ok (.iload_n 2, 1) := by decide +kernel
theorem dX9_made_25 : decode cX9_made 25 = .ok (.if_icmp .eq 12, 3) := by decide +kernel
theorem dX9_made_28 : decode cX9_made 28 = .ok (.aload_n 0, 1) := by decide +kernel
theorem dX9_made_29 : decode cX9_made 29 = .ok (.iload_n 2, 1) := by decide +kernel
theorem dX9_made_30 : decode cX9_made 30 = .ok (.invokevirtual 123, 3) := by decide +kernel
theorem dX9_made_33 : decode cX9_made 33 = .ok (.istore_n 2, 1) := by decide +kernel
theorem dX9_made_34 : decode cX9_made 34 = .ok (.goto (-15), 3) := by decide +kernel
theorem dX9_made_37 : decode cX9_made 37 = .ok (.iload_n 2, 1) := by decide +kernel
theorem dX9_made_38 : decode cX9_made 38 = .ok (.ireturn, 1) := by decide +kernel
set_option maxRecDepth 20000 in
theorem ggX9_closedOf_X9_setMany : GoodIn wsX9_closedOf wsX9_setMany := goodIn_r _ [5, 6, 7, 8, 4, 9, 10, 26, 27, 28, 29, 30, 31, 32, 33, 34, 35, 36, 37, 38, 39, 40, 41, 42, 43, 44, 45, 46] (by decide +kernel) (by decide +kernel)
set_option maxRecDepth 20000 in
theorem gX9_closedOf_X9_setMany : GoodIn wsX9_closedOf (wsV RX9 120 RX9 yX9_setMany wsX9_setMany) := goodIn_app (goodIn_of _ (by decide +kernel)) ggX9_closedOf_X9_setMany
set_option maxRecDepth 20000 in
theorem ggX9_closedOf_X9_wider : GoodIn wsX9_closedOf wsX9_wider := goodIn_r _ [14, 6, 7, 8, 4, 9, 10, 15, 16, 17, 18, 19, 20, 21, 22, 23, 24, 25, 26, 27, 28, 29, 30, 31, 32, 33, 34, 35, 36, 37, 38, 39, 40, 41, 42, 43, 44, 45, 46] (by decide +kernel) (by decide +kernel)
set_option maxRecDepth 20000 in
theorem gX9_closedOf_X9_wider : GoodIn wsX9_closedOf (wsV RX9 123 RX9 yX9_wider wsX9_wider) := goodIn_app (goodIn_of _ (by decide +kernel)) ggX9_closedOf_X9_wider
theorem dX9_closedOf_0 : decode cX9_closedOf 0 = .ok (.iconst 0, 1) := by decide +kernel
theorem dX9_closedOf_1 : decode cX9_closedOf 1 = .ok (.istore_n 2, 1) := by decide +kernel
theorem dX9_closedOf_2 : decode cX9_closedOf 2 = .ok (.iconst 0, 1) := by decide +kernel
theorem dX9_closedOf_3 : decode cX9_closedOf 3 = .ok (.istore_n 3, 1) := by decide +kernel
theorem dX9_closedOf_4 : decode cX9_closedOf 4 = .ok (.iload_n 3, 1) := by decide +kernel
theorem dX9_closedOf_5 : decode cX9_closedOf 5 = .ok (.aload_n 0, 1) := by decide +kernel
theorem dX9_closedOf_6 : decode cX9_closedOf 6 = .ok (.invokevirtual 120, 3) := by decide +kernel
theorem dX9_closedOf_9 : decode cX9_closedOf 9 = .ok (.if_icmp .ge 28, 3) := by decide +kernel
theorem dX9_closedOf_12 : decode cX9_closedOf 12 = .ok (.aload_n 0, 1) := by decide +kernel
theorem dX9_closedOf_13 : decode cX9_closedOf 13 = .ok (.iload_n 3, 1) := by decide +kernel
theorem dX9_closedOf_14 : decode cX9_closedOf 14 = .ok (.invokevirtual 123, 3) := by decide +kernel
theorem dX9_closedOf_17 : decode cX9_closedOf 17 = .ok (.iload_n 3, 1) := by decide +kernel
theorem dX9_closedOf_18 : decode cX9_closedOf 18 = .ok (.if_icmp .ne 13, 3) := by decide +kernel
theorem dX9_closedOf_21 : decode cX9_closedOf 21 = .ok (.iload_n 2, 1) := by decide +kernel
theorem dX9_closedOf_22 : decode cX9_closedOf 22 = .ok (.iload_n 1, 1) := by decide +kernel
theorem dX9_closedOf_23 : decode cX9_closedOf 23 = .ok (.if_icmp .ne 5, 3) := by decide +kernel
theorem dX9_closedOf_26 : decode cX9_closedOf 26 = .ok (.iload_n 3, 1) := by decide +kernel
theorem dX9_closedOf_27 : decode cX9_closedOf 27 = .ok (.ireturn, 1) := by decide +kernel
theorem dX9_closedOf_28 : decode cX9_closedOf 28 = .ok (.iinc 2 1, 3) := by decide +kernel
theorem dX9_closedOf_31 : decode cX9_closedOf 31 = .ok (.iinc 3 1, 3) := by decide +kernel
theorem dX9_closedOf_34 : decode cX9_closedOf 34 = .ok (.goto (-30), 3) := by decide +kernel
theorem dX9_closedOf_37 : decode cX9_closedOf 37 = .ok (.iload_n 1, 1) := by decide +kernel
theorem dX9_closedOf_38 : decode cX9_closedOf 38 = .ok (.ifCond .ge 7, 3) := by decide +kernel
theorem dX9_closedOf_41 : decode cX9_closedOf 41 = .ok (.iload_n 2, 1) := by decide +kernel
theorem dX9_closedOf_42 : decode cX9_closedOf 42 = .ok (.goto 5, 3) := by decide +kernel
theorem dX9_closedOf_45 : decode cX9_closedOf 45 = .ok (.bipush (-9), 2) := by decide +kernel
theorem dX9_closedOf_47 : decode cX9_closedOf 47 = .ok (.ireturn, 1) := by decide +kernel
set_option maxRecDepth 20000 in
theorem ggX9_closed_X9_closedOf : GoodIn wsX9_closed wsX9_closedOf := goodIn_r _ [5, 6, 7, 8, 4, 9, 10, 11, 12, 13, 14, 15, 16, 17, 18, 19, 20, 21, 22, 23, 24, 25, 26, 27, 28, 29, 30, 31, 32, 33, 34, 35, 36, 37, 38, 39, 40, 41, 42, 43, 44, 45, 46, 47, 48, 49, 50] (by decide +kernel) (by decide +kernel)
set_option maxRecDepth 20000 in
theorem gX9_closed_X9_closedOf : GoodIn wsX9_closed (wsV RX9 126 RX9 yX9_closedOf wsX9_closedOf) := goodIn_app (goodIn_of _ (by decide +kernel)) ggX9_closed_X9_closedOf
theorem dX9_closed_0 : decode cX9_closed 0 = .ok (.iload_n 1, 1) := by decide +kernel
theorem dX9_closed_1 : decode cX9_closed 1 = .ok (.ifCond .ge 8, 3) := by decide +kernel
theorem dX9_closed_4 : decode cX9_closed 4 = .ok (.bipush (-2), 2) := by decide +kernel
theorem dX9_closed_6 : decode cX9_closed 6 = .ok (.goto 8, 3) := by decide +kernel
theorem dX9_closed_9 : decode cX9_closed 9 = .ok (.aload_n 0, 1) := by decide +kernel
theorem dX9_closed_10 : decode cX9_closed 10 = .ok (.iload_n 1, 1) := by decide +kernel
theorem dX9_closed_11 : decode cX9_closed 11 = .ok (.invokevirtual 126, 3) := by decide +kernel
theorem dX9_closed_14 : decode cX9_closed 14 = .ok (.ireturn, 1) := by decide +kernel
set_option maxRecDepth 20000 in
theorem ggX9_isSo_X9_ff : GoodIn wsX9_isSo wsX9_ff := goodIn_r _ [5, 6, 11, 12, 13, 14, 15, 16, 17, 18, 19, 20, 21, 22, 23, 24, 25, 26, 27, 28, 29, 30, 31] (by decide +kernel) (by decide +kernel)
set_option maxRecDepth 20000 in
theorem gX9_isSo_X9_ff : GoodIn wsX9_isSo (wsV RX9 106 RX9 yX9_ff wsX9_ff) := goodIn_app (goodIn_of _ (by decide +kernel)) ggX9_isSo_X9_ff
set_option maxRecDepth 20000 in
theorem ggX9_isSo_X9_gg : GoodIn wsX9_isSo wsX9_gg := goodIn_r _ [10, 6, 11, 12, 13, 14, 15, 16, 17, 18, 19, 20, 21, 22, 23, 24, 25, 26, 27, 28, 29, 30, 31] (by decide +kernel) (by decide +kernel)
set_option maxRecDepth 20000 in
theorem gX9_isSo_X9_gg : GoodIn wsX9_isSo (wsV RX9 110 RX9 yX9_gg wsX9_gg) := goodIn_app (goodIn_of _ (by decide +kernel)) ggX9_isSo_X9_gg
theorem dX9_isSo_0 : decode cX9_isSo 0 = .ok (.iload_n 1, 1) := by decide +kernel
theorem dX9_isSo_1 : decode cX9_isSo 1 = .ok (.tableswitch 187 0 5 #[39, 55, 76, 109, 128, 161], 39) := by decide +kernel
theorem dX9_isSo_40 : decode cX9_isSo 40 = .ok (.aload_n 0, 1) := by decide +kernel
theorem dX9_isSo_41 : decode cX9_isSo 41 = .ok (.iload_n 2, 1) := by decide +kernel
theorem dX9_isSo_42 : decode cX9_isSo 42 = .ok (.iload_n 2, 1) := by decide +kernel
theorem dX9_isSo_43 : decode cX9_isSo 43 = .ok (.invokevirtual 106, 3) := by decide +kernel
theorem dX9_isSo_46 : decode cX9_isSo 46 = .ok (.iload_n 2, 1) := by decide +kernel
theorem dX9_isSo_47 : decode cX9_isSo 47 = .ok (.if_icmp .ne 7, 3) := by decide +kernel
theorem dX9_isSo_50 : decode cX9_isSo 50 = .ok (.iconst 1, 1) := by decide +kernel
theorem dX9_isSo_51 : decode cX9_isSo 51 = .ok (.goto 4, 3) := by decide +kernel
theorem dX9_isSo_54 : decode cX9_isSo 54 = .ok (.iconst 0, 1) := by decide +kernel
theorem dX9_isSo_55 : decode cX9_isSo 55 = .ok (.ireturn, 1) := by decide +kernel
theorem dX9_isSo_56 : decode cX9_isSo 56 = .ok (.aload_n 0, 1) := by decide +kernel
theorem dX9_isSo_57 : decode cX9_isSo 57 = .ok (.iload_n 2, 1) := by decide +kernel
theorem dX9_isSo_58 : decode cX9_isSo 58 = .ok (.iload_n 3, 1) := by decide +kernel
theorem dX9_isSo_59 : decode cX9_isSo 59 = .ok (.invokevirtual 106, 3) := by decide +kernel
theorem dX9_isSo_62 : decode cX9_isSo 62 = .ok (.aload_n 0, 1) := by decide +kernel
theorem dX9_isSo_63 : decode cX9_isSo 63 = .ok (.iload_n 3, 1) := by decide +kernel
theorem dX9_isSo_64 : decode cX9_isSo 64 = .ok (.iload_n 2, 1) := by decide +kernel
theorem dX9_isSo_65 : decode cX9_isSo 65 = .ok (.invokevirtual 106, 3) := by decide +kernel
theorem dX9_isSo_68 : decode cX9_isSo 68 = .ok (.if_icmp .ne 7, 3) := by decide +kernel
theorem dX9_isSo_71 : decode cX9_isSo 71 = .ok (.iconst 1, 1) := by decide +kernel
theorem dX9_isSo_72 : decode cX9_isSo 72 = .ok (.goto 4, 3) := by decide +kernel
theorem dX9_isSo_75 : decode cX9_isSo 75 = .ok (.iconst 0, 1) := by decide +kernel
theorem dX9_isSo_76 : decode cX9_isSo 76 = .ok (.ireturn, 1) := by decide +kernel
theorem dX9_isSo_77 : decode cX9_isSo 77 = .ok (.aload_n 0, 1) := by decide +kernel
theorem dX9_isSo_78 : decode cX9_isSo 78 = .ok (.aload_n 0, 1) := by decide +kernel
theorem dX9_isSo_79 : decode cX9_isSo 79 = .ok (.iload_n 2, 1) := by decide +kernel
theorem dX9_isSo_80 : decode cX9_isSo 80 = .ok (.iload_n 3, 1) := by decide +kernel
theorem dX9_isSo_81 : decode cX9_isSo 81 = .ok (.invokevirtual 106, 3) := by decide +kernel
theorem dX9_isSo_84 : decode cX9_isSo 84 = .ok (.iload 4, 2) := by decide +kernel
theorem dX9_isSo_86 : decode cX9_isSo 86 = .ok (.invokevirtual 106, 3) := by decide +kernel
theorem dX9_isSo_89 : decode cX9_isSo 89 = .ok (.aload_n 0, 1) := by decide +kernel
theorem dX9_isSo_90 : decode cX9_isSo 90 = .ok (.iload_n 2, 1) := by decide +kernel
theorem dX9_isSo_91 : decode cX9_isSo 91 = .ok (.aload_n 0, 1) := by decide +kernel
theorem dX9_isSo_92 : decode cX9_isSo 92 = .ok (.iload_n 3, 1) := by decide +kernel
theorem dX9_isSo_93 : decode cX9_isSo 93 = .ok (.iload 4, 2) := by decide +kernel
theorem dX9_isSo_95 : decode cX9_isSo 95 = .ok (.invokevirtual 106, 3) := by decide +kernel
theorem dX9_isSo_98 : decode cX9_isSo 98 = .ok (.invokevirtual 106, 3) := by decide +kernel
theorem dX9_isSo_101 : decode cX9_isSo 101 = .ok (.if_icmp .ne 7, 3) := by decide +kernel
theorem dX9_isSo_104 : decode cX9_isSo 104 = .ok (.iconst 1, 1) := by decide +kernel
theorem dX9_isSo_105 : decode cX9_isSo 105 = .ok (.goto 4, 3) := by decide +kernel
theorem dX9_isSo_108 : decode cX9_isSo 108 = .ok (.iconst 0, 1) := by decide +kernel
theorem dX9_isSo_109 : decode cX9_isSo 109 = .ok (.ireturn, 1) := by decide +kernel
theorem dX9_isSo_110 : decode cX9_isSo 110 = .ok (.aload_n 0, 1) := by decide +kernel
theorem dX9_isSo_111 : decode cX9_isSo 111 = .ok (.aload_n 0, 1) := by decide +kernel
theorem dX9_isSo_112 : decode cX9_isSo 112 = .ok (.iload_n 2, 1) := by decide +kernel
theorem dX9_isSo_113 : decode cX9_isSo 113 = .ok (.invokevirtual 110, 3) := by decide +kernel
theorem dX9_isSo_116 : decode cX9_isSo 116 = .ok (.invokevirtual 110, 3) := by decide +kernel
theorem dX9_isSo_119 : decode cX9_isSo 119 = .ok (.iload_n 2, 1) := by decide +kernel
theorem dX9_isSo_120 : decode cX9_isSo 120 = .ok (.if_icmp .ne 7, 3) := by decide +kernel
theorem dX9_isSo_123 : decode cX9_isSo 123 = .ok (.iconst 1, 1) := by decide +kernel
theorem dX9_isSo_124 : decode cX9_isSo 124 = .ok (.goto 4, 3) := by decide +kernel
theorem dX9_isSo_127 : decode cX9_isSo 127 = .ok (.iconst 0, 1) := by decide +kernel
theorem dX9_isSo_128 : decode cX9_isSo 128 = .ok (.ireturn, 1) := by decide +kernel
theorem dX9_isSo_129 : decode cX9_isSo 129 = .ok (.aload_n 0, 1) := by decide +kernel
theorem dX9_isSo_130 : decode cX9_isSo 130 = .ok (.aload_n 0, 1) := by decide +kernel
theorem dX9_isSo_131 : decode cX9_isSo 131 = .ok (.iload_n 2, 1) := by decide +kernel
theorem dX9_isSo_132 : decode cX9_isSo 132 = .ok (.iload_n 3, 1) := by decide +kernel
theorem dX9_isSo_133 : decode cX9_isSo 133 = .ok (.invokevirtual 106, 3) := by decide +kernel
theorem dX9_isSo_136 : decode cX9_isSo 136 = .ok (.invokevirtual 110, 3) := by decide +kernel
theorem dX9_isSo_139 : decode cX9_isSo 139 = .ok (.aload_n 0, 1) := by decide +kernel
theorem dX9_isSo_140 : decode cX9_isSo 140 = .ok (.aload_n 0, 1) := by decide +kernel
theorem dX9_isSo_141 : decode cX9_isSo 141 = .ok (.iload_n 3, 1) := by decide +kernel
theorem dX9_isSo_142 : decode cX9_isSo 142 = .ok (.invokevirtual 110, 3) := by decide +kernel
theorem dX9_isSo_145 : decode cX9_isSo 145 = .ok (.aload_n 0, 1) := by decide +kernel
theorem dX9_isSo_146 : decode cX9_isSo 146 = .ok (.iload_n 2, 1) := by decide +kernel
theorem dX9_isSo_147 : decode cX9_isSo 147 = .ok (.invokevirtual 110, 3) := by decide +kernel
theorem dX9_isSo_150 : decode cX9_isSo 150 = .ok (.invokevirtual 106, 3) := by decide +kernel
theorem dX9_isSo_153 : decode cX9_isSo 153 = .ok (.if_icmp .ne 7, 3) := by decide +kernel
theorem dX9_isSo_156 : decode cX9_isSo 156 = .ok (.iconst 1, 1) := by decide +kernel
theorem dX9_isSo_157 : decode cX9_isSo 157 = .ok (.goto 4, 3) := by decide +kernel
theorem dX9_isSo_160 : decode cX9_isSo 160 = .ok (.iconst 0, 1) := by decide +kernel
theorem dX9_isSo_161 : decode cX9_isSo 161 = .ok (.ireturn, 1) := by decide +kernel
theorem dX9_isSo_162 : decode cX9_isSo 162 = .ok (.aload_n 0, 1) := by decide +kernel
theorem dX9_isSo_163 : decode cX9_isSo 163 = .ok (.iload_n 2, 1) := by decide +kernel
theorem dX9_isSo_164 : decode cX9_isSo 164 = .ok (.aload_n 0, 1) := by decide +kernel
theorem dX9_isSo_165 : decode cX9_isSo 165 = .ok (.iload_n 2, 1) := by decide +kernel
theorem dX9_isSo_166 : decode cX9_isSo 166 = .ok (.iload_n 3, 1) := by decide +kernel
theorem dX9_isSo_167 : decode cX9_isSo 167 = .ok (.invokevirtual 106, 3) := by decide +kernel
theorem dX9_isSo_170 : decode cX9_isSo 170 = .ok (.invokevirtual 106, 3) := by decide +kernel
theorem dX9_isSo_173 : decode cX9_isSo 173 = .ok (.aload_n 0, 1) := by decide +kernel
theorem dX9_isSo_174 : decode cX9_isSo 174 = .ok (.iload_n 2, 1) := by decide +kernel
theorem dX9_isSo_175 : decode cX9_isSo 175 = .ok (.iload_n 3, 1) := by decide +kernel
theorem dX9_isSo_176 : decode cX9_isSo 176 = .ok (.invokevirtual 106, 3) := by decide +kernel
theorem dX9_isSo_179 : decode cX9_isSo 179 = .ok (.if_icmp .ne 7, 3) := by decide +kernel
theorem dX9_isSo_182 : decode cX9_isSo 182 = .ok (.iconst 1, 1) := by decide +kernel
theorem dX9_isSo_183 : decode cX9_isSo 183 = .ok (.goto 4, 3) := by decide +kernel
theorem dX9_isSo_186 : decode cX9_isSo 186 = .ok (.iconst 0, 1) := by decide +kernel
theorem dX9_isSo_187 : decode cX9_isSo 187 = .ok (.ireturn, 1) := by decide +kernel
theorem dX9_isSo_188 : decode cX9_isSo 188 = .ok (.aload_n 0, 1) := by decide +kernel
theorem dX9_isSo_189 : decode cX9_isSo 189 = .ok (.iload_n 2, 1) := by decide +kernel
theorem dX9_isSo_190 : decode cX9_isSo 190 = .ok (.aload_n 0, 1) := by decide +kernel
theorem dX9_isSo_191 : decode cX9_isSo 191 = .ok (.iload_n 2, 1) := by decide +kernel
theorem dX9_isSo_192 : decode cX9_isSo 192 = .ok (.invokevirtual 110, 3) := by decide +kernel
theorem dX9_isSo_195 : decode cX9_isSo 195 = .ok (.invokevirtual 106, 3) := by decide +kernel
theorem dX9_isSo_198 : decode cX9_isSo 198 = .ok (.aload_n 0, 1) := by decide +kernel
theorem dX9_isSo_199 : decode cX9_isSo 199 = .ok (.iload_n 3, 1) := by decide +kernel
theorem dX9_isSo_200 : decode cX9_isSo 200 = .ok (.aload_n 0, 1) := by decide +kernel
theorem dX9_isSo_201 : decode cX9_isSo 201 = .ok (.iload_n 3, 1) := by decide +kernel
theorem dX9_isSo_202 : decode cX9_isSo 202 = .ok (.invokevirtual 110, 3) := by decide +kernel
theorem dX9_isSo_205 : decode cX9_isSo 205 = .ok (.invokevirtual 106, 3) := by decide +kernel
theorem dX9_isSo_208 : decode cX9_isSo 208 = .ok (.if_icmp .ne 7, 3) := by decide +kernel
theorem dX9_isSo_211 : decode cX9_isSo 211 = .ok (.iconst 1, 1) := by decide +kernel
theorem dX9_isSo_212 : decode cX9_isSo 212 = .ok (.goto 4, 3) := by decide +kernel
theorem dX9_isSo_215 : decode cX9_isSo 215 = .ok (.iconst 0, 1) := by decide +kernel
theorem dX9_isSo_216 : decode cX9_isSo 216 = .ok (.ireturn, 1) := by decide +kernel
theorem dX9_named_0 : decode cX9_named 0 = .ok (.iload_n 0, 1) := by decide +kernel
theorem dX9_named_1 : decode cX9_named 1 = .ok (.ifCond .eq 8, 3) := by decide +kernel
theorem dX9_named_4 : decode cX9_named 4 = .ok (.iload_n 0, 1) := by decide +kernel
theorem dX9_named_5 : decode cX9_named 5 = .ok (.iconst 3, 1) := by decide +kernel
theorem dX9_named_6 : decode cX9_named 6 = .ok (.if_icmp .ne 7, 3) := by decide +kernel
theorem dX9_named_9 : decode cX9_named 9 = .ok (.iconst 1, 1) := by decide +kernel
theorem dX9_named_10 : decode cX9_named 10 = .ok (.goto 13, 3) := by decide +kernel
theorem dX9_named_13 : decode cX9_named 13 = .ok (.iload_n 0, 1) := by decide +kernel
theorem dX9_named_14 : decode cX9_named 14 = .ok (.iconst 2, 1) := by decide +kernel
theorem dX9_named_15 : decode cX9_named 15 = .ok (.if_icmp .ne 7, 3) := by decide +kernel
theorem dX9_named_18 : decode cX9_named 18 = .ok (.iconst 3, 1) := by decide +kernel
theorem dX9_named_19 : decode cX9_named 19 = .ok (.goto 4, 3) := by decide +kernel
theorem dX9_named_22 : decode cX9_named 22 = .ok (.iconst 2, 1) := by decide +kernel
theorem dX9_named_23 : decode cX9_named 23 = .ok (.ireturn, 1) := by decide +kernel
set_option maxRecDepth 20000 in
theorem ggX9_firstOf_X9_named : GoodIn wsX9_firstOf wsX9_named := goodIn_r _ [4] (by decide +kernel) (by decide +kernel)
set_option maxRecDepth 20000 in
theorem gX9_firstOf_X9_named : GoodIn wsX9_firstOf (va_wsS RX9 129 yX9_named wsX9_named) := goodIn_app (goodIn_of _ (by decide +kernel)) ggX9_firstOf_X9_named
set_option maxRecDepth 20000 in
theorem ggX9_firstOf_X9_size : GoodIn wsX9_firstOf wsX9_size := goodIn_r _ [8, 9, 22, 23, 24, 25, 26, 27, 28, 29, 30, 31, 32, 33, 34, 35, 36, 37, 38, 39, 40, 41, 42] (by decide +kernel) (by decide +kernel)
set_option maxRecDepth 20000 in
theorem gX9_firstOf_X9_size : GoodIn wsX9_firstOf (wsV RX9 43 RX9 yX9_size wsX9_size) := goodIn_app (goodIn_of _ (by decide +kernel)) ggX9_firstOf_X9_size
set_option maxRecDepth 20000 in
theorem ggX9_firstOf_X9_isSo : GoodIn wsX9_firstOf wsX9_isSo := goodIn_r _ [13, 14, 15, 16, 3, 17, 9, 18, 19, 20, 21, 22, 23, 24, 25, 26, 27, 28, 29, 30, 31, 32, 33, 34, 35, 36, 37, 38, 39, 40, 41, 42] (by decide +kernel) (by decide +kernel)
set_option maxRecDepth 20000 in
theorem gX9_firstOf_X9_isSo : GoodIn wsX9_firstOf (wsV RX9 132 RX9 yX9_isSo wsX9_isSo) := goodIn_app (goodIn_of _ (by decide +kernel)) ggX9_firstOf_X9_isSo
theorem dX9_firstOf_0 : decode cX9_firstOf 0 = .ok (.iload_n 1, 1) := by decide +kernel
theorem dX9_firstOf_1 : decode cX9_firstOf 1 = .ok (.invokestatic 129, 3) := by decide +kernel
theorem dX9_firstOf_4 : decode cX9_firstOf 4 = .ok (.istore_n 2, 1) := by decide +kernel
theorem dX9_firstOf_5 : decode cX9_firstOf 5 = .ok (.iconst 0, 1) := by decide +kernel
theorem dX9_firstOf_6 : decode cX9_firstOf 6 = .ok (.istore_n 3, 1) := by decide +kernel
theorem dX9_firstOf_7 : decode cX9_firstOf 7 = .ok (.iload_n 3, 1) := by decide +kernel
theorem dX9_firstOf_8 : decode cX9_firstOf 8 = .ok (.aload_n 0, 1) := by decide +kernel
theorem dX9_firstOf_9 : decode cX9_firstOf 9 = .ok (.invokevirtual 43, 3) := by decide +kernel
theorem dX9_firstOf_12 : decode cX9_firstOf 12 = .ok (.if_icmp .ge 90, 3) := by decide +kernel
theorem dX9_firstOf_15 : decode cX9_firstOf 15 = .ok (.iconst 0, 1) := by decide +kernel
theorem dX9_firstOf_16 : decode cX9_firstOf 16 = .ok (.istore 4, 2) := by decide +kernel
theorem dX9_firstOf_18 : decode cX9_firstOf 18 = .ok (.iload 4, 2) := by decide +kernel
theorem dX9_firstOf_20 : decode cX9_firstOf 20 = .ok (.iload_n 2, 1) := by decide +kernel
theorem dX9_firstOf_21 : decode cX9_firstOf 21 = .ok (.iconst 1, 1) := by decide +kernel
theorem dX9_firstOf_22 : decode cX9_firstOf 22 = .ok (.if_icmp .le 10, 3) := by decide +kernel
theorem dX9_firstOf_25 : decode cX9_firstOf 25 = .ok (.aload_n 0, 1) := by decide +kernel
theorem dX9_firstOf_26 : decode cX9_firstOf 26 = .ok (.invokevirtual 43, 3) := by decide +kernel
theorem dX9_firstOf_29 : decode cX9_firstOf 29 = .ok (.goto 4, 3) := by decide +kernel
theorem dX9_firstOf_32 : decode cX9_firstOf 32 = .ok (.iconst 1, 1) := by decide +kernel
theorem dX9_firstOf_33 : decode cX9_firstOf 33 = .ok (.if_icmp .ge 63, 3) := by decide +kernel
theorem dX9_firstOf_36 : decode cX9_firstOf 36 = .ok (.iconst 0, 1) := by decide +kernel
theorem dX9_firstOf_37 : decode cX9_firstOf 37 = .ok (.istore 5, 2) := by decide +kernel
theorem dX9_firstOf_39 : decode cX9_firstOf 39 = .ok (.iload 5, 2) := by decide +kernel
theorem dX9_firstOf_41 : decode cX9_firstOf 41 = .ok (.iload_n 2, 1) := by decide +kernel
theorem dX9_firstOf_42 : decode cX9_firstOf 42 = .ok (.iconst 2, 1) := by decide +kernel
theorem dX9_firstOf_43 : decode cX9_firstOf 43 = .ok (.if_icmp .le 10, 3) := by decide +kernel
theorem dX9_firstOf_46 : decode cX9_firstOf 46 = .ok (.aload_n 0, 1) := by decide +kernel
theorem dX9_firstOf_47 : decode cX9_firstOf 47 = .ok (.invokevirtual 43, 3) := by decide +kernel
theorem dX9_firstOf_50 : decode cX9_firstOf 50 = .ok (.goto 4, 3) := by decide +kernel
theorem dX9_firstOf_53 : decode cX9_firstOf 53 = .ok (.iconst 1, 1) := by decide +kernel
theorem dX9_firstOf_54 : decode cX9_firstOf 54 = .ok (.if_icmp .ge 36, 3) := by decide +kernel
theorem dX9_firstOf_57 : decode cX9_firstOf 57 = .ok (.aload_n 0, 1) := by decide +kernel
theorem dX9_firstOf_58 : decode cX9_firstOf 58 = .ok (.iload_n 1, 1) := by decide +kernel
theorem dX9_firstOf_59 : decode cX9_firstOf 59 = .ok (.iload_n 3, 1) := by decide +kernel
theorem dX9_firstOf_60 : decode cX9_firstOf 60 = .ok (.iload 4, 2) := by decide +kernel
theorem dX9_firstOf_62 : decode cX9_firstOf 62 = .ok (.iload 5, 2) := by decide +kernel
theorem dX9_firstOf_64 : decode cX9_firstOf 64 = .ok (.invokevirtual 132, 3) := by decide +kernel
theorem dX9_firstOf_67 : decode cX9_firstOf 67 = .ok (.ifCond .ne 17, 3) := by decide +kernel
theorem dX9_firstOf_70 : decode cX9_firstOf 70 = .ok (.bipush 100, 2) := by decide +kernel
theorem dX9_firstOf_72 : decode cX9_firstOf 72 = .ok (.iload_n 3, 1) := by decide +kernel
theorem dX9_firstOf_73 : decode cX9_firstOf 73 = .ok (.imul, 1) := by decide +kernel
theorem dX9_firstOf_74 : decode cX9_firstOf 74 = .ok (.bipush 10, 2) := by decide +kernel
theorem dX9_firstOf_76 : decode cX9_firstOf 76 = .ok (.iload 4, 2) := by decide +kernel
theorem dX9_firstOf_78 : decode cX9_firstOf 78 = .ok (.imul, 1) := by decide +kernel
theorem dX9_firstOf_79 : decode cX9_firstOf 79 = .ok (.iadd, 1) := by decide +kernel
theorem dX9_firstOf_80 : decode cX9_firstOf 80 = .ok (.iload 5, 2) := by decide +kernel
theorem dX9_firstOf_82 : decode cX9_firstOf 82 = .ok (.iadd, 1) := by decide +kernel
theorem dX9_firstOf_83 : decode cX9_firstOf 83 = .ok (.ireturn, 1) := by decide +kernel
theorem dX9_firstOf_84 : decode cX9_firstOf 84 = .ok (.iinc 5 1, 3) := by decide +kernel
theorem dX9_firstOf_87 : decode cX9_firstOf 87 = .ok (.goto (-48), 3) := by decide +kernel
theorem dX9_firstOf_90 : decode cX9_firstOf 90 = .ok (.iinc 4 1, 3) := by decide +kernel
theorem dX9_firstOf_93 : decode cX9_firstOf 93 = .ok (.goto (-75), 3) := by decide +kernel
theorem dX9_firstOf_96 : decode cX9_firstOf 96 = .ok (.iinc 3 1, 3) := by decide +kernel
theorem dX9_firstOf_99 : decode cX9_firstOf 99 = .ok (.goto (-92), 3) := by decide +kernel
theorem dX9_firstOf_102 : decode cX9_firstOf 102 = .ok (.bipush (-9), 2) := by decide +kernel
theorem dX9_firstOf_104 : decode cX9_firstOf 104 = .ok (.ireturn, 1) := by decide +kernel
set_option maxRecDepth 20000 in
theorem ggX9_law_X9_in : GoodIn wsX9_law wsX9_in := goodIn_r _ [4] (by decide +kernel) (by decide +kernel)
set_option maxRecDepth 20000 in
theorem gX9_law_X9_in : GoodIn wsX9_law (va_wsS RX9 47 yX9_in wsX9_in) := goodIn_app (goodIn_of _ (by decide +kernel)) ggX9_law_X9_in
set_option maxRecDepth 20000 in
theorem ggX9_law_X9_firstOf : GoodIn wsX9_law wsX9_firstOf := goodIn_r _ [8, 9, 10, 3, 11, 12, 13, 14, 15, 16, 17, 18, 19, 20, 21, 22, 23, 24, 25, 26, 27, 28, 29, 30, 31, 32, 33, 34, 35, 36, 37, 38, 39, 40, 41, 42, 43, 44, 45, 46, 47, 48, 49] (by decide +kernel) (by decide +kernel)
set_option maxRecDepth 20000 in
theorem gX9_law_X9_firstOf : GoodIn wsX9_law (wsV RX9 136 RX9 yX9_firstOf wsX9_firstOf) := goodIn_app (goodIn_of _ (by decide +kernel)) ggX9_law_X9_firstOf
theorem dX9_law_0 : decode cX9_law 0 = .ok (.iload_n 1, 1) := by decide +kernel
theorem dX9_law_1 : decode cX9_law 1 = .ok (.iconst 0, 1) := by decide +kernel
theorem dX9_law_2 : decode cX9_law 2 = .ok (.bipush 6, 2) := by decide +kernel
theorem dX9_law_4 : decode cX9_law 4 = .ok (.invokestatic 47, 3) := by decide +kernel
theorem dX9_law_7 : decode cX9_law 7 = .ok (.ifCond .eq 11, 3) := by decide +kernel
theorem dX9_law_10 : decode cX9_law 10 = .ok (.aload_n 0, 1) := by decide +kernel
theorem dX9_law_11 : decode cX9_law 11 = .ok (.iload_n 1, 1) := by decide +kernel
theorem dX9_law_12 : decode cX9_law 12 = .ok (.invokevirtual 136, 3) := by decide +kernel
theorem dX9_law_15 : decode cX9_law 15 = .ok (.goto 5, 3) := by decide +kernel
theorem dX9_law_18 : decode cX9_law 18 = .ok (.bipush (-2), 2) := by decide +kernel
theorem dX9_law_20 : decode cX9_law 20 = .ok (.ireturn, 1) := by decide +kernel
set_option maxRecDepth 20000 in
theorem ggX9_change_X9_in : GoodIn wsX9_change wsX9_in := goodIn_r _ [5] (by decide +kernel) (by decide +kernel)
set_option maxRecDepth 20000 in
theorem gX9_change_X9_in : GoodIn wsX9_change (va_wsS RX9 47 yX9_in wsX9_in) := goodIn_app (goodIn_of _ (by decide +kernel)) ggX9_change_X9_in
set_option maxRecDepth 20000 in
theorem ggX9_change_X9_firstOf : GoodIn wsX9_change wsX9_firstOf := goodIn_r _ [9, 10, 11, 4, 12, 13, 14, 15, 16, 1, 17, 18, 19, 20, 21, 22, 23, 24, 25, 26, 27, 28, 29, 30, 31, 32, 33, 34, 35, 36, 37, 38, 39, 40, 41, 42, 43, 44, 45, 46, 47, 48, 49] (by decide +kernel) (by decide +kernel)
set_option maxRecDepth 20000 in
theorem gX9_change_X9_firstOf : GoodIn wsX9_change (wsV RX9 136 RX9 yX9_firstOf wsX9_firstOf) := goodIn_app (goodIn_of _ (by decide +kernel)) ggX9_change_X9_firstOf
set_option maxRecDepth 20000 in
theorem ggX9_change_X9_size : GoodIn wsX9_change wsX9_size := goodIn_r _ [16, 1, 29, 30, 31, 32, 33, 34, 35, 36, 37, 38, 39, 40, 41, 42, 43, 44, 45, 46, 47, 48, 49] (by decide +kernel) (by decide +kernel)
set_option maxRecDepth 20000 in
theorem gX9_change_X9_size : GoodIn wsX9_change (wsV RX9 43 RX9 yX9_size wsX9_size) := goodIn_app (goodIn_of _ (by decide +kernel)) ggX9_change_X9_size
set_option maxRecDepth 20000 in
theorem ggX9_change_X9_ff : GoodIn wsX9_change wsX9_ff := goodIn_r _ [24, 1, 29, 30, 31, 32, 33, 34, 35, 36, 37, 38, 39, 40, 41, 42, 43, 44, 45, 46, 47, 48, 49] (by decide +kernel) (by decide +kernel)
set_option maxRecDepth 20000 in
theorem gX9_change_X9_ff : GoodIn wsX9_change (wsV RX9 106 RX9 yX9_ff wsX9_ff) := goodIn_app (goodIn_of _ (by decide +kernel)) ggX9_change_X9_ff
theorem dX9_change_0 : decode cX9_change 0 = .ok (.iload_n 1, 1) := by decide +kernel
theorem dX9_change_1 : decode cX9_change 1 = .ok (.iconst 0, 1) := by decide +kernel
theorem dX9_change_2 : decode cX9_change 2 = .ok (.bipush 6, 2) := by decide +kernel
theorem dX9_change_4 : decode cX9_change 4 = .ok (.invokestatic 47, 3) := by decide +kernel
theorem dX9_change_7 : decode cX9_change 7 = .ok (.ifCond .ne 6, 3) := by decide +kernel
theorem dX9_change_10 : decode cX9_change 10 = .ok (.bipush (-2), 2) := by decide +kernel
theorem dX9_change_12 : decode cX9_change 12 = .ok (.ireturn, 1) := by decide +kernel
theorem dX9_change_13 : decode cX9_change 13 = .ok (.aload_n 0, 1) := by decide +kernel
theorem dX9_change_14 : decode cX9_change 14 = .ok (.iload_n 1, 1) := by decide +kernel
theorem dX9_change_15 : decode cX9_change 15 = .ok (.invokevirtual 136, 3) := by decide +kernel
theorem dX9_change_18 : decode cX9_change 18 = .ok (.bipush (-9), 2) := by decide +kernel
theorem dX9_change_20 : decode cX9_change 20 = .ok (.if_icmp .ne 5, 3) := by decide +kernel
theorem dX9_change_23 : decode cX9_change 23 = .ok (.iconst (-1), 1) := by decide +kernel
theorem dX9_change_24 : decode cX9_change 24 = .ok (.ireturn, 1) := by decide +kernel
theorem dX9_change_25 : decode cX9_change 25 = .ok (.bipush (-9), 2) := by decide +kernel
theorem dX9_change_27 : decode cX9_change 27 = .ok (.istore_n 2, 1) := by decide +kernel
theorem dX9_change_28 : decode cX9_change 28 = .ok (.iconst 0, 1) := by decide +kernel
theorem dX9_change_29 : decode cX9_change 29 = .ok (.istore_n 3, 1) := by decide +kernel
theorem dX9_change_30 : decode cX9_change 30 = .ok (.iload_n 3, 1) := by decide +kernel
theorem dX9_change_31 : decode cX9_change 31 = .ok (.aload_n 0, 1) := by decide +kernel
theorem dX9_change_32 : decode cX9_change 32 = .ok (.invokevirtual 43, 3) := by decide +kernel
theorem dX9_change_35 : decode cX9_change 35 = .ok (.if_icmp .ge 114, 3) := by decide +kernel
theorem dX9_change_38 : decode cX9_change 38 = .ok (.iconst 0, 1) := by decide +kernel
theorem dX9_change_39 : decode cX9_change 39 = .ok (.istore 4, 2) := by decide +kernel
theorem dX9_change_41 : decode cX9_change 41 = .ok (.iload 4, 2) := by decide +kernel
theorem dX9_change_43 : decode cX9_change 43 = .ok (.aload_n 0, 1) := by decide +kernel
theorem dX9_change_44 : decode cX9_change 44 = .ok (.invokevirtual 43, 3) := by decide +kernel
theorem dX9_change_47 : decode cX9_change 47 = .ok (.if_icmp .ge 96, 3) := by decide +kernel
theorem dX9_change_50 : decode cX9_change 50 = .ok (.aload_n 0, 1) := by decide +kernel
theorem dX9_change_51 : decode cX9_change 51 = .ok (.iload_n 3, 1) := by decide +kernel
theorem dX9_change_52 : decode cX9_change 52 = .ok (.iload 4, 2) := by decide +kernel
theorem dX9_change_54 : decode cX9_change 54 = .ok (.invokevirtual 106, 3) := by decide +kernel
theorem dX9_change_57 : decode cX9_change 57 = .ok (.istore 5, 2) := by decide +kernel
theorem dX9_change_59 : decode cX9_change 59 = .ok (.iconst 0, 1) := by decide +kernel
theorem dX9_change_60 : decode cX9_change 60 = .ok (.istore 6, 2) := by decide +kernel
theorem dX9_change_62 : decode cX9_change 62 = .ok (.iload 6, 2) := by decide +kernel
theorem dX9_change_64 : decode cX9_change 64 = .ok (.aload_n 0, 1) := by decide +kernel
theorem dX9_change_65 : decode cX9_change 65 = .ok (.invokevirtual 43, 3) := by decide +kernel
theorem dX9_change_68 : decode cX9_change 68 = .ok (.if_icmp .ge 56, 3) := by decide +kernel
theorem dX9_change_71 : decode cX9_change 71 = .ok (.aload_n 0, 1) := by decide +kernel
theorem dX9_change_72 : decode cX9_change 72 = .ok (.getfield 7, 3) := by decide +kernel
theorem dX9_change_75 : decode cX9_change 75 = .ok (.iconst 4, 1) := by decide +kernel
theorem dX9_change_76 : decode cX9_change 76 = .ok (.iload_n 3, 1) := by decide +kernel
theorem dX9_change_77 : decode cX9_change 77 = .ok (.imul, 1) := by decide +kernel
theorem dX9_change_78 : decode cX9_change 78 = .ok (.iload 4, 2) := by decide +kernel
theorem dX9_change_80 : decode cX9_change 80 = .ok (.iadd, 1) := by decide +kernel
theorem dX9_change_81 : decode cX9_change 81 = .ok (.iload 6, 2) := by decide +kernel
theorem dX9_change_83 : decode cX9_change 83 = .ok (.iastore, 1) := by decide +kernel
theorem dX9_change_84 : decode cX9_change 84 = .ok (.iload_n 2, 1) := by decide +kernel
theorem dX9_change_85 : decode cX9_change 85 = .ok (.bipush (-9), 2) := by decide +kernel
theorem dX9_change_87 : decode cX9_change 87 = .ok (.if_icmp .ne 29, 3) := by decide +kernel
theorem dX9_change_90 : decode cX9_change 90 = .ok (.aload_n 0, 1) := by decide +kernel
theorem dX9_change_91 : decode cX9_change 91 = .ok (.iload_n 1, 1) := by decide +kernel
theorem dX9_change_92 : decode cX9_change 92 = .ok (.invokevirtual 136, 3) := by decide +kernel
theorem dX9_change_95 : decode cX9_change 95 = .ok (.bipush (-9), 2) := by decide +kernel
theorem dX9_change_97 : decode cX9_change 97 = .ok (.if_icmp .ne 19, 3) := by decide +kernel
theorem dX9_change_100 : decode cX9_change 100 = .ok (.bipush 100, 2) := by decide +kernel
theorem dX9_change_102 : decode cX9_change 102 = .ok (.iload_n 3, 1) := by decide +kernel
theorem dX9_change_103 : decode cX9_change 103 = .ok (.imul, 1) := by decide +kernel
theorem dX9_change_104 : decode cX9_change 104 = .ok (.bipush 10, 2) := by decide +kernel
theorem dX9_change_106 : decode cX9_change 106 = .ok (.iload 4, 2) := by decide +kernel
theorem dX9_change_108 : decode cX9_change 108 = .ok (.imul, 1) := by decide +kernel
theorem dX9_change_109 : decode cX9_change 109 = .ok (.iadd, 1) := by decide +kernel
theorem dX9_change_110 : decode cX9_change 110 = .ok (.iload 6, 2) := by decide +kernel
theorem dX9_change_112 : decode cX9_change 112 = .ok (.iadd, 1) := by decide +kernel
theorem dX9_change_113 : decode cX9_change 113 = .ok (.goto 4, 3) := by decide +kernel
theorem dX9_change_116 : decode cX9_change 116 = .ok (.iload_n 2, 1) := by decide +kernel
theorem dX9_change_117 : decode cX9_change 117 = .ok (.istore_n 2, 1) := by decide +kernel
theorem dX9_change_118 : decode cX9_change 118 = .ok (.iinc 6 1, 3) := by decide +kernel
theorem dX9_change_121 : decode cX9_change 121 = .ok (.goto (-59), 3) := by decide +kernel
theorem dX9_change_124 : decode cX9_change 124 = .ok (.aload_n 0, 1) := by decide +kernel
theorem dX9_change_125 : decode cX9_change 125 = .ok (.getfield 7, 3) := by decide +kernel
theorem dX9_change_128 : decode cX9_change 128 = .ok (.iconst 4, 1) := by decide +kernel
theorem dX9_change_129 : decode cX9_change 129 = .ok (.iload_n 3, 1) := by decide +kernel
theorem dX9_change_130 : decode cX9_change 130 = .ok (.imul, 1) := by decide +kernel
theorem dX9_change_131 : decode cX9_change 131 = .ok (.iload 4, 2) := by decide +kernel
theorem dX9_change_133 : decode cX9_change 133 = .ok (.iadd, 1) := by decide +kernel
theorem dX9_change_134 : decode cX9_change 134 = .ok (.iload 5, 2) := by decide +kernel
theorem dX9_change_136 : decode cX9_change 136 = .ok (.iastore, 1) := by decide +kernel
theorem dX9_change_137 : decode cX9_change 137 = .ok (.iinc 4 1, 3) := by decide +kernel
theorem dX9_change_140 : decode cX9_change 140 = .ok (.goto (-99), 3) := by decide +kernel
theorem dX9_change_143 : decode cX9_change 143 = .ok (.iinc 3 1, 3) := by decide +kernel
theorem dX9_change_146 : decode cX9_change 146 = .ok (.goto (-116), 3) := by decide +kernel
theorem dX9_change_149 : decode cX9_change 149 = .ok (.iload_n 2, 1) := by decide +kernel
theorem dX9_change_150 : decode cX9_change 150 = .ok (.ireturn, 1) := by decide +kernel
theorem dX9_figureOf_0 : decode cX9_figureOf 0 = .ok (.iload_n 0, 1) := by decide +kernel
theorem dX9_figureOf_1 : decode cX9_figureOf 1 = .ok (.iconst 2, 1) := by decide +kernel
theorem dX9_figureOf_2 : decode cX9_figureOf 2 = .ok (.iconst 3, 1) := by decide +kernel
theorem dX9_figureOf_3 : decode cX9_figureOf 3 = .ok (.iload_n 1, 1) := by decide +kernel
theorem dX9_figureOf_4 : decode cX9_figureOf 4 = .ok (.isub, 1) := by decide +kernel
theorem dX9_figureOf_5 : decode cX9_figureOf 5 = .ok (.imul, 1) := by decide +kernel
theorem dX9_figureOf_6 : decode cX9_figureOf 6 = .ok (.ishr, 1) := by decide +kernel
theorem dX9_figureOf_7 : decode cX9_figureOf 7 = .ok (.iconst 3, 1) := by decide +kernel
theorem dX9_figureOf_8 : decode cX9_figureOf 8 = .ok (.iand, 1) := by decide +kernel
theorem dX9_figureOf_9 : decode cX9_figureOf 9 = .ok (.ireturn, 1) := by decide +kernel
set_option maxRecDepth 20000 in
theorem ggX9_isWith_X9_figureOf : GoodIn wsX9_isWith wsX9_figureOf := goodIn_r _ [4] (by decide +kernel) (by decide +kernel)
set_option maxRecDepth 20000 in
theorem gX9_isWith_X9_figureOf : GoodIn wsX9_isWith (va_wsS RX9 139 yX9_figureOf wsX9_figureOf) := goodIn_app (goodIn_of _ (by decide +kernel)) ggX9_isWith_X9_figureOf
theorem dX9_isWith_0 : decode cX9_isWith 0 = .ok (.iload_n 1, 1) := by decide +kernel
theorem dX9_isWith_1 : decode cX9_isWith 1 = .ok (.iload_n 2, 1) := by decide +kernel
theorem dX9_isWith_2 : decode cX9_isWith 2 = .ok (.invokestatic 139, 3) := by decide +kernel
theorem dX9_isWith_5 : decode cX9_isWith 5 = .ok (.iload_n 1, 1) := by decide +kernel
theorem dX9_isWith_6 : decode cX9_isWith 6 = .ok (.iload_n 3, 1) := by decide +kernel
theorem dX9_isWith_7 : decode cX9_isWith 7 = .ok (.invokestatic 139, 3) := by decide +kernel
theorem dX9_isWith_10 : decode cX9_isWith 10 = .ok (.if_icmp .ne 7, 3) := by decide +kernel
theorem dX9_isWith_13 : decode cX9_isWith 13 = .ok (.iconst 1, 1) := by decide +kernel
theorem dX9_isWith_14 : decode cX9_isWith 14 = .ok (.goto 4, 3) := by decide +kernel
theorem dX9_isWith_17 : decode cX9_isWith 17 = .ok (.iconst 0, 1) := by decide +kernel
theorem dX9_isWith_18 : decode cX9_isWith 18 = .ok (.ireturn, 1) := by decide +kernel
set_option maxRecDepth 20000 in
theorem ggX9_isPartition_X9_figureOf : GoodIn wsX9_isPartition wsX9_figureOf := goodIn_r _ [4] (by decide +kernel) (by decide +kernel)
set_option maxRecDepth 20000 in
theorem gX9_isPartition_X9_figureOf : GoodIn wsX9_isPartition (va_wsS RX9 139 yX9_figureOf wsX9_figureOf) := goodIn_app (goodIn_of _ (by decide +kernel)) ggX9_isPartition_X9_figureOf
set_option maxRecDepth 20000 in
theorem ggX9_isPartition_X9_size : GoodIn wsX9_isPartition wsX9_size := goodIn_r _ [8, 9, 10, 11, 12, 13, 14, 15, 16, 17, 18, 19, 20, 21, 22, 23, 24, 25, 26, 27, 28, 29, 30] (by decide +kernel) (by decide +kernel)
set_option maxRecDepth 20000 in
theorem gX9_isPartition_X9_size : GoodIn wsX9_isPartition (wsV RX9 43 RX9 yX9_size wsX9_size) := goodIn_app (goodIn_of _ (by decide +kernel)) ggX9_isPartition_X9_size
theorem dX9_isPartition_0 : decode cX9_isPartition 0 = .ok (.iconst 1, 1) := by decide +kernel
theorem dX9_isPartition_1 : decode cX9_isPartition 1 = .ok (.istore_n 2, 1) := by decide +kernel
theorem dX9_isPartition_2 : decode cX9_isPartition 2 = .ok (.iconst 0, 1) := by decide +kernel
theorem dX9_isPartition_3 : decode cX9_isPartition 3 = .ok (.istore_n 3, 1) := by decide +kernel
theorem dX9_isPartition_4 : decode cX9_isPartition 4 = .ok (.iload_n 3, 1) := by decide +kernel
theorem dX9_isPartition_5 : decode cX9_isPartition 5 = .ok (.iconst 4, 1) := by decide +kernel
theorem dX9_isPartition_6 : decode cX9_isPartition 6 = .ok (.if_icmp .ge 59, 3) := by decide +kernel
theorem dX9_isPartition_9 : decode cX9_isPartition 9 = .ok (.iload_n 1, 1) := by decide +kernel
theorem dX9_isPartition_10 : decode cX9_isPartition 10 = .ok (.iload_n 3, 1) := by decide +kernel
theorem dX9_isPartition_11 : decode cX9_isPartition 11 = .ok (.invokestatic 139, 3) := by decide +kernel
theorem dX9_isPartition_14 : decode cX9_isPartition 14 = .ok (.istore 4, 2) := by decide +kernel
theorem dX9_isPartition_16 : decode cX9_isPartition 16 = .ok (.iload_n 2, 1) := by decide +kernel
theorem dX9_isPartition_17 : decode cX9_isPartition 17 = .ok (.ifCond .eq 40, 3) := by decide +kernel
theorem dX9_isPartition_20 : decode cX9_isPartition 20 = .ok (.iload_n 3, 1) := by decide +kernel
theorem dX9_isPartition_21 : decode cX9_isPartition 21 = .ok (.aload_n 0, 1) := by decide +kernel
theorem dX9_isPartition_22 : decode cX9_isPartition 22 = .ok (.invokevirtual 43, 3) := by decide +kernel
theorem dX9_isPartition_25 : decode cX9_isPartition 25 = .ok (.if_icmp .ge 23, 3) := by decide +kernel
theorem dX9_isPartition_28 : decode cX9_isPartition 28 = .ok (.iload 4, 2) := by decide +kernel
theorem dX9_isPartition_30 : decode cX9_isPartition 30 = .ok (.iload_n 3, 1) := by decide +kernel
theorem dX9_isPartition_31 : decode cX9_isPartition 31 = .ok (.if_icmp .gt 26, 3) := by decide +kernel
theorem dX9_isPartition_34 : decode cX9_isPartition 34 = .ok (.iload_n 1, 1) := by decide +kernel
theorem dX9_isPartition_35 : decode cX9_isPartition 35 = .ok (.iload 4, 2) := by decide +kernel
theorem dX9_isPartition_37 : decode cX9_isPartition 37 = .ok (.invokestatic 139, 3) := by decide +kernel
theorem dX9_isPartition_40 : decode cX9_isPartition 40 = .ok (.iload 4, 2) := by decide +kernel
theorem dX9_isPartition_42 : decode cX9_isPartition 42 = .ok (.if_icmp .ne 15, 3) := by decide +kernel
theorem dX9_isPartition_45 : decode cX9_isPartition 45 = .ok (.goto 8, 3) := by decide +kernel
theorem dX9_isPartition_48 : decode cX9_isPartition 48 = .ok (.iload 4, 2) := by decide +kernel
theorem dX9_isPartition_50 : decode cX9_isPartition 50 = .ok (.ifCond .ne 7, 3) := by decide +kernel
theorem dX9_isPartition_53 : decode cX9_isPartition 53 = .ok (.iconst 1, 1) := by decide +kernel
theorem dX9_isPartition_54 : decode cX9_isPartition 54 = .ok (.goto 4, 3) := by decide +kernel
theorem dX9_isPartition_57 : decode cX9_isPartition 57 = .ok (.iconst 0, 1) := by decide +kernel
theorem dX9_isPartition_58 : decode cX9_isPartition 58 = .ok (.istore_n 2, 1) := by decide +kernel
theorem dX9_isPartition_59 : decode cX9_isPartition 59 = .ok (.iinc 3 1, 3) := by decide +kernel
theorem dX9_isPartition_62 : decode cX9_isPartition 62 = .ok (.goto (-58), 3) := by decide +kernel
theorem dX9_isPartition_65 : decode cX9_isPartition 65 = .ok (.iload_n 2, 1) := by decide +kernel
theorem dX9_isPartition_66 : decode cX9_isPartition 66 = .ok (.ireturn, 1) := by decide +kernel
set_option maxRecDepth 20000 in
theorem ggX9_goesAlong_X9_size : GoodIn wsX9_goesAlong wsX9_size := goodIn_r _ [5, 6, 22, 23, 24, 25, 26, 27, 28, 29, 30, 31, 32, 33, 34, 35, 36, 37, 38, 39, 40, 41, 42] (by decide +kernel) (by decide +kernel)
set_option maxRecDepth 20000 in
theorem gX9_goesAlong_X9_size : GoodIn wsX9_goesAlong (wsV RX9 43 RX9 yX9_size wsX9_size) := goodIn_app (goodIn_of _ (by decide +kernel)) ggX9_goesAlong_X9_size
set_option maxRecDepth 20000 in
theorem ggX9_goesAlong_X9_isWith : GoodIn wsX9_goesAlong wsX9_isWith := goodIn_r _ [10, 11, 12, 4, 13] (by decide +kernel) (by decide +kernel)
set_option maxRecDepth 20000 in
theorem gX9_goesAlong_X9_isWith : GoodIn wsX9_goesAlong (wsV RX9 142 RX9 yX9_isWith wsX9_isWith) := goodIn_app (goodIn_of _ (by decide +kernel)) ggX9_goesAlong_X9_isWith
set_option maxRecDepth 20000 in
theorem ggX9_goesAlong_X9_gg : GoodIn wsX9_goesAlong wsX9_gg := goodIn_r _ [17, 6, 22, 23, 24, 25, 26, 27, 28, 29, 30, 31, 32, 33, 34, 35, 36, 37, 38, 39, 40, 41, 42] (by decide +kernel) (by decide +kernel)
set_option maxRecDepth 20000 in
theorem gX9_goesAlong_X9_gg : GoodIn wsX9_goesAlong (wsV RX9 110 RX9 yX9_gg wsX9_gg) := goodIn_app (goodIn_of _ (by decide +kernel)) ggX9_goesAlong_X9_gg
set_option maxRecDepth 20000 in
theorem ggX9_goesAlong_X9_ff : GoodIn wsX9_goesAlong wsX9_ff := goodIn_r _ [21, 6, 22, 23, 24, 25, 26, 27, 28, 29, 30, 31, 32, 33, 34, 35, 36, 37, 38, 39, 40, 41, 42] (by decide +kernel) (by decide +kernel)
set_option maxRecDepth 20000 in
theorem gX9_goesAlong_X9_ff : GoodIn wsX9_goesAlong (wsV RX9 106 RX9 yX9_ff wsX9_ff) := goodIn_app (goodIn_of _ (by decide +kernel)) ggX9_goesAlong_X9_ff
theorem dX9_goesAlong_0 : decode cX9_goesAlong 0 = .ok (.iconst 0, 1) := by decide +kernel
theorem dX9_goesAlong_1 : decode cX9_goesAlong 1 = .ok (.istore_n 2, 1) := by decide +kernel
theorem dX9_goesAlong_2 : decode cX9_goesAlong 2 = .ok (.iload_n 2, 1) := by decide +kernel
theorem dX9_goesAlong_3 : decode cX9_goesAlong 3 = .ok (.aload_n 0, 1) := by decide +kernel
theorem dX9_goesAlong_4 : decode cX9_goesAlong 4 = .ok (.invokevirtual 43, 3) := by decide +kernel
theorem dX9_goesAlong_7 : decode cX9_goesAlong 7 = .ok (.if_icmp .ge 133, 3) := by decide +kernel
theorem dX9_goesAlong_10 : decode cX9_goesAlong 10 = .ok (.iconst 0, 1) := by decide +kernel
theorem dX9_goesAlong_11 : decode cX9_goesAlong 11 = .ok (.istore_n 3, 1) := by decide +kernel
theorem dX9_goesAlong_12 : decode cX9_goesAlong 12 = .ok (.iload_n 3, 1) := by decide +kernel
theorem dX9_goesAlong_13 : decode cX9_goesAlong 13 = .ok (.aload_n 0, 1) := by decide +kernel
theorem dX9_goesAlong_14 : decode cX9_goesAlong 14 = .ok (.invokevirtual 43, 3) := by decide +kernel
theorem dX9_goesAlong_17 : decode cX9_goesAlong 17 = .ok (.if_icmp .ge 117, 3) := by decide +kernel
theorem dX9_goesAlong_20 : decode cX9_goesAlong 20 = .ok (.aload_n 0, 1) := by decide +kernel
theorem dX9_goesAlong_21 : decode cX9_goesAlong 21 = .ok (.iload_n 1, 1) := by decide +kernel
theorem dX9_goesAlong_22 : decode cX9_goesAlong 22 = .ok (.iload_n 2, 1) := by decide +kernel
theorem dX9_goesAlong_23 : decode cX9_goesAlong 23 = .ok (.iload_n 3, 1) := by decide +kernel
theorem dX9_goesAlong_24 : decode cX9_goesAlong 24 = .ok (.invokevirtual 142, 3) := by decide +kernel
theorem dX9_goesAlong_27 : decode cX9_goesAlong 27 = .ok (.ifCond .eq 101, 3) := by decide +kernel
theorem dX9_goesAlong_30 : decode cX9_goesAlong 30 = .ok (.aload_n 0, 1) := by decide +kernel
theorem dX9_goesAlong_31 : decode cX9_goesAlong 31 = .ok (.iload_n 1, 1) := by decide +kernel
theorem dX9_goesAlong_32 : decode cX9_goesAlong 32 = .ok (.aload_n 0, 1) := by decide +kernel
theorem dX9_goesAlong_33 : decode cX9_goesAlong 33 = .ok (.iload_n 2, 1) := by decide +kernel
theorem dX9_goesAlong_34 : decode cX9_goesAlong 34 = .ok (.invokevirtual 110, 3) := by decide +kernel
theorem dX9_goesAlong_37 : decode cX9_goesAlong 37 = .ok (.aload_n 0, 1) := by decide +kernel
theorem dX9_goesAlong_38 : decode cX9_goesAlong 38 = .ok (.iload_n 3, 1) := by decide +kernel
theorem dX9_goesAlong_39 : decode cX9_goesAlong 39 = .ok (.invokevirtual 110, 3) := by decide +kernel
theorem dX9_goesAlong_42 : decode cX9_goesAlong 42 = .ok (.invokevirtual 142, 3) := by decide +kernel
theorem dX9_goesAlong_45 : decode cX9_goesAlong 45 = .ok (.istore 4, 2) := by decide +kernel
theorem dX9_goesAlong_47 : decode cX9_goesAlong 47 = .ok (.iconst 0, 1) := by decide +kernel
theorem dX9_goesAlong_48 : decode cX9_goesAlong 48 = .ok (.istore 5, 2) := by decide +kernel
theorem dX9_goesAlong_50 : decode cX9_goesAlong 50 = .ok (.iload 5, 2) := by decide +kernel
theorem dX9_goesAlong_52 : decode cX9_goesAlong 52 = .ok (.aload_n 0, 1) := by decide +kernel
theorem dX9_goesAlong_53 : decode cX9_goesAlong 53 = .ok (.invokevirtual 43, 3) := by decide +kernel
theorem dX9_goesAlong_56 : decode cX9_goesAlong 56 = .ok (.if_icmp .ge 65, 3) := by decide +kernel
theorem dX9_goesAlong_59 : decode cX9_goesAlong 59 = .ok (.iload 4, 2) := by decide +kernel
theorem dX9_goesAlong_61 : decode cX9_goesAlong 61 = .ok (.ifCond .eq 51, 3) := by decide +kernel
theorem dX9_goesAlong_64 : decode cX9_goesAlong 64 = .ok (.aload_n 0, 1) := by decide +kernel
theorem dX9_goesAlong_65 : decode cX9_goesAlong 65 = .ok (.iload_n 1, 1) := by decide +kernel
theorem dX9_goesAlong_66 : decode cX9_goesAlong 66 = .ok (.aload_n 0, 1) := by decide +kernel
theorem dX9_goesAlong_67 : decode cX9_goesAlong 67 = .ok (.iload_n 2, 1) := by decide +kernel
theorem dX9_goesAlong_68 : decode cX9_goesAlong 68 = .ok (.iload 5, 2) := by decide +kernel
theorem dX9_goesAlong_70 : decode cX9_goesAlong 70 = .ok (.invokevirtual 106, 3) := by decide +kernel
theorem dX9_goesAlong_73 : decode cX9_goesAlong 73 = .ok (.aload_n 0, 1) := by decide +kernel
theorem dX9_goesAlong_74 : decode cX9_goesAlong 74 = .ok (.iload_n 3, 1) := by decide +kernel
theorem dX9_goesAlong_75 : decode cX9_goesAlong 75 = .ok (.iload 5, 2) := by decide +kernel
theorem dX9_goesAlong_77 : decode cX9_goesAlong 77 = .ok (.invokevirtual 106, 3) := by decide +kernel
theorem dX9_goesAlong_80 : decode cX9_goesAlong 80 = .ok (.invokevirtual 142, 3) := by decide +kernel
theorem dX9_goesAlong_83 : decode cX9_goesAlong 83 = .ok (.ifCond .eq 29, 3) := by decide +kernel
theorem dX9_goesAlong_86 : decode cX9_goesAlong 86 = .ok (.aload_n 0, 1) := by decide +kernel
theorem dX9_goesAlong_87 : decode cX9_goesAlong 87 = .ok (.iload_n 1, 1) := by decide +kernel
theorem dX9_goesAlong_88 : decode cX9_goesAlong 88 = .ok (.aload_n 0, 1) := by decide +kernel
theorem dX9_goesAlong_89 : decode cX9_goesAlong 89 = .ok (.iload 5, 2) := by decide +kernel
theorem dX9_goesAlong_91 : decode cX9_goesAlong 91 = .ok (.iload_n 2, 1) := by decide +kernel
theorem dX9_goesAlong_92 : decode cX9_goesAlong 92 = .ok (.invokevirtual 106, 3) := by decide +kernel
theorem dX9_goesAlong_95 : decode cX9_goesAlong 95 = .ok (.aload_n 0, 1) := by decide +kernel
theorem dX9_goesAlong_96 : decode cX9_goesAlong 96 = .ok (.iload 5, 2) := by decide +kernel
theorem dX9_goesAlong_98 : decode cX9_goesAlong 98 = .ok (.iload_n 3, 1) := by decide +kernel
theorem dX9_goesAlong_99 : decode cX9_goesAlong 99 = .ok (.invokevirtual 106, 3) := by decide +kernel
theorem dX9_goesAlong_102 : decode cX9_goesAlong 102 = .ok (.invokevirtual 142, 3) := by decide +kernel
theorem dX9_goesAlong_105 : decode cX9_goesAlong 105 = .ok (.ifCond .eq 7, 3) := by decide +kernel
theorem dX9_goesAlong_108 : decode cX9_goesAlong 108 = .ok (.iconst 1, 1) := by decide +kernel
theorem dX9_goesAlong_109 : decode cX9_goesAlong 109 = .ok (.goto 4, 3) := by decide +kernel
theorem dX9_goesAlong_112 : decode cX9_goesAlong 112 = .ok (.iconst 0, 1) := by decide +kernel
theorem dX9_goesAlong_113 : decode cX9_goesAlong 113 = .ok (.istore 4, 2) := by decide +kernel
theorem dX9_goesAlong_115 : decode cX9_goesAlong 115 = .ok (.iinc 5 1, 3) := by decide +kernel
theorem dX9_goesAlong_118 : decode cX9_goesAlong 118 = .ok (.goto (-68), 3) := by decide +kernel
theorem dX9_goesAlong_121 : decode cX9_goesAlong 121 = .ok (.iload 4, 2) := by decide +kernel
theorem dX9_goesAlong_123 : decode cX9_goesAlong 123 = .ok (.ifCond .ne 5, 3) := by decide +kernel
theorem dX9_goesAlong_126 : decode cX9_goesAlong 126 = .ok (.iconst 0, 1) := by decide +kernel
theorem dX9_goesAlong_127 : decode cX9_goesAlong 127 = .ok (.ireturn, 1) := by decide +kernel
theorem dX9_goesAlong_128 : decode cX9_goesAlong 128 = .ok (.iinc 3 1, 3) := by decide +kernel
theorem dX9_goesAlong_131 : decode cX9_goesAlong 131 = .ok (.goto (-119), 3) := by decide +kernel
theorem dX9_goesAlong_134 : decode cX9_goesAlong 134 = .ok (.iinc 2 1, 3) := by decide +kernel
theorem dX9_goesAlong_137 : decode cX9_goesAlong 137 = .ok (.goto (-135), 3) := by decide +kernel
theorem dX9_goesAlong_140 : decode cX9_goesAlong 140 = .ok (.iconst 1, 1) := by decide +kernel
theorem dX9_goesAlong_141 : decode cX9_goesAlong 141 = .ok (.ireturn, 1) := by decide +kernel
set_option maxRecDepth 20000 in
theorem ggX9_layCongruences_X9_isPartition : GoodIn wsX9_layCongruences wsX9_isPartition := goodIn_r _ [7, 8, 9, 6, 10, 11, 12, 13, 14, 15, 32, 33, 34, 35, 36, 37, 38, 39, 40, 41, 42, 43, 44, 45, 46, 47, 48, 49, 50, 51, 52] (by decide +kernel) (by decide +kernel)
set_option maxRecDepth 20000 in
theorem gX9_layCongruences_X9_isPartition : GoodIn wsX9_layCongruences (wsV RX9 148 RX9 yX9_isPartition wsX9_isPartition) := goodIn_app (goodIn_of _ (by decide +kernel)) ggX9_layCongruences_X9_isPartition
set_option maxRecDepth 20000 in
theorem ggX9_layCongruences_X9_goesAlong : GoodIn wsX9_layCongruences wsX9_goesAlong := goodIn_r _ [19, 11, 12, 13, 6, 14, 15, 20, 21, 22, 23, 8, 9, 10, 24, 25, 26, 27, 28, 29, 30, 31, 32, 33, 34, 35, 36, 37, 38, 39, 40, 41, 42, 43, 44, 45, 46, 47, 48, 49, 50, 51, 52] (by decide +kernel) (by decide +kernel)
set_option maxRecDepth 20000 in
theorem gX9_layCongruences_X9_goesAlong : GoodIn wsX9_layCongruences (wsV RX9 151 RX9 yX9_goesAlong wsX9_goesAlong) := goodIn_app (goodIn_of _ (by decide +kernel)) ggX9_layCongruences_X9_goesAlong
theorem dX9_layCongruences_0 : decode cX9_layCongruences 0 = .ok (.aload_n 0, 1) := by decide +kernel
theorem dX9_layCongruences_1 : decode cX9_layCongruences 1 = .ok (.iconst 0, 1) := by decide +kernel
theorem dX9_layCongruences_2 : decode cX9_layCongruences 2 = .ok (.putfield 145, 3) := by decide +kernel
theorem dX9_layCongruences_5 : decode cX9_layCongruences 5 = .ok (.iconst 0, 1) := by decide +kernel
theorem dX9_layCongruences_6 : decode cX9_layCongruences 6 = .ok (.istore_n 1, 1) := by decide +kernel
theorem dX9_layCongruences_7 : decode cX9_layCongruences 7 = .ok (.iload_n 1, 1) := by decide +kernel
theorem dX9_layCongruences_8 : decode cX9_layCongruences 8 = .ok (.sipush 256, 3) := by decide +kernel
theorem dX9_layCongruences_11 : decode cX9_layCongruences 11 = .ok (.if_icmp .ge 45, 3) := by decide +kernel
theorem dX9_layCongruences_14 : decode cX9_layCongruences 14 = .ok (.aload_n 0, 1) := by decide +kernel
theorem dX9_layCongruences_15 : decode cX9_layCongruences 15 = .ok (.iload_n 1, 1) := by decide +kernel
theorem dX9_layCongruences_16 : decode cX9_layCongruences 16 = .ok (.invokevirtual 148, 3) := by decide +kernel
theorem dX9_layCongruences_19 : decode cX9_layCongruences 19 = .ok (.ifCond .eq 31, 3) := by decide +kernel
theorem dX9_layCongruences_22 : decode cX9_layCongruences 22 = .ok (.aload_n 0, 1) := by decide +kernel
theorem dX9_layCongruences_23 : decode cX9_layCongruences 23 = .ok (.iload_n 1, 1) := by decide +kernel
theorem dX9_layCongruences_24 : decode cX9_layCongruences 24 = .ok (.invokevirtual 151, 3) := by decide +kernel
theorem dX9_layCongruences_27 : decode cX9_layCongruences 27 = .ok (.ifCond .eq 23, 3) := by decide +kernel
theorem dX9_layCongruences_30 : decode cX9_layCongruences 30 = .ok (.aload_n 0, 1) := by decide +kernel
theorem dX9_layCongruences_31 : decode cX9_layCongruences 31 = .ok (.getfield 32, 3) := by decide +kernel
theorem dX9_layCongruences_34 : decode cX9_layCongruences 34 = .ok (.aload_n 0, 1) := by decide +kernel
theorem dX9_layCongruences_35 : decode cX9_layCongruences 35 = .ok (.getfield 145, 3) := by decide +kernel
theorem dX9_layCongruences_38 : decode cX9_layCongruences 38 = .ok (.iload_n 1, 1) := by decide +kernel
theorem dX9_layCongruences_39 : decode cX9_layCongruences 39 = .ok (.iastore, 1) := by decide +kernel
theorem dX9_layCongruences_40 : decode cX9_layCongruences 40 = .ok (.aload_n 0, 1) := by decide +kernel
theorem dX9_layCongruences_41 : decode cX9_layCongruences 41 = .ok (.dup, 1) := by decide +kernel
theorem dX9_layCongruences_42 : decode cX9_layCongruences 42 = .ok (.getfield 145, 3) := by decide +kernel
theorem dX9_layCongruences_45 : decode cX9_layCongruences 45 = .ok (.iconst 1, 1) := by decide +kernel
theorem dX9_layCongruences_46 : decode cX9_layCongruences 46 = .ok (.iadd, 1) := by decide +kernel
theorem dX9_layCongruences_47 : decode cX9_layCongruences 47 = .ok (.putfield 145, 3) := by decide +kernel
theorem dX9_layCongruences_50 : decode cX9_layCongruences 50 = .ok (.iinc 1 1, 3) := by decide +kernel
theorem dX9_layCongruences_53 : decode cX9_layCongruences 53 = .ok (.goto (-46), 3) := by decide +kernel
theorem dX9_layCongruences_56 : decode cX9_layCongruences 56 = .ok (.return_, 1) := by decide +kernel
set_option maxRecDepth 20000 in
theorem ggX9_nameOf_X9_size : GoodIn wsX9_nameOf wsX9_size := goodIn_r _ [5, 6, 10, 11, 12, 13, 14, 15, 16, 17, 18, 19, 20, 21, 22, 23, 24, 25, 26, 27, 28, 29, 30] (by decide +kernel) (by decide +kernel)
set_option maxRecDepth 20000 in
theorem gX9_nameOf_X9_size : GoodIn wsX9_nameOf (wsV RX9 43 RX9 yX9_size wsX9_size) := goodIn_app (goodIn_of _ (by decide +kernel)) ggX9_nameOf_X9_size
set_option maxRecDepth 20000 in
theorem ggX9_nameOf_X9_figureOf : GoodIn wsX9_nameOf wsX9_figureOf := goodIn_r _ [9] (by decide +kernel) (by decide +kernel)
set_option maxRecDepth 20000 in
theorem gX9_nameOf_X9_figureOf : GoodIn wsX9_nameOf (va_wsS RX9 139 yX9_figureOf wsX9_figureOf) := goodIn_app (goodIn_of _ (by decide +kernel)) ggX9_nameOf_X9_figureOf
theorem dX9_nameOf_0 : decode cX9_nameOf 0 = .ok (.iconst 0, 1) := by decide +kernel
theorem dX9_nameOf_1 : decode cX9_nameOf 1 = .ok (.istore_n 2, 1) := by decide +kernel
theorem dX9_nameOf_2 : decode cX9_nameOf 2 = .ok (.iconst 0, 1) := by decide +kernel
theorem dX9_nameOf_3 : decode cX9_nameOf 3 = .ok (.istore_n 3, 1) := by decide +kernel
theorem dX9_nameOf_4 : decode cX9_nameOf 4 = .ok (.iload_n 3, 1) := by decide +kernel
theorem dX9_nameOf_5 : decode cX9_nameOf 5 = .ok (.aload_n 0, 1) := by decide +kernel
theorem dX9_nameOf_6 : decode cX9_nameOf 6 = .ok (.invokevirtual 43, 3) := by decide +kernel
theorem dX9_nameOf_9 : decode cX9_nameOf 9 = .ok (.if_icmp .ge 20, 3) := by decide +kernel
theorem dX9_nameOf_12 : decode cX9_nameOf 12 = .ok (.bipush 10, 2) := by decide +kernel
theorem dX9_nameOf_14 : decode cX9_nameOf 14 = .ok (.iload_n 2, 1) := by decide +kernel
theorem dX9_nameOf_15 : decode cX9_nameOf 15 = .ok (.imul, 1) := by decide +kernel
theorem dX9_nameOf_16 : decode cX9_nameOf 16 = .ok (.iload_n 1, 1) := by decide +kernel
theorem dX9_nameOf_17 : decode cX9_nameOf 17 = .ok (.iload_n 3, 1) := by decide +kernel
theorem dX9_nameOf_18 : decode cX9_nameOf 18 = .ok (.invokestatic 139, 3) := by decide +kernel
theorem dX9_nameOf_21 : decode cX9_nameOf 21 = .ok (.iadd, 1) := by decide +kernel
theorem dX9_nameOf_22 : decode cX9_nameOf 22 = .ok (.istore_n 2, 1) := by decide +kernel
theorem dX9_nameOf_23 : decode cX9_nameOf 23 = .ok (.iinc 3 1, 3) := by decide +kernel
theorem dX9_nameOf_26 : decode cX9_nameOf 26 = .ok (.goto (-22), 3) := by decide +kernel
theorem dX9_nameOf_29 : decode cX9_nameOf 29 = .ok (.iload_n 2, 1) := by decide +kernel
theorem dX9_nameOf_30 : decode cX9_nameOf 30 = .ok (.ireturn, 1) := by decide +kernel
set_option maxRecDepth 20000 in
theorem ggX9_congruence_X9_layCongruences : GoodIn wsX9_congruence wsX9_layCongruences := goodIn_r _ [7, 1, 2, 8, 9, 10, 6, 11, 12, 13, 14, 15, 16, 17, 18, 19, 20, 21, 22, 23, 24, 25, 26, 27, 28, 29, 30, 31, 32, 33, 34, 35, 40, 41, 42, 43, 44, 45, 46, 47, 48, 49, 50, 51, 52, 53, 54, 55, 56, 57, 58, 59, 60] (by decide +kernel) (by decide +kernel)
set_option maxRecDepth 20000 in
theorem gX9_congruence_X9_layCongruences : GoodIn wsX9_congruence (wsV RX9 154 RX9 yX9_layCongruences wsX9_layCongruences) := goodIn_app (goodIn_of _ (by decide +kernel)) ggX9_congruence_X9_layCongruences
set_option maxRecDepth 20000 in
theorem ggX9_congruence_X9_nameOf : GoodIn wsX9_congruence wsX9_nameOf := goodIn_r _ [39, 15, 16, 17, 6, 18, 19, 12, 13, 14, 40, 41, 42, 43, 44, 45, 46, 47, 48, 49, 50, 51, 52, 53, 54, 55, 56, 57, 58, 59, 60] (by decide +kernel) (by decide +kernel)
set_option maxRecDepth 20000 in
theorem gX9_congruence_X9_nameOf : GoodIn wsX9_congruence (wsV RX9 157 RX9 yX9_nameOf wsX9_nameOf) := goodIn_app (goodIn_of _ (by decide +kernel)) ggX9_congruence_X9_nameOf
theorem dX9_congruence_0 : decode cX9_congruence 0 = .ok (.iload_n 1, 1) := by decide +kernel
theorem dX9_congruence_1 : decode cX9_congruence 1 = .ok (.ifCond .ge 6, 3) := by decide +kernel
theorem dX9_congruence_4 : decode cX9_congruence 4 = .ok (.bipush (-2), 2) := by decide +kernel
theorem dX9_congruence_6 : decode cX9_congruence 6 = .ok (.ireturn, 1) := by decide +kernel
theorem dX9_congruence_7 : decode cX9_congruence 7 = .ok (.aload_n 0, 1) := by decide +kernel
theorem dX9_congruence_8 : decode cX9_congruence 8 = .ok (.invokevirtual 154, 3) := by decide +kernel
theorem dX9_congruence_11 : decode cX9_congruence 11 = .ok (.iload_n 1, 1) := by decide +kernel
theorem dX9_congruence_12 : decode cX9_congruence 12 = .ok (.aload_n 0, 1) := by decide +kernel
theorem dX9_congruence_13 : decode cX9_congruence 13 = .ok (.getfield 145, 3) := by decide +kernel
theorem dX9_congruence_16 : decode cX9_congruence 16 = .ok (.if_icmp .ge 16, 3) := by decide +kernel
theorem dX9_congruence_19 : decode cX9_congruence 19 = .ok (.aload_n 0, 1) := by decide +kernel
theorem dX9_congruence_20 : decode cX9_congruence 20 = .ok (.aload_n 0, 1) := by decide +kernel
theorem dX9_congruence_21 : decode cX9_congruence 21 = .ok (.getfield 32, 3) := by decide +kernel
theorem dX9_congruence_24 : decode cX9_congruence 24 = .ok (.iload_n 1, 1) := by decide +kernel
theorem dX9_congruence_25 : decode cX9_congruence 25 = .ok (.iaload, 1) := by decide +kernel
theorem dX9_congruence_26 : decode cX9_congruence 26 = .ok (.invokevirtual 157, 3) := by decide +kernel
theorem dX9_congruence_29 : decode cX9_congruence 29 = .ok (.goto 5, 3) := by decide +kernel
theorem dX9_congruence_32 : decode cX9_congruence 32 = .ok (.bipush (-9), 2) := by decide +kernel
theorem dX9_congruence_34 : decode cX9_congruence 34 = .ok (.ireturn, 1) := by decide +kernel
set_option maxRecDepth 20000 in
theorem ggX9_isFiner_X9_size : GoodIn wsX9_isFiner wsX9_size := goodIn_r _ [5, 6, 14, 15, 16, 17, 18, 19, 20, 21, 22, 23, 24, 25, 26, 27, 28, 29, 30, 31, 32, 33, 34] (by decide +kernel) (by decide +kernel)
set_option maxRecDepth 20000 in
theorem gX9_isFiner_X9_size : GoodIn wsX9_isFiner (wsV RX9 43 RX9 yX9_size wsX9_size) := goodIn_app (goodIn_of _ (by decide +kernel)) ggX9_isFiner_X9_size
set_option maxRecDepth 20000 in
theorem ggX9_isFiner_X9_isWith : GoodIn wsX9_isFiner wsX9_isWith := goodIn_r _ [10, 11, 12, 4, 13] (by decide +kernel) (by decide +kernel)
set_option maxRecDepth 20000 in
theorem gX9_isFiner_X9_isWith : GoodIn wsX9_isFiner (wsV RX9 142 RX9 yX9_isWith wsX9_isWith) := goodIn_app (goodIn_of _ (by decide +kernel)) ggX9_isFiner_X9_isWith
theorem dX9_isFiner_0 : decode cX9_isFiner 0 = .ok (.iconst 1, 1) := by decide +kernel
theorem dX9_isFiner_1 : decode cX9_isFiner 1 = .ok (.istore_n 3, 1) := by decide +kernel
theorem dX9_isFiner_2 : decode cX9_isFiner 2 = .ok (.iconst 0, 1) := by decide +kernel
theorem dX9_isFiner_3 : decode cX9_isFiner 3 = .ok (.istore 4, 2) := by decide +kernel
theorem dX9_isFiner_5 : decode cX9_isFiner 5 = .ok (.iload 4, 2) := by decide +kernel
theorem dX9_isFiner_7 : decode cX9_isFiner 7 = .ok (.aload_n 0, 1) := by decide +kernel
theorem dX9_isFiner_8 : decode cX9_isFiner 8 = .ok (.invokevirtual 43, 3) := by decide +kernel
theorem dX9_isFiner_11 : decode cX9_isFiner 11 = .ok (.if_icmp .ge 59, 3) := by decide +kernel
theorem dX9_isFiner_14 : decode cX9_isFiner 14 = .ok (.iconst 0, 1) := by decide +kernel
theorem dX9_isFiner_15 : decode cX9_isFiner 15 = .ok (.istore 5, 2) := by decide +kernel
theorem dX9_isFiner_17 : decode cX9_isFiner 17 = .ok (.iload 5, 2) := by decide +kernel
theorem dX9_isFiner_19 : decode cX9_isFiner 19 = .ok (.iload 4, 2) := by decide +kernel
theorem dX9_isFiner_21 : decode cX9_isFiner 21 = .ok (.if_icmp .ge 43, 3) := by decide +kernel
theorem dX9_isFiner_24 : decode cX9_isFiner 24 = .ok (.iload_n 3, 1) := by decide +kernel
theorem dX9_isFiner_25 : decode cX9_isFiner 25 = .ok (.ifCond .eq 31, 3) := by decide +kernel
theorem dX9_isFiner_28 : decode cX9_isFiner 28 = .ok (.aload_n 0, 1) := by decide +kernel
theorem dX9_isFiner_29 : decode cX9_isFiner 29 = .ok (.iload_n 1, 1) := by decide +kernel
theorem dX9_isFiner_30 : decode cX9_isFiner 30 = .ok (.iload 4, 2) := by decide +kernel
theorem dX9_isFiner_32 : decode cX9_isFiner 32 = .ok (.iload 5, 2) := by decide +kernel
theorem dX9_isFiner_34 : decode cX9_isFiner 34 = .ok (.invokevirtual 142, 3) := by decide +kernel
theorem dX9_isFiner_37 : decode cX9_isFiner 37 = .ok (.ifCond .eq 15, 3) := by decide +kernel
theorem dX9_isFiner_40 : decode cX9_isFiner 40 = .ok (.aload_n 0, 1) := by decide +kernel
theorem dX9_isFiner_41 : decode cX9_isFiner 41 = .ok (.iload_n 2, 1) := by decide +kernel
theorem dX9_isFiner_42 : decode cX9_isFiner 42 = .ok (.iload 4, 2) := by decide +kernel
theorem dX9_isFiner_44 : decode cX9_isFiner 44 = .ok (.iload 5, 2) := by decide +kernel
theorem dX9_isFiner_46 : decode cX9_isFiner 46 = .ok (.invokevirtual 142, 3) := by decide +kernel
theorem dX9_isFiner_49 : decode cX9_isFiner 49 = .ok (.ifCond .eq 7, 3) := by decide +kernel
theorem dX9_isFiner_52 : decode cX9_isFiner 52 = .ok (.iconst 1, 1) := by decide +kernel
theorem dX9_isFiner_53 : decode cX9_isFiner 53 = .ok (.goto 4, 3) := by decide +kernel
theorem dX9_isFiner_56 : decode cX9_isFiner 56 = .ok (.iconst 0, 1) := by decide +kernel
theorem dX9_isFiner_57 : decode cX9_isFiner 57 = .ok (.istore_n 3, 1) := by decide +kernel
theorem dX9_isFiner_58 : decode cX9_isFiner 58 = .ok (.iinc 5 1, 3) := by decide +kernel
theorem dX9_isFiner_61 : decode cX9_isFiner 61 = .ok (.goto (-44), 3) := by decide +kernel
theorem dX9_isFiner_64 : decode cX9_isFiner 64 = .ok (.iinc 4 1, 3) := by decide +kernel
theorem dX9_isFiner_67 : decode cX9_isFiner 67 = .ok (.goto (-62), 3) := by decide +kernel
theorem dX9_isFiner_70 : decode cX9_isFiner 70 = .ok (.iload_n 3, 1) := by decide +kernel
theorem dX9_isFiner_71 : decode cX9_isFiner 71 = .ok (.ireturn, 1) := by decide +kernel
set_option maxRecDepth 20000 in
theorem ggX9_blocks_X9_size : GoodIn wsX9_blocks wsX9_size := goodIn_r _ [5, 6, 10, 11, 12, 13, 14, 15, 16, 17, 18, 19, 20, 21, 22, 23, 24, 25, 26, 27, 28, 29, 30] (by decide +kernel) (by decide +kernel)
set_option maxRecDepth 20000 in
theorem gX9_blocks_X9_size : GoodIn wsX9_blocks (wsV RX9 43 RX9 yX9_size wsX9_size) := goodIn_app (goodIn_of _ (by decide +kernel)) ggX9_blocks_X9_size
set_option maxRecDepth 20000 in
theorem ggX9_blocks_X9_figureOf : GoodIn wsX9_blocks wsX9_figureOf := goodIn_r _ [9] (by decide +kernel) (by decide +kernel)
set_option maxRecDepth 20000 in
theorem gX9_blocks_X9_figureOf : GoodIn wsX9_blocks (va_wsS RX9 139 yX9_figureOf wsX9_figureOf) := goodIn_app (goodIn_of _ (by decide +kernel)) ggX9_blocks_X9_figureOf
theorem dX9_blocks_0 : decode cX9_blocks 0 = .ok (.iconst 0, 1) := by decide +kernel
theorem dX9_blocks_1 : decode cX9_blocks 1 = .ok (.istore_n 2, 1) := by decide +kernel
theorem dX9_blocks_2 : decode cX9_blocks 2 = .ok (.iconst 0, 1) := by decide +kernel
theorem dX9_blocks_3 : decode cX9_blocks 3 = .ok (.istore_n 3, 1) := by decide +kernel
theorem dX9_blocks_4 : decode cX9_blocks 4 = .ok (.iload_n 3, 1) := by decide +kernel
theorem dX9_blocks_5 : decode cX9_blocks 5 = .ok (.aload_n 0, 1) := by decide +kernel
theorem dX9_blocks_6 : decode cX9_blocks 6 = .ok (.invokevirtual 43, 3) := by decide +kernel
theorem dX9_blocks_9 : decode cX9_blocks 9 = .ok (.if_icmp .ge 26, 3) := by decide +kernel
theorem dX9_blocks_12 : decode cX9_blocks 12 = .ok (.iload_n 2, 1) := by decide +kernel
theorem dX9_blocks_13 : decode cX9_blocks 13 = .ok (.iload_n 1, 1) := by decide +kernel
theorem dX9_blocks_14 : decode cX9_blocks 14 = .ok (.iload_n 3, 1) := by decide +kernel
theorem dX9_blocks_15 : decode cX9_blocks 15 = .ok (.invokestatic 139, 3) := by decide +kernel
theorem dX9_blocks_18 : decode cX9_blocks 18 = .ok (.iload_n 3, 1) := by decide +kernel
theorem dX9_blocks_19 : decode cX9_blocks 19 = .ok (.if_icmp .ne 7, 3) := by decide +kernel
theorem dX9_blocks_22 : decode cX9_blocks 22 = .ok (.iconst 1, 1) := by decide +kernel
theorem dX9_blocks_23 : decode cX9_blocks 23 = .ok (.goto 4, 3) := by decide +kernel
theorem dX9_blocks_26 : decode cX9_blocks 26 = .ok (.iconst 0, 1) := by decide +kernel
theorem dX9_blocks_27 : decode cX9_blocks 27 = .ok (.iadd, 1) := by decide +kernel
theorem dX9_blocks_28 : decode cX9_blocks 28 = .ok (.istore_n 2, 1) := by decide +kernel
theorem dX9_blocks_29 : decode cX9_blocks 29 = .ok (.iinc 3 1, 3) := by decide +kernel
theorem dX9_blocks_32 : decode cX9_blocks 32 = .ok (.goto (-28), 3) := by decide +kernel
theorem dX9_blocks_35 : decode cX9_blocks 35 = .ok (.iload_n 2, 1) := by decide +kernel
theorem dX9_blocks_36 : decode cX9_blocks 36 = .ok (.ireturn, 1) := by decide +kernel
set_option maxRecDepth 20000 in
theorem ggX9_principal_X9_is : GoodIn wsX9_principal wsX9_is := goodIn_r _ [7, 8, 9, 10, 6, 11, 12, 13, 14, 15, 47, 48, 49, 50, 51, 52, 53, 54, 55, 56, 57, 58, 59, 60, 61, 62, 63, 64, 65, 66, 67] (by decide +kernel) (by decide +kernel)
set_option maxRecDepth 20000 in
theorem gX9_principal_X9_is : GoodIn wsX9_principal (wsV RX9 102 RX9 yX9_is wsX9_is) := goodIn_app (goodIn_of _ (by decide +kernel)) ggX9_principal_X9_is
set_option maxRecDepth 20000 in
theorem ggX9_principal_X9_layCongruences : GoodIn wsX9_principal wsX9_layCongruences := goodIn_r _ [19, 1, 2, 20, 21, 22, 6, 23, 24, 25, 26, 8, 9, 10, 11, 12, 27, 28, 29, 30, 31, 32, 33, 34, 35, 36, 37, 38, 39, 40, 41, 42, 47, 48, 49, 50, 51, 52, 53, 54, 55, 56, 57, 58, 59, 60, 61, 62, 63, 64, 65, 66, 67] (by decide +kernel) (by decide +kernel)
set_option maxRecDepth 20000 in
theorem gX9_principal_X9_layCongruences : GoodIn wsX9_principal (wsV RX9 154 RX9 yX9_layCongruences wsX9_layCongruences) := goodIn_app (goodIn_of _ (by decide +kernel)) ggX9_principal_X9_layCongruences
set_option maxRecDepth 20000 in
theorem ggX9_principal_X9_isWith : GoodIn wsX9_principal wsX9_isWith := goodIn_r _ [34, 24, 25, 6, 26] (by decide +kernel) (by decide +kernel)
set_option maxRecDepth 20000 in
theorem gX9_principal_X9_isWith : GoodIn wsX9_principal (wsV RX9 142 RX9 yX9_isWith wsX9_isWith) := goodIn_app (goodIn_of _ (by decide +kernel)) ggX9_principal_X9_isWith
set_option maxRecDepth 20000 in
theorem ggX9_principal_X9_blocks : GoodIn wsX9_principal wsX9_blocks := goodIn_r _ [46, 8, 9, 10, 6, 11, 12, 24, 25, 26, 47, 48, 49, 50, 51, 52, 53, 54, 55, 56, 57, 58, 59, 60, 61, 62, 63, 64, 65, 66, 67] (by decide +kernel) (by decide +kernel)
set_option maxRecDepth 20000 in
theorem gX9_principal_X9_blocks : GoodIn wsX9_principal (wsV RX9 160 RX9 yX9_blocks wsX9_blocks) := goodIn_app (goodIn_of _ (by decide +kernel)) ggX9_principal_X9_blocks
theorem dX9_principal_0 : decode cX9_principal 0 = .ok (.aload_n 0, 1) := by decide +kernel
theorem dX9_principal_1 : decode cX9_principal 1 = .ok (.iload_n 1, 1) := by decide +kernel
theorem dX9_principal_2 : decode cX9_principal 2 = .ok (.invokevirtual 102, 3) := by decide +kernel
theorem dX9_principal_5 : decode cX9_principal 5 = .ok (.ifCond .eq 11, 3) := by decide +kernel
theorem dX9_principal_8 : decode cX9_principal 8 = .ok (.aload_n 0, 1) := by decide +kernel
theorem dX9_principal_9 : decode cX9_principal 9 = .ok (.iload_n 2, 1) := by decide +kernel
theorem dX9_principal_10 : decode cX9_principal 10 = .ok (.invokevirtual 102, 3) := by decide +kernel
theorem dX9_principal_13 : decode cX9_principal 13 = .ok (.ifCond .ne 6, 3) := by decide +kernel
theorem dX9_principal_16 : decode cX9_principal 16 = .ok (.bipush (-2), 2) := by decide +kernel
theorem dX9_principal_18 : decode cX9_principal 18 = .ok (.ireturn, 1) := by decide +kernel
theorem dX9_principal_19 : decode cX9_principal 19 = .ok (.aload_n 0, 1) := by decide +kernel
theorem dX9_principal_20 : decode cX9_principal 20 = .ok (.invokevirtual 154, 3) := by decide +kernel
theorem dX9_principal_23 : decode cX9_principal 23 = .ok (.bipush (-9), 2) := by decide +kernel
theorem dX9_principal_25 : decode cX9_principal 25 = .ok (.istore_n 3, 1) := by decide +kernel
theorem dX9_principal_26 : decode cX9_principal 26 = .ok (.iconst 0, 1) := by decide +kernel
theorem dX9_principal_27 : decode cX9_principal 27 = .ok (.istore 4, 2) := by decide +kernel
theorem dX9_principal_29 : decode cX9_principal 29 = .ok (.iload 4, 2) := by decide +kernel
theorem dX9_principal_31 : decode cX9_principal 31 = .ok (.aload_n 0, 1) := by decide +kernel
theorem dX9_principal_32 : decode cX9_principal 32 = .ok (.getfield 145, 3) := by decide +kernel
theorem dX9_principal_35 : decode cX9_principal 35 = .ok (.if_icmp .ge 74, 3) := by decide +kernel
theorem dX9_principal_38 : decode cX9_principal 38 = .ok (.aload_n 0, 1) := by decide +kernel
theorem dX9_principal_39 : decode cX9_principal 39 = .ok (.aload_n 0, 1) := by decide +kernel
theorem dX9_principal_40 : decode cX9_principal 40 = .ok (.getfield 32, 3) := by decide +kernel
theorem dX9_principal_43 : decode cX9_principal 43 = .ok (.iload 4, 2) := by decide +kernel
theorem dX9_principal_45 : decode cX9_principal 45 = .ok (.iaload, 1) := by decide +kernel
theorem dX9_principal_46 : decode cX9_principal 46 = .ok (.iload_n 1, 1) := by decide +kernel
theorem dX9_principal_47 : decode cX9_principal 47 = .ok (.iload_n 2, 1) := by decide +kernel
theorem dX9_principal_48 : decode cX9_principal 48 = .ok (.invokevirtual 142, 3) := by decide +kernel
theorem dX9_principal_51 : decode cX9_principal 51 = .ok (.ifCond .eq 37, 3) := by decide +kernel
theorem dX9_principal_54 : decode cX9_principal 54 = .ok (.iload_n 3, 1) := by decide +kernel
theorem dX9_principal_55 : decode cX9_principal 55 = .ok (.bipush (-9), 2) := by decide +kernel
theorem dX9_principal_57 : decode cX9_principal 57 = .ok (.if_icmp .eq 27, 3) := by decide +kernel
theorem dX9_principal_60 : decode cX9_principal 60 = .ok (.aload_n 0, 1) := by decide +kernel
theorem dX9_principal_61 : decode cX9_principal 61 = .ok (.aload_n 0, 1) := by decide +kernel
theorem dX9_principal_62 : decode cX9_principal 62 = .ok (.getfield 32, 3) := by decide +kernel
theorem dX9_principal_65 : decode cX9_principal 65 = .ok (.iload 4, 2) := by decide +kernel
theorem dX9_principal_67 : decode cX9_principal 67 = .ok (.iaload, 1) := by decide +kernel
theorem dX9_principal_68 : decode cX9_principal 68 = .ok (.invokevirtual 160, 3) := by decide +kernel
theorem dX9_principal_71 : decode cX9_principal 71 = .ok (.aload_n 0, 1) := by decide +kernel
theorem dX9_principal_72 : decode cX9_principal 72 = .ok (.aload_n 0, 1) := by decide +kernel
theorem dX9_principal_73 : decode cX9_principal 73 = .ok (.getfield 32, 3) := by decide +kernel
theorem dX9_principal_76 : decode cX9_principal 76 = .ok (.iload_n 3, 1) := by decide +kernel
theorem dX9_principal_77 : decode cX9_principal 77 = .ok (.iaload, 1) := by decide +kernel
theorem dX9_principal_78 : decode cX9_principal 78 = .ok (.invokevirtual 160, 3) := by decide +kernel
theorem dX9_principal_81 : decode cX9_principal 81 = .ok (.if_icmp .le 7, 3) := by decide +kernel
theorem dX9_principal_84 : decode cX9_principal 84 = .ok (.iconst 1, 1) := by decide +kernel
theorem dX9_principal_85 : decode cX9_principal 85 = .ok (.goto 4, 3) := by decide +kernel
theorem dX9_principal_88 : decode cX9_principal 88 = .ok (.iconst 0, 1) := by decide +kernel
theorem dX9_principal_89 : decode cX9_principal 89 = .ok (.istore 5, 2) := by decide +kernel
theorem dX9_principal_91 : decode cX9_principal 91 = .ok (.iload 5, 2) := by decide +kernel
theorem dX9_principal_93 : decode cX9_principal 93 = .ok (.ifCond .eq 8, 3) := by decide +kernel
theorem dX9_principal_96 : decode cX9_principal 96 = .ok (.iload 4, 2) := by decide +kernel
theorem dX9_principal_98 : decode cX9_principal 98 = .ok (.goto 4, 3) := by decide +kernel
theorem dX9_principal_101 : decode cX9_principal 101 = .ok (.iload_n 3, 1) := by decide +kernel
theorem dX9_principal_102 : decode cX9_principal 102 = .ok (.istore_n 3, 1) := by decide +kernel
theorem dX9_principal_103 : decode cX9_principal 103 = .ok (.iinc 4 1, 3) := by decide +kernel
theorem dX9_principal_106 : decode cX9_principal 106 = .ok (.goto (-77), 3) := by decide +kernel
theorem dX9_principal_109 : decode cX9_principal 109 = .ok (.iload_n 3, 1) := by decide +kernel
theorem dX9_principal_110 : decode cX9_principal 110 = .ok (.ireturn, 1) := by decide +kernel
set_option maxRecDepth 20000 in
theorem ggX9_between_X9_isFiner : GoodIn wsX9_between wsX9_isFiner := goodIn_r _ [7, 8, 9, 10, 6, 11, 12, 13, 14, 15, 16, 17, 18, 19, 24, 25, 26, 27, 28, 29, 30, 31, 32, 33, 34, 35, 36, 37, 38, 39, 40, 41, 42, 43, 44] (by decide +kernel) (by decide +kernel)
set_option maxRecDepth 20000 in
theorem gX9_between_X9_isFiner : GoodIn wsX9_between (wsV RX9 163 RX9 yX9_isFiner wsX9_isFiner) := goodIn_app (goodIn_of _ (by decide +kernel)) ggX9_between_X9_isFiner
set_option maxRecDepth 20000 in
theorem ggX9_between_X9_blocks : GoodIn wsX9_between wsX9_blocks := goodIn_r _ [23, 8, 9, 10, 6, 11, 12, 17, 18, 19, 24, 25, 26, 27, 28, 29, 30, 31, 32, 33, 34, 35, 36, 37, 38, 39, 40, 41, 42, 43, 44] (by decide +kernel) (by decide +kernel)
set_option maxRecDepth 20000 in
theorem gX9_between_X9_blocks : GoodIn wsX9_between (wsV RX9 160 RX9 yX9_blocks wsX9_blocks) := goodIn_app (goodIn_of _ (by decide +kernel)) ggX9_between_X9_blocks
theorem dX9_between_0 : decode cX9_between 0 = .ok (.bipush (-9), 2) := by decide +kernel
theorem dX9_between_2 : decode cX9_between 2 = .ok (.istore 4, 2) := by decide +kernel
theorem dX9_between_4 : decode cX9_between 4 = .ok (.iconst 0, 1) := by decide +kernel
theorem dX9_between_5 : decode cX9_between 5 = .ok (.istore 5, 2) := by decide +kernel
theorem dX9_between_7 : decode cX9_between 7 = .ok (.iload 5, 2) := by decide +kernel
theorem dX9_between_9 : decode cX9_between 9 = .ok (.aload_n 0, 1) := by decide +kernel
theorem dX9_between_10 : decode cX9_between 10 = .ok (.getfield 145, 3) := by decide +kernel
theorem dX9_between_13 : decode cX9_between 13 = .ok (.if_icmp .ge 146, 3) := by decide +kernel
theorem dX9_between_16 : decode cX9_between 16 = .ok (.aload_n 0, 1) := by decide +kernel
theorem dX9_between_17 : decode cX9_between 17 = .ok (.getfield 32, 3) := by decide +kernel
theorem dX9_between_20 : decode cX9_between 20 = .ok (.iload 5, 2) := by decide +kernel
theorem dX9_between_22 : decode cX9_between 22 = .ok (.iaload, 1) := by decide +kernel
theorem dX9_between_23 : decode cX9_between 23 = .ok (.istore 6, 2) := by decide +kernel
theorem dX9_between_25 : decode cX9_between 25 = .ok (.iload_n 3, 1) := by decide +kernel
theorem dX9_between_26 : decode cX9_between 26 = .ok (.ifCond .eq 31, 3) := by decide +kernel
theorem dX9_between_29 : decode cX9_between 29 = .ok (.aload_n 0, 1) := by decide +kernel
theorem dX9_between_30 : decode cX9_between 30 = .ok (.iload_n 1, 1) := by decide +kernel
theorem dX9_between_31 : decode cX9_between 31 = .ok (.iload 6, 2) := by decide +kernel
theorem dX9_between_33 : decode cX9_between 33 = .ok (.invokevirtual 163, 3) := by decide +kernel
theorem dX9_between_36 : decode cX9_between 36 = .ok (.ifCond .eq 17, 3) := by decide +kernel
theorem dX9_between_39 : decode cX9_between 39 = .ok (.aload_n 0, 1) := by decide +kernel
theorem dX9_between_40 : decode cX9_between 40 = .ok (.iload_n 2, 1) := by decide +kernel
theorem dX9_between_41 : decode cX9_between 41 = .ok (.iload 6, 2) := by decide +kernel
theorem dX9_between_43 : decode cX9_between 43 = .ok (.invokevirtual 163, 3) := by decide +kernel
theorem dX9_between_46 : decode cX9_between 46 = .ok (.ifCond .eq 7, 3) := by decide +kernel
theorem dX9_between_49 : decode cX9_between 49 = .ok (.iconst 1, 1) := by decide +kernel
theorem dX9_between_50 : decode cX9_between 50 = .ok (.goto 32, 3) := by decide +kernel
theorem dX9_between_53 : decode cX9_between 53 = .ok (.iconst 0, 1) := by decide +kernel
theorem dX9_between_54 : decode cX9_between 54 = .ok (.goto 28, 3) := by decide +kernel
theorem dX9_between_57 : decode cX9_between 57 = .ok (.aload_n 0, 1) := by decide +kernel
theorem dX9_between_58 : decode cX9_between 58 = .ok (.iload 6, 2) := by decide +kernel
theorem dX9_between_60 : decode cX9_between 60 = .ok (.iload_n 1, 1) := by decide +kernel
theorem dX9_between_61 : decode cX9_between 61 = .ok (.invokevirtual 163, 3) := by decide +kernel
theorem dX9_between_64 : decode cX9_between 64 = .ok (.ifCond .eq 17, 3) := by decide +kernel
theorem dX9_between_67 : decode cX9_between 67 = .ok (.aload_n 0, 1) := by decide +kernel
theorem dX9_between_68 : decode cX9_between 68 = .ok (.iload 6, 2) := by decide +kernel
theorem dX9_between_70 : decode cX9_between 70 = .ok (.iload_n 2, 1) := by decide +kernel
theorem dX9_between_71 : decode cX9_between 71 = .ok (.invokevirtual 163, 3) := by decide +kernel
theorem dX9_between_74 : decode cX9_between 74 = .ok (.ifCond .eq 7, 3) := by decide +kernel
theorem dX9_between_77 : decode cX9_between 77 = .ok (.iconst 1, 1) := by decide +kernel
theorem dX9_between_78 : decode cX9_between 78 = .ok (.goto 4, 3) := by decide +kernel
theorem dX9_between_81 : decode cX9_between 81 = .ok (.iconst 0, 1) := by decide +kernel
theorem dX9_between_82 : decode cX9_between 82 = .ok (.istore 7, 2) := by decide +kernel
theorem dX9_between_84 : decode cX9_between 84 = .ok (.iload 4, 2) := by decide +kernel
theorem dX9_between_86 : decode cX9_between 86 = .ok (.bipush (-9), 2) := by decide +kernel
theorem dX9_between_88 : decode cX9_between 88 = .ok (.if_icmp .ne 7, 3) := by decide +kernel
theorem dX9_between_91 : decode cX9_between 91 = .ok (.iconst 1, 1) := by decide +kernel
theorem dX9_between_92 : decode cX9_between 92 = .ok (.goto 21, 3) := by decide +kernel
theorem dX9_between_95 : decode cX9_between 95 = .ok (.aload_n 0, 1) := by decide +kernel
theorem dX9_between_96 : decode cX9_between 96 = .ok (.iload 6, 2) := by decide +kernel
theorem dX9_between_98 : decode cX9_between 98 = .ok (.invokevirtual 160, 3) := by decide +kernel
theorem dX9_between_101 : decode cX9_between 101 = .ok (.aload_n 0, 1) := by decide +kernel
theorem dX9_between_102 : decode cX9_between 102 = .ok (.aload_n 0, 1) := by decide +kernel
theorem dX9_between_103 : decode cX9_between 103 = .ok (.getfield 32, 3) := by decide +kernel
theorem dX9_between_106 : decode cX9_between 106 = .ok (.iload 4, 2) := by decide +kernel
theorem dX9_between_108 : decode cX9_between 108 = .ok (.iaload, 1) := by decide +kernel
theorem dX9_between_109 : decode cX9_between 109 = .ok (.invokevirtual 160, 3) := by decide +kernel
theorem dX9_between_112 : decode cX9_between 112 = .ok (.isub, 1) := by decide +kernel
theorem dX9_between_113 : decode cX9_between 113 = .ok (.istore 8, 2) := by decide +kernel
theorem dX9_between_115 : decode cX9_between 115 = .ok (.iload 7, 2) := by decide +kernel
theorem dX9_between_117 : decode cX9_between 117 = .ok (.ifCond .eq 32, 3) := by decide +kernel
theorem dX9_between_120 : decode cX9_between 120 = .ok (.iload 4, 2) := by decide +kernel
theorem dX9_between_122 : decode cX9_between 122 = .ok (.bipush (-9), 2) := by decide +kernel
theorem dX9_between_124 : decode cX9_between 124 = .ok (.if_icmp .eq 20, 3) := by decide +kernel
theorem dX9_between_127 : decode cX9_between 127 = .ok (.iload_n 3, 1) := by decide +kernel
theorem dX9_between_128 : decode cX9_between 128 = .ok (.ifCond .eq 11, 3) := by decide +kernel
theorem dX9_between_131 : decode cX9_between 131 = .ok (.iload 8, 2) := by decide +kernel
theorem dX9_between_133 : decode cX9_between 133 = .ok (.ifCond .le 16, 3) := by decide +kernel
theorem dX9_between_136 : decode cX9_between 136 = .ok (.goto 8, 3) := by decide +kernel
theorem dX9_between_139 : decode cX9_between 139 = .ok (.iload 8, 2) := by decide +kernel
theorem dX9_between_141 : decode cX9_between 141 = .ok (.ifCond .ge 8, 3) := by decide +kernel
theorem dX9_between_144 : decode cX9_between 144 = .ok (.iload 5, 2) := by decide +kernel
theorem dX9_between_146 : decode cX9_between 146 = .ok (.goto 5, 3) := by decide +kernel
theorem dX9_between_149 : decode cX9_between 149 = .ok (.iload 4, 2) := by decide +kernel
theorem dX9_between_151 : decode cX9_between 151 = .ok (.istore 4, 2) := by decide +kernel
theorem dX9_between_153 : decode cX9_between 153 = .ok (.iinc 5 1, 3) := by decide +kernel
theorem dX9_between_156 : decode cX9_between 156 = .ok (.goto (-149), 3) := by decide +kernel
theorem dX9_between_159 : decode cX9_between 159 = .ok (.iload 4, 2) := by decide +kernel
theorem dX9_between_161 : decode cX9_between 161 = .ok (.ireturn, 1) := by decide +kernel
set_option maxRecDepth 20000 in
theorem ggX9_isThrough_X9_size : GoodIn wsX9_isThrough wsX9_size := goodIn_r _ [5, 6, 14, 15, 16, 17, 18, 19, 20, 21, 22, 23, 24, 25, 26, 27, 28, 29, 30, 31, 32, 33, 34] (by decide +kernel) (by decide +kernel)
set_option maxRecDepth 20000 in
theorem gX9_isThrough_X9_size : GoodIn wsX9_isThrough (wsV RX9 43 RX9 yX9_size wsX9_size) := goodIn_app (goodIn_of _ (by decide +kernel)) ggX9_isThrough_X9_size
set_option maxRecDepth 20000 in
theorem ggX9_isThrough_X9_isWith : GoodIn wsX9_isThrough wsX9_isWith := goodIn_r _ [10, 11, 12, 4, 13] (by decide +kernel) (by decide +kernel)
set_option maxRecDepth 20000 in
theorem gX9_isThrough_X9_isWith : GoodIn wsX9_isThrough (wsV RX9 142 RX9 yX9_isWith wsX9_isWith) := goodIn_app (goodIn_of _ (by decide +kernel)) ggX9_isThrough_X9_isWith
theorem dX9_isThrough_0 : decode cX9_isThrough 0 = .ok (.iconst 0, 1) := by decide +kernel
theorem dX9_isThrough_1 : decode cX9_isThrough 1 = .ok (.istore 5, 2) := by decide +kernel
theorem dX9_isThrough_3 : decode cX9_isThrough 3 = .ok (.iconst 0, 1) := by decide +kernel
theorem dX9_isThrough_4 : decode cX9_isThrough 4 = .ok (.istore 6, 2) := by decide +kernel
theorem dX9_isThrough_6 : decode cX9_isThrough 6 = .ok (.iload 6, 2) := by decide +kernel
theorem dX9_isThrough_8 : decode cX9_isThrough 8 = .ok (.aload_n 0, 1) := by decide +kernel
theorem dX9_isThrough_9 : decode cX9_isThrough 9 = .ok (.invokevirtual 43, 3) := by decide +kernel
theorem dX9_isThrough_12 : decode cX9_isThrough 12 = .ok (.if_icmp .ge 44, 3) := by decide +kernel
theorem dX9_isThrough_15 : decode cX9_isThrough 15 = .ok (.iload 5, 2) := by decide +kernel
theorem dX9_isThrough_17 : decode cX9_isThrough 17 = .ok (.ifCond .ne 26, 3) := by decide +kernel
theorem dX9_isThrough_20 : decode cX9_isThrough 20 = .ok (.aload_n 0, 1) := by decide +kernel
theorem dX9_isThrough_21 : decode cX9_isThrough 21 = .ok (.iload_n 1, 1) := by decide +kernel
theorem dX9_isThrough_22 : decode cX9_isThrough 22 = .ok (.iload_n 3, 1) := by decide +kernel
theorem dX9_isThrough_23 : decode cX9_isThrough 23 = .ok (.iload 6, 2) := by decide +kernel
theorem dX9_isThrough_25 : decode cX9_isThrough 25 = .ok (.invokevirtual 142, 3) := by decide +kernel
theorem dX9_isThrough_28 : decode cX9_isThrough 28 = .ok (.ifCond .eq 19, 3) := by decide +kernel
theorem dX9_isThrough_31 : decode cX9_isThrough 31 = .ok (.aload_n 0, 1) := by decide +kernel
theorem dX9_isThrough_32 : decode cX9_isThrough 32 = .ok (.iload_n 2, 1) := by decide +kernel
theorem dX9_isThrough_33 : decode cX9_isThrough 33 = .ok (.iload 6, 2) := by decide +kernel
theorem dX9_isThrough_35 : decode cX9_isThrough 35 = .ok (.iload 4, 2) := by decide +kernel
theorem dX9_isThrough_37 : decode cX9_isThrough 37 = .ok (.invokevirtual 142, 3) := by decide +kernel
theorem dX9_isThrough_40 : decode cX9_isThrough 40 = .ok (.ifCond .eq 7, 3) := by decide +kernel
theorem dX9_isThrough_43 : decode cX9_isThrough 43 = .ok (.iconst 1, 1) := by decide +kernel
theorem dX9_isThrough_44 : decode cX9_isThrough 44 = .ok (.goto 4, 3) := by decide +kernel
theorem dX9_isThrough_47 : decode cX9_isThrough 47 = .ok (.iconst 0, 1) := by decide +kernel
theorem dX9_isThrough_48 : decode cX9_isThrough 48 = .ok (.istore 5, 2) := by decide +kernel
theorem dX9_isThrough_50 : decode cX9_isThrough 50 = .ok (.iinc 6 1, 3) := by decide +kernel
theorem dX9_isThrough_53 : decode cX9_isThrough 53 = .ok (.goto (-47), 3) := by decide +kernel
theorem dX9_isThrough_56 : decode cX9_isThrough 56 = .ok (.iload 5, 2) := by decide +kernel
theorem dX9_isThrough_58 : decode cX9_isThrough 58 = .ok (.ireturn, 1) := by decide +kernel
set_option maxRecDepth 20000 in
theorem ggX9_permute_X9_size : GoodIn wsX9_permute wsX9_size := goodIn_r _ [5, 6, 18, 19, 20, 21, 22, 23, 24, 25, 26, 27, 28, 29, 30, 31, 32, 33, 34, 35, 36, 37, 38] (by decide +kernel) (by decide +kernel)
set_option maxRecDepth 20000 in
theorem gX9_permute_X9_size : GoodIn wsX9_permute (wsV RX9 43 RX9 yX9_size wsX9_size) := goodIn_app (goodIn_of _ (by decide +kernel)) ggX9_permute_X9_size
set_option maxRecDepth 20000 in
theorem ggX9_permute_X9_isThrough : GoodIn wsX9_permute wsX9_isThrough := goodIn_r _ [10, 1, 2, 3, 4, 5, 6, 11, 12, 13, 14, 15, 16, 17, 18, 19, 20, 21, 22, 23, 24, 25, 26, 27, 28, 29, 30, 31, 32, 33, 34, 35, 36, 37, 38] (by decide +kernel) (by decide +kernel)
set_option maxRecDepth 20000 in
theorem gX9_permute_X9_isThrough : GoodIn wsX9_permute (wsV RX9 166 RX9 yX9_isThrough wsX9_isThrough) := goodIn_app (goodIn_of _ (by decide +kernel)) ggX9_permute_X9_isThrough
theorem dX9_permute_0 : decode cX9_permute 0 = .ok (.iconst 1, 1) := by decide +kernel
theorem dX9_permute_1 : decode cX9_permute 1 = .ok (.istore_n 3, 1) := by decide +kernel
theorem dX9_permute_2 : decode cX9_permute 2 = .ok (.iconst 0, 1) := by decide +kernel
theorem dX9_permute_3 : decode cX9_permute 3 = .ok (.istore 4, 2) := by decide +kernel
theorem dX9_permute_5 : decode cX9_permute 5 = .ok (.iload 4, 2) := by decide +kernel
theorem dX9_permute_7 : decode cX9_permute 7 = .ok (.aload_n 0, 1) := by decide +kernel
theorem dX9_permute_8 : decode cX9_permute 8 = .ok (.invokevirtual 43, 3) := by decide +kernel
theorem dX9_permute_11 : decode cX9_permute 11 = .ok (.if_icmp .ge 63, 3) := by decide +kernel
theorem dX9_permute_14 : decode cX9_permute 14 = .ok (.iconst 0, 1) := by decide +kernel
theorem dX9_permute_15 : decode cX9_permute 15 = .ok (.istore 5, 2) := by decide +kernel
theorem dX9_permute_17 : decode cX9_permute 17 = .ok (.iload 5, 2) := by decide +kernel
theorem dX9_permute_19 : decode cX9_permute 19 = .ok (.aload_n 0, 1) := by decide +kernel
theorem dX9_permute_20 : decode cX9_permute 20 = .ok (.invokevirtual 43, 3) := by decide +kernel
theorem dX9_permute_23 : decode cX9_permute 23 = .ok (.if_icmp .ge 45, 3) := by decide +kernel
theorem dX9_permute_26 : decode cX9_permute 26 = .ok (.iload_n 3, 1) := by decide +kernel
theorem dX9_permute_27 : decode cX9_permute 27 = .ok (.ifCond .eq 33, 3) := by decide +kernel
theorem dX9_permute_30 : decode cX9_permute 30 = .ok (.aload_n 0, 1) := by decide +kernel
theorem dX9_permute_31 : decode cX9_permute 31 = .ok (.iload_n 1, 1) := by decide +kernel
theorem dX9_permute_32 : decode cX9_permute 32 = .ok (.iload_n 2, 1) := by decide +kernel
theorem dX9_permute_33 : decode cX9_permute 33 = .ok (.iload 4, 2) := by decide +kernel
theorem dX9_permute_35 : decode cX9_permute 35 = .ok (.iload 5, 2) := by decide +kernel
theorem dX9_permute_37 : decode cX9_permute 37 = .ok (.invokevirtual 166, 3) := by decide +kernel
theorem dX9_permute_40 : decode cX9_permute 40 = .ok (.ifCond .eq 16, 3) := by decide +kernel
theorem dX9_permute_43 : decode cX9_permute 43 = .ok (.aload_n 0, 1) := by decide +kernel
theorem dX9_permute_44 : decode cX9_permute 44 = .ok (.iload_n 2, 1) := by decide +kernel
theorem dX9_permute_45 : decode cX9_permute 45 = .ok (.iload_n 1, 1) := by decide +kernel
theorem dX9_permute_46 : decode cX9_permute 46 = .ok (.iload 4, 2) := by decide +kernel
theorem dX9_permute_48 : decode cX9_permute 48 = .ok (.iload 5, 2) := by decide +kernel
theorem dX9_permute_50 : decode cX9_permute 50 = .ok (.invokevirtual 166, 3) := by decide +kernel
theorem dX9_permute_53 : decode cX9_permute 53 = .ok (.ifCond .eq 7, 3) := by decide +kernel
theorem dX9_permute_56 : decode cX9_permute 56 = .ok (.iconst 1, 1) := by decide +kernel
theorem dX9_permute_57 : decode cX9_permute 57 = .ok (.goto 4, 3) := by decide +kernel
theorem dX9_permute_60 : decode cX9_permute 60 = .ok (.iconst 0, 1) := by decide +kernel
theorem dX9_permute_61 : decode cX9_permute 61 = .ok (.istore_n 3, 1) := by decide +kernel
theorem dX9_permute_62 : decode cX9_permute 62 = .ok (.iinc 5 1, 3) := by decide +kernel
theorem dX9_permute_65 : decode cX9_permute 65 = .ok (.goto (-48), 3) := by decide +kernel
theorem dX9_permute_68 : decode cX9_permute 68 = .ok (.iinc 4 1, 3) := by decide +kernel
theorem dX9_permute_71 : decode cX9_permute 71 = .ok (.goto (-66), 3) := by decide +kernel
theorem dX9_permute_74 : decode cX9_permute 74 = .ok (.iload_n 3, 1) := by decide +kernel
theorem dX9_permute_75 : decode cX9_permute 75 = .ok (.ireturn, 1) := by decide +kernel
set_option maxRecDepth 20000 in
theorem ggX9_pair_X9_layCongruences : GoodIn wsX9_pair wsX9_layCongruences := goodIn_r _ [7, 1, 2, 8, 9, 10, 6, 11, 12, 13, 14, 15, 16, 17, 18, 19, 20, 21, 22, 23, 24, 25, 26, 27, 28, 29, 30, 31, 32, 33, 34, 35, 59, 60, 61, 62, 63, 64, 65, 66, 67, 68, 69, 70, 71, 72, 73, 74, 75, 76, 77, 78, 79] (by decide +kernel) (by decide +kernel)
set_option maxRecDepth 20000 in
theorem gX9_pair_X9_layCongruences : GoodIn wsX9_pair (wsV RX9 154 RX9 yX9_layCongruences wsX9_layCongruences) := goodIn_app (goodIn_of _ (by decide +kernel)) ggX9_pair_X9_layCongruences
set_option maxRecDepth 20000 in
theorem ggX9_pair_X9_in : GoodIn wsX9_pair wsX9_in := goodIn_r _ [38] (by decide +kernel) (by decide +kernel)
set_option maxRecDepth 20000 in
theorem gX9_pair_X9_in : GoodIn wsX9_pair (va_wsS RX9 47 yX9_in wsX9_in) := goodIn_app (goodIn_of _ (by decide +kernel)) ggX9_pair_X9_in
set_option maxRecDepth 20000 in
theorem ggX9_pair_X9_between : GoodIn wsX9_pair wsX9_between := goodIn_r _ [42, 1, 2, 43, 44, 45, 6, 46, 15, 16, 17, 18, 19, 24, 25, 26, 27, 12, 13, 14, 47, 48, 49, 50, 59, 60, 61, 62, 63, 64, 65, 66, 67, 68, 69, 70, 71, 72, 73, 74, 75, 76, 77, 78, 79] (by decide +kernel) (by decide +kernel)
set_option maxRecDepth 20000 in
theorem gX9_pair_X9_between : GoodIn wsX9_pair (wsV RX9 169 RX9 yX9_between wsX9_between) := goodIn_app (goodIn_of _ (by decide +kernel)) ggX9_pair_X9_between
set_option maxRecDepth 20000 in
theorem ggX9_pair_X9_permute : GoodIn wsX9_pair wsX9_permute := goodIn_r _ [54, 15, 16, 17, 6, 18, 19, 55, 56, 57, 58, 24, 25, 26, 27, 12, 13, 14, 59, 60, 61, 62, 63, 64, 65, 66, 67, 68, 69, 70, 71, 72, 73, 74, 75, 76, 77, 78, 79] (by decide +kernel) (by decide +kernel)
set_option maxRecDepth 20000 in
theorem gX9_pair_X9_permute : GoodIn wsX9_pair (wsV RX9 173 RX9 yX9_permute wsX9_permute) := goodIn_app (goodIn_of _ (by decide +kernel)) ggX9_pair_X9_permute
set_option maxRecDepth 20000 in
theorem ggX9_pair_X9_isFiner : GoodIn wsX9_pair wsX9_isFiner := goodIn_r _ [46, 15, 16, 17, 6, 18, 19, 24, 25, 26, 27, 12, 13, 14, 59, 60, 61, 62, 63, 64, 65, 66, 67, 68, 69, 70, 71, 72, 73, 74, 75, 76, 77, 78, 79] (by decide +kernel) (by decide +kernel)
set_option maxRecDepth 20000 in
theorem gX9_pair_X9_isFiner : GoodIn wsX9_pair (wsV RX9 163 RX9 yX9_isFiner wsX9_isFiner) := goodIn_app (goodIn_of _ (by decide +kernel)) ggX9_pair_X9_isFiner
theorem dX9_pair_0 : decode cX9_pair 0 = .ok (.aload_n 0, 1) := by decide +kernel
theorem dX9_pair_1 : decode cX9_pair 1 = .ok (.invokevirtual 154, 3) := by decide +kernel
theorem dX9_pair_4 : decode cX9_pair 4 = .ok (.iload_n 1, 1) := by decide +kernel
theorem dX9_pair_5 : decode cX9_pair 5 = .ok (.iconst 0, 1) := by decide +kernel
theorem dX9_pair_6 : decode cX9_pair 6 = .ok (.aload_n 0, 1) := by decide +kernel
theorem dX9_pair_7 : decode cX9_pair 7 = .ok (.getfield 145, 3) := by decide +kernel
theorem dX9_pair_10 : decode cX9_pair 10 = .ok (.iconst 1, 1) := by decide +kernel
theorem dX9_pair_11 : decode cX9_pair 11 = .ok (.isub, 1) := by decide +kernel
theorem dX9_pair_12 : decode cX9_pair 12 = .ok (.invokestatic 47, 3) := by decide +kernel
theorem dX9_pair_15 : decode cX9_pair 15 = .ok (.ifCond .eq 26, 3) := by decide +kernel
theorem dX9_pair_18 : decode cX9_pair 18 = .ok (.iload_n 2, 1) := by decide +kernel
theorem dX9_pair_19 : decode cX9_pair 19 = .ok (.iconst 0, 1) := by decide +kernel
theorem dX9_pair_20 : decode cX9_pair 20 = .ok (.aload_n 0, 1) := by decide +kernel
theorem dX9_pair_21 : decode cX9_pair 21 = .ok (.getfield 145, 3) := by decide +kernel
theorem dX9_pair_24 : decode cX9_pair 24 = .ok (.iconst 1, 1) := by decide +kernel
theorem dX9_pair_25 : decode cX9_pair 25 = .ok (.isub, 1) := by decide +kernel
theorem dX9_pair_26 : decode cX9_pair 26 = .ok (.invokestatic 47, 3) := by decide +kernel
theorem dX9_pair_29 : decode cX9_pair 29 = .ok (.ifCond .eq 12, 3) := by decide +kernel
theorem dX9_pair_32 : decode cX9_pair 32 = .ok (.iload_n 3, 1) := by decide +kernel
theorem dX9_pair_33 : decode cX9_pair 33 = .ok (.iconst 0, 1) := by decide +kernel
theorem dX9_pair_34 : decode cX9_pair 34 = .ok (.iconst 3, 1) := by decide +kernel
theorem dX9_pair_35 : decode cX9_pair 35 = .ok (.invokestatic 47, 3) := by decide +kernel
theorem dX9_pair_38 : decode cX9_pair 38 = .ok (.ifCond .ne 6, 3) := by decide +kernel
theorem dX9_pair_41 : decode cX9_pair 41 = .ok (.bipush (-2), 2) := by decide +kernel
theorem dX9_pair_43 : decode cX9_pair 43 = .ok (.ireturn, 1) := by decide +kernel
theorem dX9_pair_44 : decode cX9_pair 44 = .ok (.aload_n 0, 1) := by decide +kernel
theorem dX9_pair_45 : decode cX9_pair 45 = .ok (.getfield 32, 3) := by decide +kernel
theorem dX9_pair_48 : decode cX9_pair 48 = .ok (.iload_n 1, 1) := by decide +kernel
theorem dX9_pair_49 : decode cX9_pair 49 = .ok (.iaload, 1) := by decide +kernel
theorem dX9_pair_50 : decode cX9_pair 50 = .ok (.istore 4, 2) := by decide +kernel
theorem dX9_pair_52 : decode cX9_pair 52 = .ok (.aload_n 0, 1) := by decide +kernel
theorem dX9_pair_53 : decode cX9_pair 53 = .ok (.getfield 32, 3) := by decide +kernel
theorem dX9_pair_56 : decode cX9_pair 56 = .ok (.iload_n 2, 1) := by decide +kernel
theorem dX9_pair_57 : decode cX9_pair 57 = .ok (.iaload, 1) := by decide +kernel
theorem dX9_pair_58 : decode cX9_pair 58 = .ok (.istore 5, 2) := by decide +kernel
theorem dX9_pair_60 : decode cX9_pair 60 = .ok (.iload_n 3, 1) := by decide +kernel
theorem dX9_pair_61 : decode cX9_pair 61 = .ok (.iconst 2, 1) := by decide +kernel
theorem dX9_pair_62 : decode cX9_pair 62 = .ok (.if_icmp .ge 23, 3) := by decide +kernel
theorem dX9_pair_65 : decode cX9_pair 65 = .ok (.aload_n 0, 1) := by decide +kernel
theorem dX9_pair_66 : decode cX9_pair 66 = .ok (.iload 4, 2) := by decide +kernel
theorem dX9_pair_68 : decode cX9_pair 68 = .ok (.iload 5, 2) := by decide +kernel
theorem dX9_pair_70 : decode cX9_pair 70 = .ok (.iload_n 3, 1) := by decide +kernel
theorem dX9_pair_71 : decode cX9_pair 71 = .ok (.ifCond .ne 7, 3) := by decide +kernel
theorem dX9_pair_74 : decode cX9_pair 74 = .ok (.iconst 1, 1) := by decide +kernel
theorem dX9_pair_75 : decode cX9_pair 75 = .ok (.goto 4, 3) := by decide +kernel
theorem dX9_pair_78 : decode cX9_pair 78 = .ok (.iconst 0, 1) := by decide +kernel
theorem dX9_pair_79 : decode cX9_pair 79 = .ok (.invokevirtual 169, 3) := by decide +kernel
theorem dX9_pair_82 : decode cX9_pair 82 = .ok (.goto 38, 3) := by decide +kernel
theorem dX9_pair_85 : decode cX9_pair 85 = .ok (.iload_n 3, 1) := by decide +kernel
theorem dX9_pair_86 : decode cX9_pair 86 = .ok (.iconst 2, 1) := by decide +kernel
theorem dX9_pair_87 : decode cX9_pair 87 = .ok (.if_icmp .ne 17, 3) := by decide +kernel
theorem dX9_pair_90 : decode cX9_pair 90 = .ok (.aload_n 0, 1) := by decide +kernel
theorem dX9_pair_91 : decode cX9_pair 91 = .ok (.iload 4, 2) := by decide +kernel
theorem dX9_pair_93 : decode cX9_pair 93 = .ok (.iload 5, 2) := by decide +kernel
theorem dX9_pair_95 : decode cX9_pair 95 = .ok (.invokevirtual 173, 3) := by decide +kernel
theorem dX9_pair_98 : decode cX9_pair 98 = .ok (.ifCond .eq 21, 3) := by decide +kernel
theorem dX9_pair_101 : decode cX9_pair 101 = .ok (.goto 14, 3) := by decide +kernel
theorem dX9_pair_104 : decode cX9_pair 104 = .ok (.aload_n 0, 1) := by decide +kernel
theorem dX9_pair_105 : decode cX9_pair 105 = .ok (.iload 4, 2) := by decide +kernel
theorem dX9_pair_107 : decode cX9_pair 107 = .ok (.iload 5, 2) := by decide +kernel
theorem dX9_pair_109 : decode cX9_pair 109 = .ok (.invokevirtual 163, 3) := by decide +kernel
theorem dX9_pair_112 : decode cX9_pair 112 = .ok (.ifCond .eq 7, 3) := by decide +kernel
theorem dX9_pair_115 : decode cX9_pair 115 = .ok (.iconst 1, 1) := by decide +kernel
theorem dX9_pair_116 : decode cX9_pair 116 = .ok (.goto 4, 3) := by decide +kernel
theorem dX9_pair_119 : decode cX9_pair 119 = .ok (.iconst 0, 1) := by decide +kernel
theorem dX9_pair_120 : decode cX9_pair 120 = .ok (.ireturn, 1) := by decide +kernel
theorem dX9_to_0 : decode cX9_to 0 = .ok (.iload_n 0, 1) := by decide +kernel
theorem dX9_to_1 : decode cX9_to 1 = .ok (.iconst 2, 1) := by decide +kernel
theorem dX9_to_2 : decode cX9_to 2 = .ok (.iload_n 1, 1) := by decide +kernel
theorem dX9_to_3 : decode cX9_to 3 = .ok (.imul, 1) := by decide +kernel
theorem dX9_to_4 : decode cX9_to 4 = .ok (.ishr, 1) := by decide +kernel
theorem dX9_to_5 : decode cX9_to 5 = .ok (.iconst 3, 1) := by decide +kernel
theorem dX9_to_6 : decode cX9_to 6 = .ok (.iand, 1) := by decide +kernel
theorem dX9_to_7 : decode cX9_to 7 = .ok (.ireturn, 1) := by decide +kernel
set_option maxRecDepth 20000 in
theorem ggX9_isMap_X9_size : GoodIn wsX9_isMap wsX9_size := goodIn_r _ [5, 6, 18, 19, 20, 21, 22, 23, 24, 25, 26, 27, 28, 29, 30, 31, 32, 33, 34, 35, 36, 37, 38] (by decide +kernel) (by decide +kernel)
set_option maxRecDepth 20000 in
theorem gX9_isMap_X9_size : GoodIn wsX9_isMap (wsV RX9 43 RX9 yX9_size wsX9_size) := goodIn_app (goodIn_of _ (by decide +kernel)) ggX9_isMap_X9_size
set_option maxRecDepth 20000 in
theorem ggX9_isMap_X9_to : GoodIn wsX9_isMap wsX9_to := goodIn_r _ [9] (by decide +kernel) (by decide +kernel)
set_option maxRecDepth 20000 in
theorem gX9_isMap_X9_to : GoodIn wsX9_isMap (va_wsS RX9 176 yX9_to wsX9_to) := goodIn_app (goodIn_of _ (by decide +kernel)) ggX9_isMap_X9_to
set_option maxRecDepth 20000 in
theorem ggX9_isMap_X9_gg : GoodIn wsX9_isMap wsX9_gg := goodIn_r _ [13, 6, 18, 19, 20, 21, 22, 23, 24, 25, 26, 27, 28, 29, 30, 31, 32, 33, 34, 35, 36, 37, 38] (by decide +kernel) (by decide +kernel)
set_option maxRecDepth 20000 in
theorem gX9_isMap_X9_gg : GoodIn wsX9_isMap (wsV RX9 110 RX9 yX9_gg wsX9_gg) := goodIn_app (goodIn_of _ (by decide +kernel)) ggX9_isMap_X9_gg
set_option maxRecDepth 20000 in
theorem ggX9_isMap_X9_ff : GoodIn wsX9_isMap wsX9_ff := goodIn_r _ [17, 6, 18, 19, 20, 21, 22, 23, 24, 25, 26, 27, 28, 29, 30, 31, 32, 33, 34, 35, 36, 37, 38] (by decide +kernel) (by decide +kernel)
set_option maxRecDepth 20000 in
theorem gX9_isMap_X9_ff : GoodIn wsX9_isMap (wsV RX9 106 RX9 yX9_ff wsX9_ff) := goodIn_app (goodIn_of _ (by decide +kernel)) ggX9_isMap_X9_ff
theorem dX9_isMap_0 : decode cX9_isMap 0 = .ok (.iconst 1, 1) := by decide +kernel
theorem dX9_isMap_1 : decode cX9_isMap 1 = .ok (.istore_n 2, 1) := by decide +kernel
theorem dX9_isMap_2 : decode cX9_isMap 2 = .ok (.iconst 0, 1) := by decide +kernel
theorem dX9_isMap_3 : decode cX9_isMap 3 = .ok (.istore_n 3, 1) := by decide +kernel
theorem dX9_isMap_4 : decode cX9_isMap 4 = .ok (.iload_n 3, 1) := by decide +kernel
theorem dX9_isMap_5 : decode cX9_isMap 5 = .ok (.iconst 4, 1) := by decide +kernel
theorem dX9_isMap_6 : decode cX9_isMap 6 = .ok (.if_icmp .ge 50, 3) := by decide +kernel
theorem dX9_isMap_9 : decode cX9_isMap 9 = .ok (.iload_n 2, 1) := by decide +kernel
theorem dX9_isMap_10 : decode cX9_isMap 10 = .ok (.ifCond .eq 38, 3) := by decide +kernel
theorem dX9_isMap_13 : decode cX9_isMap 13 = .ok (.iload_n 3, 1) := by decide +kernel
theorem dX9_isMap_14 : decode cX9_isMap 14 = .ok (.aload_n 0, 1) := by decide +kernel
theorem dX9_isMap_15 : decode cX9_isMap 15 = .ok (.invokevirtual 43, 3) := by decide +kernel
theorem dX9_isMap_18 : decode cX9_isMap 18 = .ok (.if_icmp .ge 18, 3) := by decide +kernel
theorem dX9_isMap_21 : decode cX9_isMap 21 = .ok (.iload_n 1, 1) := by decide +kernel
theorem dX9_isMap_22 : decode cX9_isMap 22 = .ok (.iload_n 3, 1) := by decide +kernel
theorem dX9_isMap_23 : decode cX9_isMap 23 = .ok (.invokestatic 176, 3) := by decide +kernel
theorem dX9_isMap_26 : decode cX9_isMap 26 = .ok (.aload_n 0, 1) := by decide +kernel
theorem dX9_isMap_27 : decode cX9_isMap 27 = .ok (.invokevirtual 43, 3) := by decide +kernel
theorem dX9_isMap_30 : decode cX9_isMap 30 = .ok (.if_icmp .ge 18, 3) := by decide +kernel
theorem dX9_isMap_33 : decode cX9_isMap 33 = .ok (.goto 11, 3) := by decide +kernel
theorem dX9_isMap_36 : decode cX9_isMap 36 = .ok (.iload_n 1, 1) := by decide +kernel
theorem dX9_isMap_37 : decode cX9_isMap 37 = .ok (.iload_n 3, 1) := by decide +kernel
theorem dX9_isMap_38 : decode cX9_isMap 38 = .ok (.invokestatic 176, 3) := by decide +kernel
theorem dX9_isMap_41 : decode cX9_isMap 41 = .ok (.ifCond .ne 7, 3) := by decide +kernel
theorem dX9_isMap_44 : decode cX9_isMap 44 = .ok (.iconst 1, 1) := by decide +kernel
theorem dX9_isMap_45 : decode cX9_isMap 45 = .ok (.goto 4, 3) := by decide +kernel
theorem dX9_isMap_48 : decode cX9_isMap 48 = .ok (.iconst 0, 1) := by decide +kernel
theorem dX9_isMap_49 : decode cX9_isMap 49 = .ok (.istore_n 2, 1) := by decide +kernel
theorem dX9_isMap_50 : decode cX9_isMap 50 = .ok (.iinc 3 1, 3) := by decide +kernel
theorem dX9_isMap_53 : decode cX9_isMap 53 = .ok (.goto (-49), 3) := by decide +kernel
theorem dX9_isMap_56 : decode cX9_isMap 56 = .ok (.iconst 0, 1) := by decide +kernel
theorem dX9_isMap_57 : decode cX9_isMap 57 = .ok (.istore_n 3, 1) := by decide +kernel
theorem dX9_isMap_58 : decode cX9_isMap 58 = .ok (.iload_n 2, 1) := by decide +kernel
theorem dX9_isMap_59 : decode cX9_isMap 59 = .ok (.ifCond .eq 101, 3) := by decide +kernel
theorem dX9_isMap_62 : decode cX9_isMap 62 = .ok (.iload_n 3, 1) := by decide +kernel
theorem dX9_isMap_63 : decode cX9_isMap 63 = .ok (.aload_n 0, 1) := by decide +kernel
theorem dX9_isMap_64 : decode cX9_isMap 64 = .ok (.invokevirtual 43, 3) := by decide +kernel
theorem dX9_isMap_67 : decode cX9_isMap 67 = .ok (.if_icmp .ge 93, 3) := by decide +kernel
theorem dX9_isMap_70 : decode cX9_isMap 70 = .ok (.iload_n 1, 1) := by decide +kernel
theorem dX9_isMap_71 : decode cX9_isMap 71 = .ok (.aload_n 0, 1) := by decide +kernel
theorem dX9_isMap_72 : decode cX9_isMap 72 = .ok (.iload_n 3, 1) := by decide +kernel
theorem dX9_isMap_73 : decode cX9_isMap 73 = .ok (.invokevirtual 110, 3) := by decide +kernel
theorem dX9_isMap_76 : decode cX9_isMap 76 = .ok (.invokestatic 176, 3) := by decide +kernel
theorem dX9_isMap_79 : decode cX9_isMap 79 = .ok (.aload_n 0, 1) := by decide +kernel
theorem dX9_isMap_80 : decode cX9_isMap 80 = .ok (.iload_n 1, 1) := by decide +kernel
theorem dX9_isMap_81 : decode cX9_isMap 81 = .ok (.iload_n 3, 1) := by decide +kernel
theorem dX9_isMap_82 : decode cX9_isMap 82 = .ok (.invokestatic 176, 3) := by decide +kernel
theorem dX9_isMap_85 : decode cX9_isMap 85 = .ok (.invokevirtual 110, 3) := by decide +kernel
theorem dX9_isMap_88 : decode cX9_isMap 88 = .ok (.if_icmp .ne 7, 3) := by decide +kernel
theorem dX9_isMap_91 : decode cX9_isMap 91 = .ok (.iconst 1, 1) := by decide +kernel
theorem dX9_isMap_92 : decode cX9_isMap 92 = .ok (.goto 4, 3) := by decide +kernel
theorem dX9_isMap_95 : decode cX9_isMap 95 = .ok (.iconst 0, 1) := by decide +kernel
theorem dX9_isMap_96 : decode cX9_isMap 96 = .ok (.istore_n 2, 1) := by decide +kernel
theorem dX9_isMap_97 : decode cX9_isMap 97 = .ok (.iconst 0, 1) := by decide +kernel
theorem dX9_isMap_98 : decode cX9_isMap 98 = .ok (.istore 4, 2) := by decide +kernel
theorem dX9_isMap_100 : decode cX9_isMap 100 = .ok (.iload_n 2, 1) := by decide +kernel
theorem dX9_isMap_101 : decode cX9_isMap 101 = .ok (.ifCond .eq 53, 3) := by decide +kernel
theorem dX9_isMap_104 : decode cX9_isMap 104 = .ok (.iload 4, 2) := by decide +kernel
theorem dX9_isMap_106 : decode cX9_isMap 106 = .ok (.aload_n 0, 1) := by decide +kernel
theorem dX9_isMap_107 : decode cX9_isMap 107 = .ok (.invokevirtual 43, 3) := by decide +kernel
theorem dX9_isMap_110 : decode cX9_isMap 110 = .ok (.if_icmp .ge 44, 3) := by decide +kernel
theorem dX9_isMap_113 : decode cX9_isMap 113 = .ok (.iload_n 1, 1) := by decide +kernel
theorem dX9_isMap_114 : decode cX9_isMap 114 = .ok (.aload_n 0, 1) := by decide +kernel
theorem dX9_isMap_115 : decode cX9_isMap 115 = .ok (.iload_n 3, 1) := by decide +kernel
theorem dX9_isMap_116 : decode cX9_isMap 116 = .ok (.iload 4, 2) := by decide +kernel
theorem dX9_isMap_118 : decode cX9_isMap 118 = .ok (.invokevirtual 106, 3) := by decide +kernel
theorem dX9_isMap_121 : decode cX9_isMap 121 = .ok (.invokestatic 176, 3) := by decide +kernel
theorem dX9_isMap_124 : decode cX9_isMap 124 = .ok (.aload_n 0, 1) := by decide +kernel
theorem dX9_isMap_125 : decode cX9_isMap 125 = .ok (.iload_n 1, 1) := by decide +kernel
theorem dX9_isMap_126 : decode cX9_isMap 126 = .ok (.iload_n 3, 1) := by decide +kernel
theorem dX9_isMap_127 : decode cX9_isMap 127 = .ok (.invokestatic 176, 3) := by decide +kernel
theorem dX9_isMap_130 : decode cX9_isMap 130 = .ok (.iload_n 1, 1) := by decide +kernel
theorem dX9_isMap_131 : decode cX9_isMap 131 = .ok (.iload 4, 2) := by decide +kernel
theorem dX9_isMap_133 : decode cX9_isMap 133 = .ok (.invokestatic 176, 3) := by decide +kernel
theorem dX9_isMap_136 : decode cX9_isMap 136 = .ok (.invokevirtual 106, 3) := by decide +kernel
theorem dX9_isMap_139 : decode cX9_isMap 139 = .ok (.if_icmp .ne 7, 3) := by decide +kernel
theorem dX9_isMap_142 : decode cX9_isMap 142 = .ok (.iconst 1, 1) := by decide +kernel
theorem dX9_isMap_143 : decode cX9_isMap 143 = .ok (.goto 4, 3) := by decide +kernel
theorem dX9_isMap_146 : decode cX9_isMap 146 = .ok (.iconst 0, 1) := by decide +kernel
theorem dX9_isMap_147 : decode cX9_isMap 147 = .ok (.istore_n 2, 1) := by decide +kernel
theorem dX9_isMap_148 : decode cX9_isMap 148 = .ok (.iinc 4 1, 3) := by decide +kernel
theorem dX9_isMap_151 : decode cX9_isMap 151 = .ok (.goto (-51), 3) := by decide +kernel
theorem dX9_isMap_154 : decode cX9_isMap 154 = .ok (.iinc 3 1, 3) := by decide +kernel
theorem dX9_isMap_157 : decode cX9_isMap 157 = .ok (.goto (-99), 3) := by decide +kernel
theorem dX9_isMap_160 : decode cX9_isMap 160 = .ok (.iload_n 2, 1) := by decide +kernel
theorem dX9_isMap_161 : decode cX9_isMap 161 = .ok (.ireturn, 1) := by decide +kernel
set_option maxRecDepth 20000 in
theorem ggX9_maps_X9_size : GoodIn wsX9_maps wsX9_size := goodIn_r _ [5, 6, 26, 27, 28, 29, 30, 31, 32, 33, 34, 35, 36, 37, 38, 39, 40, 41, 42, 43, 44, 45, 46] (by decide +kernel) (by decide +kernel)
set_option maxRecDepth 20000 in
theorem gX9_maps_X9_size : GoodIn wsX9_maps (wsV RX9 43 RX9 yX9_size wsX9_size) := goodIn_app (goodIn_of _ (by decide +kernel)) ggX9_maps_X9_size
set_option maxRecDepth 20000 in
theorem ggX9_maps_X9_to : GoodIn wsX9_maps wsX9_to := goodIn_r _ [9] (by decide +kernel) (by decide +kernel)
set_option maxRecDepth 20000 in
theorem gX9_maps_X9_to : GoodIn wsX9_maps (va_wsS RX9 176 yX9_to wsX9_to) := goodIn_app (goodIn_of _ (by decide +kernel)) ggX9_maps_X9_to
set_option maxRecDepth 20000 in
theorem ggX9_maps_X9_isMap : GoodIn wsX9_maps wsX9_isMap := goodIn_r _ [13, 1, 2, 3, 4, 5, 6, 7, 8, 9, 14, 15, 16, 17, 18, 19, 20, 21, 26, 27, 28, 29, 30, 31, 32, 33, 34, 35, 36, 37, 38, 39, 40, 41, 42, 43, 44, 45, 46] (by decide +kernel) (by decide +kernel)
set_option maxRecDepth 20000 in
theorem gX9_maps_X9_isMap : GoodIn wsX9_maps (wsV RX9 179 RX9 yX9_isMap wsX9_isMap) := goodIn_app (goodIn_of _ (by decide +kernel)) ggX9_maps_X9_isMap
set_option maxRecDepth 20000 in
theorem ggX9_maps_X9_setMany : GoodIn wsX9_maps wsX9_setMany := goodIn_r _ [25, 1, 2, 3, 4, 5, 6, 26, 27, 28, 29, 30, 31, 32, 33, 34, 35, 36, 37, 38, 39, 40, 41, 42, 43, 44, 45, 46] (by decide +kernel) (by decide +kernel)
set_option maxRecDepth 20000 in
theorem gX9_maps_X9_setMany : GoodIn wsX9_maps (wsV RX9 120 RX9 yX9_setMany wsX9_setMany) := goodIn_app (goodIn_of _ (by decide +kernel)) ggX9_maps_X9_setMany
theorem dX9_maps_0 : decode cX9_maps 0 = .ok (.iconst 0, 1) := by decide +kernel
theorem dX9_maps_1 : decode cX9_maps 1 = .ok (.istore_n 2, 1) := by decide +kernel
theorem dX9_maps_2 : decode cX9_maps 2 = .ok (.iconst 0, 1) := by decide +kernel
theorem dX9_maps_3 : decode cX9_maps 3 = .ok (.istore_n 3, 1) := by decide +kernel
theorem dX9_maps_4 : decode cX9_maps 4 = .ok (.iload_n 3, 1) := by decide +kernel
theorem dX9_maps_5 : decode cX9_maps 5 = .ok (.sipush 256, 3) := by decide +kernel
theorem dX9_maps_8 : decode cX9_maps 8 = .ok (.if_icmp .ge 74, 3) := by decide +kernel
theorem dX9_maps_11 : decode cX9_maps 11 = .ok (.iconst 0, 1) := by decide +kernel
theorem dX9_maps_12 : decode cX9_maps 12 = .ok (.istore 4, 2) := by decide +kernel
theorem dX9_maps_14 : decode cX9_maps 14 = .ok (.iconst 0, 1) := by decide +kernel
theorem dX9_maps_15 : decode cX9_maps 15 = .ok (.istore 5, 2) := by decide +kernel
theorem dX9_maps_17 : decode cX9_maps 17 = .ok (.iload 5, 2) := by decide +kernel
theorem dX9_maps_19 : decode cX9_maps 19 = .ok (.aload_n 0, 1) := by decide +kernel
theorem dX9_maps_20 : decode cX9_maps 20 = .ok (.invokevirtual 43, 3) := by decide +kernel
theorem dX9_maps_23 : decode cX9_maps 23 = .ok (.if_icmp .ge 22, 3) := by decide +kernel
theorem dX9_maps_26 : decode cX9_maps 26 = .ok (.iload 4, 2) := by decide +kernel
theorem dX9_maps_28 : decode cX9_maps 28 = .ok (.iconst 1, 1) := by decide +kernel
theorem dX9_maps_29 : decode cX9_maps 29 = .ok (.iload_n 3, 1) := by decide +kernel
theorem dX9_maps_30 : decode cX9_maps 30 = .ok (.iload 5, 2) := by decide +kernel
theorem dX9_maps_32 : decode cX9_maps 32 = .ok (.invokestatic 176, 3) := by decide +kernel
theorem dX9_maps_35 : decode cX9_maps 35 = .ok (.ishl, 1) := by decide +kernel
theorem dX9_maps_36 : decode cX9_maps 36 = .ok (.ior, 1) := by decide +kernel
theorem dX9_maps_37 : decode cX9_maps 37 = .ok (.istore 4, 2) := by decide +kernel
theorem dX9_maps_39 : decode cX9_maps 39 = .ok (.iinc 5 1, 3) := by decide +kernel
theorem dX9_maps_42 : decode cX9_maps 42 = .ok (.goto (-25), 3) := by decide +kernel
theorem dX9_maps_45 : decode cX9_maps 45 = .ok (.iload_n 2, 1) := by decide +kernel
theorem dX9_maps_46 : decode cX9_maps 46 = .ok (.aload_n 0, 1) := by decide +kernel
theorem dX9_maps_47 : decode cX9_maps 47 = .ok (.iload_n 3, 1) := by decide +kernel
theorem dX9_maps_48 : decode cX9_maps 48 = .ok (.invokevirtual 179, 3) := by decide +kernel
theorem dX9_maps_51 : decode cX9_maps 51 = .ok (.ifCond .eq 22, 3) := by decide +kernel
theorem dX9_maps_54 : decode cX9_maps 54 = .ok (.iload_n 1, 1) := by decide +kernel
theorem dX9_maps_55 : decode cX9_maps 55 = .ok (.ifCond .eq 14, 3) := by decide +kernel
theorem dX9_maps_58 : decode cX9_maps 58 = .ok (.iload 4, 2) := by decide +kernel
theorem dX9_maps_60 : decode cX9_maps 60 = .ok (.aload_n 0, 1) := by decide +kernel
theorem dX9_maps_61 : decode cX9_maps 61 = .ok (.invokevirtual 120, 3) := by decide +kernel
theorem dX9_maps_64 : decode cX9_maps 64 = .ok (.iconst 1, 1) := by decide +kernel
theorem dX9_maps_65 : decode cX9_maps 65 = .ok (.isub, 1) := by decide +kernel
theorem dX9_maps_66 : decode cX9_maps 66 = .ok (.if_icmp .ne 7, 3) := by decide +kernel
theorem dX9_maps_69 : decode cX9_maps 69 = .ok (.iconst 1, 1) := by decide +kernel
theorem dX9_maps_70 : decode cX9_maps 70 = .ok (.goto 4, 3) := by decide +kernel
theorem dX9_maps_73 : decode cX9_maps 73 = .ok (.iconst 0, 1) := by decide +kernel
theorem dX9_maps_74 : decode cX9_maps 74 = .ok (.iadd, 1) := by decide +kernel
theorem dX9_maps_75 : decode cX9_maps 75 = .ok (.istore_n 2, 1) := by decide +kernel
theorem dX9_maps_76 : decode cX9_maps 76 = .ok (.iinc 3 1, 3) := by decide +kernel
theorem dX9_maps_79 : decode cX9_maps 79 = .ok (.goto (-75), 3) := by decide +kernel
theorem dX9_maps_82 : decode cX9_maps 82 = .ok (.iload_n 2, 1) := by decide +kernel
theorem dX9_maps_83 : decode cX9_maps 83 = .ok (.ireturn, 1) := by decide +kernel
theorem dX9_isTerm_0 : decode cX9_isTerm 0 = .ok (.iconst 0, 1) := by decide +kernel
theorem dX9_isTerm_1 : decode cX9_isTerm 1 = .ok (.istore_n 3, 1) := by decide +kernel
theorem dX9_isTerm_2 : decode cX9_isTerm 2 = .ok (.iload_n 3, 1) := by decide +kernel
theorem dX9_isTerm_3 : decode cX9_isTerm 3 = .ok (.aload_n 0, 1) := by decide +kernel
theorem dX9_isTerm_4 : decode cX9_isTerm 4 = .ok (.getfield 182, 3) := by decide +kernel
theorem dX9_isTerm_7 : decode cX9_isTerm 7 = .ok (.if_icmp .ge 22, 3) := by decide +kernel
theorem dX9_isTerm_10 : decode cX9_isTerm 10 = .ok (.aload_n 0, 1) := by decide +kernel
theorem dX9_isTerm_11 : decode cX9_isTerm 11 = .ok (.getfield 35, 3) := by decide +kernel
theorem dX9_isTerm_14 : decode cX9_isTerm 14 = .ok (.iload_n 3, 1) := by decide +kernel
theorem dX9_isTerm_15 : decode cX9_isTerm 15 = .ok (.laload, 1) := by decide +kernel
theorem dX9_isTerm_16 : decode cX9_isTerm 16 = .ok (.lload_n 1, 1) := by decide +kernel
theorem dX9_isTerm_17 : decode cX9_isTerm 17 = .ok (.lcmp, 1) := by decide +kernel
theorem dX9_isTerm_18 : decode cX9_isTerm 18 = .ok (.ifCond .ne 5, 3) := by decide +kernel
theorem dX9_isTerm_21 : decode cX9_isTerm 21 = .ok (.iconst 1, 1) := by decide +kernel
theorem dX9_isTerm_22 : decode cX9_isTerm 22 = .ok (.ireturn, 1) := by decide +kernel
theorem dX9_isTerm_23 : decode cX9_isTerm 23 = .ok (.iinc 3 1, 3) := by decide +kernel
theorem dX9_isTerm_26 : decode cX9_isTerm 26 = .ok (.goto (-24), 3) := by decide +kernel
theorem dX9_isTerm_29 : decode cX9_isTerm 29 = .ok (.iconst 0, 1) := by decide +kernel
theorem dX9_isTerm_30 : decode cX9_isTerm 30 = .ok (.ireturn, 1) := by decide +kernel
set_option maxRecDepth 20000 in
theorem ggX9_comes_X9_isTerm : GoodIn wsX9_comes wsX9_isTerm := goodIn_r _ [7, 2, 1, 8, 9, 10, 11, 12, 13, 14, 15, 16, 17, 18, 19, 20, 21, 22, 23, 24, 25, 26, 27, 28] (by decide +kernel) (by decide +kernel)
set_option maxRecDepth 20000 in
theorem gX9_comes_X9_isTerm : GoodIn wsX9_comes (wsV RX9 185 RX9 yX9_isTerm wsX9_isTerm) := goodIn_app (goodIn_of _ (by decide +kernel)) ggX9_comes_X9_isTerm
theorem dX9_comes_0 : decode cX9_comes 0 = .ok (.aload_n 0, 1) := by decide +kernel
theorem dX9_comes_1 : decode cX9_comes 1 = .ok (.lload_n 1, 1) := by decide +kernel
theorem dX9_comes_2 : decode cX9_comes 2 = .ok (.invokevirtual 185, 3) := by decide +kernel
theorem dX9_comes_5 : decode cX9_comes 5 = .ok (.ifCond .ne 23, 3) := by decide +kernel
theorem dX9_comes_8 : decode cX9_comes 8 = .ok (.aload_n 0, 1) := by decide +kernel
theorem dX9_comes_9 : decode cX9_comes 9 = .ok (.getfield 35, 3) := by decide +kernel
theorem dX9_comes_12 : decode cX9_comes 12 = .ok (.aload_n 0, 1) := by decide +kernel
theorem dX9_comes_13 : decode cX9_comes 13 = .ok (.getfield 182, 3) := by decide +kernel
theorem dX9_comes_16 : decode cX9_comes 16 = .ok (.lload_n 1, 1) := by decide +kernel
theorem dX9_comes_17 : decode cX9_comes 17 = .ok (.lastore, 1) := by decide +kernel
theorem dX9_comes_18 : decode cX9_comes 18 = .ok (.aload_n 0, 1) := by decide +kernel
theorem dX9_comes_19 : decode cX9_comes 19 = .ok (.dup, 1) := by decide +kernel
theorem dX9_comes_20 : decode cX9_comes 20 = .ok (.getfield 182, 3) := by decide +kernel
theorem dX9_comes_23 : decode cX9_comes 23 = .ok (.iconst 1, 1) := by decide +kernel
theorem dX9_comes_24 : decode cX9_comes 24 = .ok (.iadd, 1) := by decide +kernel
theorem dX9_comes_25 : decode cX9_comes 25 = .ok (.putfield 182, 3) := by decide +kernel
theorem dX9_comes_28 : decode cX9_comes 28 = .ok (.return_, 1) := by decide +kernel
set_option maxRecDepth 20000 in
theorem ggX9_fOf_X9_ff : GoodIn wsX9_fOf wsX9_ff := goodIn_r _ [6, 7, 8, 9, 10, 11, 12, 13, 14, 15, 16, 17, 18, 19, 20, 21, 22, 23, 24, 25, 26, 27, 28] (by decide +kernel) (by decide +kernel)
set_option maxRecDepth 20000 in
theorem gX9_fOf_X9_ff : GoodIn wsX9_fOf (wsV RX9 106 RX9 yX9_ff wsX9_ff) := goodIn_app (goodIn_of _ (by decide +kernel)) ggX9_fOf_X9_ff
theorem dX9_fOf_0 : decode cX9_fOf 0 = .ok (.lconst 0, 1) := by decide +kernel
theorem dX9_fOf_1 : decode cX9_fOf 1 = .ok (.lstore 6, 2) := by decide +kernel
theorem dX9_fOf_3 : decode cX9_fOf 3 = .ok (.iconst 0, 1) := by decide +kernel
theorem dX9_fOf_4 : decode cX9_fOf 4 = .ok (.istore 8, 2) := by decide +kernel
theorem dX9_fOf_6 : decode cX9_fOf 6 = .ok (.iload 8, 2) := by decide +kernel
theorem dX9_fOf_8 : decode cX9_fOf 8 = .ok (.iload 5, 2) := by decide +kernel
theorem dX9_fOf_10 : decode cX9_fOf 10 = .ok (.if_icmp .ge 46, 3) := by decide +kernel
theorem dX9_fOf_13 : decode cX9_fOf 13 = .ok (.lload 6, 2) := by decide +kernel
theorem dX9_fOf_15 : decode cX9_fOf 15 = .ok (.aload_n 0, 1) := by decide +kernel
theorem dX9_fOf_16 : decode cX9_fOf 16 = .ok (.lload_n 1, 1) := by decide +kernel
theorem dX9_fOf_17 : decode cX9_fOf 17 = .ok (.iconst 2, 1) := by decide +kernel
theorem dX9_fOf_18 : decode cX9_fOf 18 = .ok (.iload 8, 2) := by decide +kernel
theorem dX9_fOf_20 : decode cX9_fOf 20 = .ok (.imul, 1) := by decide +kernel
theorem dX9_fOf_21 : decode cX9_fOf 21 = .ok (.lshr, 1) := by decide +kernel
theorem dX9_fOf_22 : decode cX9_fOf 22 = .ok (.ldc2_w 189, 3) := by decide +kernel
theorem dX9_fOf_25 : decode cX9_fOf 25 = .ok (.land, 1) := by decide +kernel
theorem dX9_fOf_26 : decode cX9_fOf 26 = .ok (.l2i, 1) := by decide +kernel
theorem dX9_fOf_27 : decode cX9_fOf 27 = .ok (.lload_n 3, 1) := by decide +kernel
theorem dX9_fOf_28 : decode cX9_fOf 28 = .ok (.iconst 2, 1) := by decide +kernel
theorem dX9_fOf_29 : decode cX9_fOf 29 = .ok (.iload 8, 2) := by decide +kernel
theorem dX9_fOf_31 : decode cX9_fOf 31 = .ok (.imul, 1) := by decide +kernel
theorem dX9_fOf_32 : decode cX9_fOf 32 = .ok (.lshr, 1) := by decide +kernel
theorem dX9_fOf_33 : decode cX9_fOf 33 = .ok (.ldc2_w 189, 3) := by decide +kernel
theorem dX9_fOf_36 : decode cX9_fOf 36 = .ok (.land, 1) := by decide +kernel
theorem dX9_fOf_37 : decode cX9_fOf 37 = .ok (.l2i, 1) := by decide +kernel
theorem dX9_fOf_38 : decode cX9_fOf 38 = .ok (.invokevirtual 106, 3) := by decide +kernel
theorem dX9_fOf_41 : decode cX9_fOf 41 = .ok (.i2l, 1) := by decide +kernel
theorem dX9_fOf_42 : decode cX9_fOf 42 = .ok (.iconst 2, 1) := by decide +kernel
theorem dX9_fOf_43 : decode cX9_fOf 43 = .ok (.iload 8, 2) := by decide +kernel
theorem dX9_fOf_45 : decode cX9_fOf 45 = .ok (.imul, 1) := by decide +kernel
theorem dX9_fOf_46 : decode cX9_fOf 46 = .ok (.lshl, 1) := by decide +kernel
theorem dX9_fOf_47 : decode cX9_fOf 47 = .ok (.lor, 1) := by decide +kernel
theorem dX9_fOf_48 : decode cX9_fOf 48 = .ok (.lstore 6, 2) := by decide +kernel
theorem dX9_fOf_50 : decode cX9_fOf 50 = .ok (.iinc 8 1, 3) := by decide +kernel
theorem dX9_fOf_53 : decode cX9_fOf 53 = .ok (.goto (-47), 3) := by decide +kernel
theorem dX9_fOf_56 : decode cX9_fOf 56 = .ok (.lload 6, 2) := by decide +kernel
theorem dX9_fOf_58 : decode cX9_fOf 58 = .ok (.lreturn, 1) := by decide +kernel
set_option maxRecDepth 20000 in
theorem ggX9_gOf_X9_gg : GoodIn wsX9_gOf wsX9_gg := goodIn_r _ [6, 7, 8, 9, 10, 11, 12, 13, 14, 15, 16, 17, 18, 19, 20, 21, 22, 23, 24, 25, 26, 27, 28] (by decide +kernel) (by decide +kernel)
set_option maxRecDepth 20000 in
theorem gX9_gOf_X9_gg : GoodIn wsX9_gOf (wsV RX9 110 RX9 yX9_gg wsX9_gg) := goodIn_app (goodIn_of _ (by decide +kernel)) ggX9_gOf_X9_gg
theorem dX9_gOf_0 : decode cX9_gOf 0 = .ok (.lconst 0, 1) := by decide +kernel
theorem dX9_gOf_1 : decode cX9_gOf 1 = .ok (.lstore 4, 2) := by decide +kernel
theorem dX9_gOf_3 : decode cX9_gOf 3 = .ok (.iconst 0, 1) := by decide +kernel
theorem dX9_gOf_4 : decode cX9_gOf 4 = .ok (.istore 6, 2) := by decide +kernel
theorem dX9_gOf_6 : decode cX9_gOf 6 = .ok (.iload 6, 2) := by decide +kernel
theorem dX9_gOf_8 : decode cX9_gOf 8 = .ok (.iload_n 3, 1) := by decide +kernel
theorem dX9_gOf_9 : decode cX9_gOf 9 = .ok (.if_icmp .ge 35, 3) := by decide +kernel
theorem dX9_gOf_12 : decode cX9_gOf 12 = .ok (.lload 4, 2) := by decide +kernel
theorem dX9_gOf_14 : decode cX9_gOf 14 = .ok (.aload_n 0, 1) := by decide +kernel
theorem dX9_gOf_15 : decode cX9_gOf 15 = .ok (.lload_n 1, 1) := by decide +kernel
theorem dX9_gOf_16 : decode cX9_gOf 16 = .ok (.iconst 2, 1) := by decide +kernel
theorem dX9_gOf_17 : decode cX9_gOf 17 = .ok (.iload 6, 2) := by decide +kernel
theorem dX9_gOf_19 : decode cX9_gOf 19 = .ok (.imul, 1) := by decide +kernel
theorem dX9_gOf_20 : decode cX9_gOf 20 = .ok (.lshr, 1) := by decide +kernel
theorem dX9_gOf_21 : decode cX9_gOf 21 = .ok (.ldc2_w 189, 3) := by decide +kernel
theorem dX9_gOf_24 : decode cX9_gOf 24 = .ok (.land, 1) := by decide +kernel
theorem dX9_gOf_25 : decode cX9_gOf 25 = .ok (.l2i, 1) := by decide +kernel
theorem dX9_gOf_26 : decode cX9_gOf 26 = .ok (.invokevirtual 110, 3) := by decide +kernel
theorem dX9_gOf_29 : decode cX9_gOf 29 = .ok (.i2l, 1) := by decide +kernel
theorem dX9_gOf_30 : decode cX9_gOf 30 = .ok (.iconst 2, 1) := by decide +kernel
theorem dX9_gOf_31 : decode cX9_gOf 31 = .ok (.iload 6, 2) := by decide +kernel
theorem dX9_gOf_33 : decode cX9_gOf 33 = .ok (.imul, 1) := by decide +kernel
theorem dX9_gOf_34 : decode cX9_gOf 34 = .ok (.lshl, 1) := by decide +kernel
theorem dX9_gOf_35 : decode cX9_gOf 35 = .ok (.lor, 1) := by decide +kernel
theorem dX9_gOf_36 : decode cX9_gOf 36 = .ok (.lstore 4, 2) := by decide +kernel
theorem dX9_gOf_38 : decode cX9_gOf 38 = .ok (.iinc 6 1, 3) := by decide +kernel
theorem dX9_gOf_41 : decode cX9_gOf 41 = .ok (.goto (-35), 3) := by decide +kernel
theorem dX9_gOf_44 : decode cX9_gOf 44 = .ok (.lload 4, 2) := by decide +kernel
theorem dX9_gOf_46 : decode cX9_gOf 46 = .ok (.lreturn, 1) := by decide +kernel
set_option maxRecDepth 20000 in
theorem ggX9_goesRound_X9_gOf : GoodIn wsX9_goesRound wsX9_gOf := goodIn_r _ [7, 8, 9, 10, 11, 6, 12, 13, 30, 31, 32, 33, 34, 35, 36, 37, 38, 39, 40, 41, 42, 43, 44, 45, 46, 47, 48, 49, 50] (by decide +kernel) (by decide +kernel)
set_option maxRecDepth 20000 in
theorem gX9_goesRound_X9_gOf : GoodIn wsX9_goesRound (wsV RX9 191 RX9 yX9_gOf wsX9_gOf) := goodIn_app (goodIn_of _ (by decide +kernel)) ggX9_goesRound_X9_gOf
set_option maxRecDepth 20000 in
theorem ggX9_goesRound_X9_comes : GoodIn wsX9_goesRound wsX9_comes := goodIn_r _ [17, 2, 1, 18, 19, 20, 6, 21, 30, 31, 32, 33, 34, 35, 36, 37, 38, 39, 40, 41, 42, 43, 44, 45, 46, 47, 48, 49, 50] (by decide +kernel) (by decide +kernel)
set_option maxRecDepth 20000 in
theorem gX9_goesRound_X9_comes : GoodIn wsX9_goesRound (wsV RX9 195 RX9 yX9_comes wsX9_comes) := goodIn_app (goodIn_of _ (by decide +kernel)) ggX9_goesRound_X9_comes
set_option maxRecDepth 20000 in
theorem ggX9_goesRound_X9_fOf : GoodIn wsX9_goesRound wsX9_fOf := goodIn_r _ [25, 8, 26, 27, 28, 6, 29, 13, 30, 31, 32, 33, 34, 35, 36, 37, 38, 39, 40, 41, 42, 43, 44, 45, 46, 47, 48, 49, 50] (by decide +kernel) (by decide +kernel)
set_option maxRecDepth 20000 in
theorem gX9_goesRound_X9_fOf : GoodIn wsX9_goesRound (wsV RX9 199 RX9 yX9_fOf wsX9_fOf) := goodIn_app (goodIn_of _ (by decide +kernel)) ggX9_goesRound_X9_fOf
theorem dX9_goesRound_0 : decode cX9_goesRound 0 = .ok (.aload_n 0, 1) := by decide +kernel
theorem dX9_goesRound_1 : decode cX9_goesRound 1 = .ok (.getfield 182, 3) := by decide +kernel
theorem dX9_goesRound_4 : decode cX9_goesRound 4 = .ok (.istore_n 2, 1) := by decide +kernel
theorem dX9_goesRound_5 : decode cX9_goesRound 5 = .ok (.iconst 0, 1) := by decide +kernel
theorem dX9_goesRound_6 : decode cX9_goesRound 6 = .ok (.istore_n 3, 1) := by decide +kernel
theorem dX9_goesRound_7 : decode cX9_goesRound 7 = .ok (.iload_n 3, 1) := by decide +kernel
theorem dX9_goesRound_8 : decode cX9_goesRound 8 = .ok (.iload_n 2, 1) := by decide +kernel
theorem dX9_goesRound_9 : decode cX9_goesRound 9 = .ok (.if_icmp .ge 81, 3) := by decide +kernel
theorem dX9_goesRound_12 : decode cX9_goesRound 12 = .ok (.aload_n 0, 1) := by decide +kernel
theorem dX9_goesRound_13 : decode cX9_goesRound 13 = .ok (.getfield 182, 3) := by decide +kernel
theorem dX9_goesRound_16 : decode cX9_goesRound 16 = .ok (.sipush 200, 3) := by decide +kernel
theorem dX9_goesRound_19 : decode cX9_goesRound 19 = .ok (.if_icmp .gt 71, 3) := by decide +kernel
theorem dX9_goesRound_22 : decode cX9_goesRound 22 = .ok (.aload_n 0, 1) := by decide +kernel
theorem dX9_goesRound_23 : decode cX9_goesRound 23 = .ok (.aload_n 0, 1) := by decide +kernel
theorem dX9_goesRound_24 : decode cX9_goesRound 24 = .ok (.aload_n 0, 1) := by decide +kernel
theorem dX9_goesRound_25 : decode cX9_goesRound 25 = .ok (.getfield 35, 3) := by decide +kernel
theorem dX9_goesRound_28 : decode cX9_goesRound 28 = .ok (.iload_n 3, 1) := by decide +kernel
theorem dX9_goesRound_29 : decode cX9_goesRound 29 = .ok (.laload, 1) := by decide +kernel
theorem dX9_goesRound_30 : decode cX9_goesRound 30 = .ok (.iload_n 1, 1) := by decide +kernel
theorem dX9_goesRound_31 : decode cX9_goesRound 31 = .ok (.invokevirtual 191, 3) := by decide +kernel
theorem dX9_goesRound_34 : decode cX9_goesRound 34 = .ok (.invokevirtual 195, 3) := by decide +kernel
theorem dX9_goesRound_37 : decode cX9_goesRound 37 = .ok (.iconst 0, 1) := by decide +kernel
theorem dX9_goesRound_38 : decode cX9_goesRound 38 = .ok (.istore 4, 2) := by decide +kernel
theorem dX9_goesRound_40 : decode cX9_goesRound 40 = .ok (.iload 4, 2) := by decide +kernel
theorem dX9_goesRound_42 : decode cX9_goesRound 42 = .ok (.iload_n 2, 1) := by decide +kernel
theorem dX9_goesRound_43 : decode cX9_goesRound 43 = .ok (.if_icmp .ge 41, 3) := by decide +kernel
theorem dX9_goesRound_46 : decode cX9_goesRound 46 = .ok (.aload_n 0, 1) := by decide +kernel
theorem dX9_goesRound_47 : decode cX9_goesRound 47 = .ok (.getfield 182, 3) := by decide +kernel
theorem dX9_goesRound_50 : decode cX9_goesRound 50 = .ok (.sipush 200, 3) := by decide +kernel
theorem dX9_goesRound_53 : decode cX9_goesRound 53 = .ok (.if_icmp .gt 31, 3) := by decide +kernel
theorem dX9_goesRound_56 : decode cX9_goesRound 56 = .ok (.aload_n 0, 1) := by decide +kernel
theorem dX9_goesRound_57 : decode cX9_goesRound 57 = .ok (.aload_n 0, 1) := by decide +kernel
theorem dX9_goesRound_58 : decode cX9_goesRound 58 = .ok (.aload_n 0, 1) := by decide +kernel
theorem dX9_goesRound_59 : decode cX9_goesRound 59 = .ok (.getfield 35, 3) := by decide +kernel
theorem dX9_goesRound_62 : decode cX9_goesRound 62 = .ok (.iload_n 3, 1) := by decide +kernel
theorem dX9_goesRound_63 : decode cX9_goesRound 63 = .ok (.laload, 1) := by decide +kernel
theorem dX9_goesRound_64 : decode cX9_goesRound 64 = .ok (.aload_n 0, 1) := by decide +kernel
theorem dX9_goesRound_65 : decode cX9_goesRound 65 = .ok (.getfield 35, 3) := by decide +kernel
theorem dX9_goesRound_68 : decode cX9_goesRound 68 = .ok (.iload 4, 2) := by decide +kernel
theorem dX9_goesRound_70 : decode cX9_goesRound 70 = .ok (.laload, 1) := by decide +kernel
theorem dX9_goesRound_71 : decode cX9_goesRound 71 = .ok (.iload_n 1, 1) := by decide +kernel
theorem dX9_goesRound_72 : decode cX9_goesRound 72 = .ok (.invokevirtual 199, 3) := by decide +kernel
theorem dX9_goesRound_75 : decode cX9_goesRound 75 = .ok (.invokevirtual 195, 3) := by decide +kernel
theorem dX9_goesRound_78 : decode cX9_goesRound 78 = .ok (.iinc 4 1, 3) := by decide +kernel
theorem dX9_goesRound_81 : decode cX9_goesRound 81 = .ok (.goto (-41), 3) := by decide +kernel
theorem dX9_goesRound_84 : decode cX9_goesRound 84 = .ok (.iinc 3 1, 3) := by decide +kernel
theorem dX9_goesRound_87 : decode cX9_goesRound 87 = .ok (.goto (-80), 3) := by decide +kernel
theorem dX9_goesRound_90 : decode cX9_goesRound 90 = .ok (.aload_n 0, 1) := by decide +kernel
theorem dX9_goesRound_91 : decode cX9_goesRound 91 = .ok (.getfield 182, 3) := by decide +kernel
theorem dX9_goesRound_94 : decode cX9_goesRound 94 = .ok (.iload_n 2, 1) := by decide +kernel
theorem dX9_goesRound_95 : decode cX9_goesRound 95 = .ok (.if_icmp .le 7, 3) := by decide +kernel
theorem dX9_goesRound_98 : decode cX9_goesRound 98 = .ok (.iconst 1, 1) := by decide +kernel
theorem dX9_goesRound_99 : decode cX9_goesRound 99 = .ok (.goto 4, 3) := by decide +kernel
theorem dX9_goesRound_102 : decode cX9_goesRound 102 = .ok (.iconst 0, 1) := by decide +kernel
theorem dX9_goesRound_103 : decode cX9_goesRound 103 = .ok (.ireturn, 1) := by decide +kernel
set_option maxRecDepth 20000 in
theorem ggX9_letterRow_X9_size : GoodIn wsX9_letterRow wsX9_size := goodIn_r _ [5, 6, 10, 11, 12, 13, 14, 15, 16, 17, 18, 19, 20, 21, 22, 23, 24, 25, 26, 27, 28, 29, 30] (by decide +kernel) (by decide +kernel)
set_option maxRecDepth 20000 in
theorem gX9_letterRow_X9_size : GoodIn wsX9_letterRow (wsV RX9 43 RX9 yX9_size wsX9_size) := goodIn_app (goodIn_of _ (by decide +kernel)) ggX9_letterRow_X9_size
set_option maxRecDepth 20000 in
theorem ggX9_letterRow_X9_has : GoodIn wsX9_letterRow wsX9_has := goodIn_r _ [9] (by decide +kernel) (by decide +kernel)
set_option maxRecDepth 20000 in
theorem gX9_letterRow_X9_has : GoodIn wsX9_letterRow (va_wsS RX9 117 yX9_has wsX9_has) := goodIn_app (goodIn_of _ (by decide +kernel)) ggX9_letterRow_X9_has
theorem dX9_letterRow_0 : decode cX9_letterRow 0 = .ok (.aload_n 0, 1) := by decide +kernel
theorem dX9_letterRow_1 : decode cX9_letterRow 1 = .ok (.invokevirtual 43, 3) := by decide +kernel
theorem dX9_letterRow_4 : decode cX9_letterRow 4 = .ok (.istore_n 3, 1) := by decide +kernel
theorem dX9_letterRow_5 : decode cX9_letterRow 5 = .ok (.lconst 0, 1) := by decide +kernel
theorem dX9_letterRow_6 : decode cX9_letterRow 6 = .ok (.lstore 4, 2) := by decide +kernel
theorem dX9_letterRow_8 : decode cX9_letterRow 8 = .ok (.iconst 0, 1) := by decide +kernel
theorem dX9_letterRow_9 : decode cX9_letterRow 9 = .ok (.istore 6, 2) := by decide +kernel
theorem dX9_letterRow_11 : decode cX9_letterRow 11 = .ok (.iconst 0, 1) := by decide +kernel
theorem dX9_letterRow_12 : decode cX9_letterRow 12 = .ok (.istore 7, 2) := by decide +kernel
theorem dX9_letterRow_14 : decode cX9_letterRow 14 = .ok (.iload 7, 2) := by decide +kernel
theorem dX9_letterRow_16 : decode cX9_letterRow 16 = .ok (.iload_n 3, 1) := by decide +kernel
theorem dX9_letterRow_17 : decode cX9_letterRow 17 = .ok (.iload_n 3, 1) := by decide +kernel
theorem dX9_letterRow_18 : decode cX9_letterRow 18 = .ok (.imul, 1) := by decide +kernel
theorem dX9_letterRow_19 : decode cX9_letterRow 19 = .ok (.if_icmp .ge 62, 3) := by decide +kernel
theorem dX9_letterRow_22 : decode cX9_letterRow 22 = .ok (.iconst 0, 1) := by decide +kernel
theorem dX9_letterRow_23 : decode cX9_letterRow 23 = .ok (.istore 8, 2) := by decide +kernel
theorem dX9_letterRow_25 : decode cX9_letterRow 25 = .ok (.iload 8, 2) := by decide +kernel
theorem dX9_letterRow_27 : decode cX9_letterRow 27 = .ok (.iload_n 1, 1) := by decide +kernel
theorem dX9_letterRow_28 : decode cX9_letterRow 28 = .ok (.if_icmp .ge 47, 3) := by decide +kernel
theorem dX9_letterRow_31 : decode cX9_letterRow 31 = .ok (.iload_n 2, 1) := by decide +kernel
theorem dX9_letterRow_32 : decode cX9_letterRow 32 = .ok (.iload 8, 2) := by decide +kernel
theorem dX9_letterRow_34 : decode cX9_letterRow 34 = .ok (.invokestatic 117, 3) := by decide +kernel
theorem dX9_letterRow_37 : decode cX9_letterRow 37 = .ok (.ifCond .eq 10, 3) := by decide +kernel
theorem dX9_letterRow_40 : decode cX9_letterRow 40 = .ok (.iload 7, 2) := by decide +kernel
theorem dX9_letterRow_42 : decode cX9_letterRow 42 = .ok (.iload_n 3, 1) := by decide +kernel
theorem dX9_letterRow_43 : decode cX9_letterRow 43 = .ok (.irem, 1) := by decide +kernel
theorem dX9_letterRow_44 : decode cX9_letterRow 44 = .ok (.goto 7, 3) := by decide +kernel
theorem dX9_letterRow_47 : decode cX9_letterRow 47 = .ok (.iload 7, 2) := by decide +kernel
theorem dX9_letterRow_49 : decode cX9_letterRow 49 = .ok (.iload_n 3, 1) := by decide +kernel
theorem dX9_letterRow_50 : decode cX9_letterRow 50 = .ok (.idiv, 1) := by decide +kernel
theorem dX9_letterRow_51 : decode cX9_letterRow 51 = .ok (.istore 9, 2) := by decide +kernel
theorem dX9_letterRow_53 : decode cX9_letterRow 53 = .ok (.lload 4, 2) := by decide +kernel
theorem dX9_letterRow_55 : decode cX9_letterRow 55 = .ok (.iload 9, 2) := by decide +kernel
theorem dX9_letterRow_57 : decode cX9_letterRow 57 = .ok (.i2l, 1) := by decide +kernel
theorem dX9_letterRow_58 : decode cX9_letterRow 58 = .ok (.iconst 2, 1) := by decide +kernel
theorem dX9_letterRow_59 : decode cX9_letterRow 59 = .ok (.iload 6, 2) := by decide +kernel
theorem dX9_letterRow_61 : decode cX9_letterRow 61 = .ok (.imul, 1) := by decide +kernel
theorem dX9_letterRow_62 : decode cX9_letterRow 62 = .ok (.lshl, 1) := by decide +kernel
theorem dX9_letterRow_63 : decode cX9_letterRow 63 = .ok (.lor, 1) := by decide +kernel
theorem dX9_letterRow_64 : decode cX9_letterRow 64 = .ok (.lstore 4, 2) := by decide +kernel
theorem dX9_letterRow_66 : decode cX9_letterRow 66 = .ok (.iinc 6 1, 3) := by decide +kernel
theorem dX9_letterRow_69 : decode cX9_letterRow 69 = .ok (.iinc 8 1, 3) := by decide +kernel
theorem dX9_letterRow_72 : decode cX9_letterRow 72 = .ok (.goto (-47), 3) := by decide +kernel
theorem dX9_letterRow_75 : decode cX9_letterRow 75 = .ok (.iinc 7 1, 3) := by decide +kernel
theorem dX9_letterRow_78 : decode cX9_letterRow 78 = .ok (.goto (-64), 3) := by decide +kernel
theorem dX9_letterRow_81 : decode cX9_letterRow 81 = .ok (.lload 4, 2) := by decide +kernel
theorem dX9_letterRow_83 : decode cX9_letterRow 83 = .ok (.lreturn, 1) := by decide +kernel
set_option maxRecDepth 20000 in
theorem ggX9_free_X9_in : GoodIn wsX9_free wsX9_in := goodIn_r _ [6] (by decide +kernel) (by decide +kernel)
set_option maxRecDepth 20000 in
theorem gX9_free_X9_in : GoodIn wsX9_free (va_wsS RX9 47 yX9_in wsX9_in) := goodIn_app (goodIn_of _ (by decide +kernel)) ggX9_free_X9_in
set_option maxRecDepth 20000 in
theorem ggX9_free_X9_size : GoodIn wsX9_free wsX9_size := goodIn_r _ [10, 11, 49, 50, 51, 52, 53, 54, 55, 56, 57, 58, 59, 60, 61, 62, 63, 64, 65, 66, 67, 68, 69] (by decide +kernel) (by decide +kernel)
set_option maxRecDepth 20000 in
theorem gX9_free_X9_size : GoodIn wsX9_free (wsV RX9 43 RX9 yX9_size wsX9_size) := goodIn_app (goodIn_of _ (by decide +kernel)) ggX9_free_X9_size
set_option maxRecDepth 20000 in
theorem ggX9_free_X9_letterRow : GoodIn wsX9_free wsX9_letterRow := goodIn_r _ [15, 7, 8, 9, 5, 10, 11, 16, 17, 18, 49, 50, 51, 52, 53, 54, 55, 56, 57, 58, 59, 60, 61, 62, 63, 64, 65, 66, 67, 68, 69] (by decide +kernel) (by decide +kernel)
set_option maxRecDepth 20000 in
theorem gX9_free_X9_letterRow : GoodIn wsX9_free (wsV RX9 206 RX9 yX9_letterRow wsX9_letterRow) := goodIn_app (goodIn_of _ (by decide +kernel)) ggX9_free_X9_letterRow
set_option maxRecDepth 20000 in
theorem ggX9_free_X9_comes : GoodIn wsX9_free wsX9_comes := goodIn_r _ [22, 23, 1, 24, 25, 26, 5, 27, 49, 50, 51, 52, 53, 54, 55, 56, 57, 58, 59, 60, 61, 62, 63, 64, 65, 66, 67, 68, 69] (by decide +kernel) (by decide +kernel)
set_option maxRecDepth 20000 in
theorem gX9_free_X9_comes : GoodIn wsX9_free (wsV RX9 195 RX9 yX9_comes wsX9_comes) := goodIn_app (goodIn_of _ (by decide +kernel)) ggX9_free_X9_comes
set_option maxRecDepth 20000 in
theorem ggX9_free_X9_goesRound : GoodIn wsX9_free wsX9_goesRound := goodIn_r _ [31, 1, 23, 32, 33, 34, 5, 35, 36, 37, 38, 39, 40, 11, 19, 20, 21, 22, 24, 25, 26, 27, 41, 42, 43, 44, 45, 46, 47, 48, 49, 50, 51, 52, 53, 54, 55, 56, 57, 58, 59, 60, 61, 62, 63, 64, 65, 66, 67, 68, 69] (by decide +kernel) (by decide +kernel)
set_option maxRecDepth 20000 in
theorem gX9_free_X9_goesRound : GoodIn wsX9_free (wsV RX9 210 RX9 yX9_goesRound wsX9_goesRound) := goodIn_app (goodIn_of _ (by decide +kernel)) ggX9_free_X9_goesRound
theorem dX9_free_0 : decode cX9_free 0 = .ok (.iload_n 1, 1) := by decide +kernel
theorem dX9_free_1 : decode cX9_free 1 = .ok (.iconst 1, 1) := by decide +kernel
theorem dX9_free_2 : decode cX9_free 2 = .ok (.iconst 2, 1) := by decide +kernel
theorem dX9_free_3 : decode cX9_free 3 = .ok (.invokestatic 47, 3) := by decide +kernel
theorem dX9_free_6 : decode cX9_free 6 = .ok (.ifCond .eq 12, 3) := by decide +kernel
theorem dX9_free_9 : decode cX9_free 9 = .ok (.iload_n 2, 1) := by decide +kernel
theorem dX9_free_10 : decode cX9_free 10 = .ok (.iconst 0, 1) := by decide +kernel
theorem dX9_free_11 : decode cX9_free 11 = .ok (.iconst 1, 1) := by decide +kernel
theorem dX9_free_12 : decode cX9_free 12 = .ok (.invokestatic 47, 3) := by decide +kernel
theorem dX9_free_15 : decode cX9_free 15 = .ok (.ifCond .ne 6, 3) := by decide +kernel
theorem dX9_free_18 : decode cX9_free 18 = .ok (.bipush (-2), 2) := by decide +kernel
theorem dX9_free_20 : decode cX9_free 20 = .ok (.ireturn, 1) := by decide +kernel
theorem dX9_free_21 : decode cX9_free 21 = .ok (.iload_n 1, 1) := by decide +kernel
theorem dX9_free_22 : decode cX9_free 22 = .ok (.iconst 1, 1) := by decide +kernel
theorem dX9_free_23 : decode cX9_free 23 = .ok (.if_icmp .ne 10, 3) := by decide +kernel
theorem dX9_free_26 : decode cX9_free 26 = .ok (.aload_n 0, 1) := by decide +kernel
theorem dX9_free_27 : decode cX9_free 27 = .ok (.invokevirtual 43, 3) := by decide +kernel
theorem dX9_free_30 : decode cX9_free 30 = .ok (.goto 12, 3) := by decide +kernel
theorem dX9_free_33 : decode cX9_free 33 = .ok (.aload_n 0, 1) := by decide +kernel
theorem dX9_free_34 : decode cX9_free 34 = .ok (.invokevirtual 43, 3) := by decide +kernel
theorem dX9_free_37 : decode cX9_free 37 = .ok (.aload_n 0, 1) := by decide +kernel
theorem dX9_free_38 : decode cX9_free 38 = .ok (.invokevirtual 43, 3) := by decide +kernel
theorem dX9_free_41 : decode cX9_free 41 = .ok (.imul, 1) := by decide +kernel
theorem dX9_free_42 : decode cX9_free 42 = .ok (.istore_n 3, 1) := by decide +kernel
theorem dX9_free_43 : decode cX9_free 43 = .ok (.aload_n 0, 1) := by decide +kernel
theorem dX9_free_44 : decode cX9_free 44 = .ok (.iconst 0, 1) := by decide +kernel
theorem dX9_free_45 : decode cX9_free 45 = .ok (.putfield 182, 3) := by decide +kernel
theorem dX9_free_48 : decode cX9_free 48 = .ok (.aload_n 0, 1) := by decide +kernel
theorem dX9_free_49 : decode cX9_free 49 = .ok (.iconst 0, 1) := by decide +kernel
theorem dX9_free_50 : decode cX9_free 50 = .ok (.putfield 203, 3) := by decide +kernel
theorem dX9_free_53 : decode cX9_free 53 = .ok (.iload_n 1, 1) := by decide +kernel
theorem dX9_free_54 : decode cX9_free 54 = .ok (.iconst 2, 1) := by decide +kernel
theorem dX9_free_55 : decode cX9_free 55 = .ok (.if_icmp .ne 26, 3) := by decide +kernel
theorem dX9_free_58 : decode cX9_free 58 = .ok (.aload_n 0, 1) := by decide +kernel
theorem dX9_free_59 : decode cX9_free 59 = .ok (.aload_n 0, 1) := by decide +kernel
theorem dX9_free_60 : decode cX9_free 60 = .ok (.iconst 1, 1) := by decide +kernel
theorem dX9_free_61 : decode cX9_free 61 = .ok (.iconst 0, 1) := by decide +kernel
theorem dX9_free_62 : decode cX9_free 62 = .ok (.invokevirtual 206, 3) := by decide +kernel
theorem dX9_free_65 : decode cX9_free 65 = .ok (.invokevirtual 195, 3) := by decide +kernel
theorem dX9_free_68 : decode cX9_free 68 = .ok (.aload_n 0, 1) := by decide +kernel
theorem dX9_free_69 : decode cX9_free 69 = .ok (.aload_n 0, 1) := by decide +kernel
theorem dX9_free_70 : decode cX9_free 70 = .ok (.iconst 1, 1) := by decide +kernel
theorem dX9_free_71 : decode cX9_free 71 = .ok (.iconst 1, 1) := by decide +kernel
theorem dX9_free_72 : decode cX9_free 72 = .ok (.invokevirtual 206, 3) := by decide +kernel
theorem dX9_free_75 : decode cX9_free 75 = .ok (.invokevirtual 195, 3) := by decide +kernel
theorem dX9_free_78 : decode cX9_free 78 = .ok (.goto 43, 3) := by decide +kernel
theorem dX9_free_81 : decode cX9_free 81 = .ok (.lconst 0, 1) := by decide +kernel
theorem dX9_free_82 : decode cX9_free 82 = .ok (.lstore 4, 2) := by decide +kernel
theorem dX9_free_84 : decode cX9_free 84 = .ok (.iconst 0, 1) := by decide +kernel
theorem dX9_free_85 : decode cX9_free 85 = .ok (.istore 6, 2) := by decide +kernel
theorem dX9_free_87 : decode cX9_free 87 = .ok (.iload 6, 2) := by decide +kernel
theorem dX9_free_89 : decode cX9_free 89 = .ok (.aload_n 0, 1) := by decide +kernel
theorem dX9_free_90 : decode cX9_free 90 = .ok (.invokevirtual 43, 3) := by decide +kernel
theorem dX9_free_93 : decode cX9_free 93 = .ok (.if_icmp .ge 22, 3) := by decide +kernel
theorem dX9_free_96 : decode cX9_free 96 = .ok (.lload 4, 2) := by decide +kernel
theorem dX9_free_98 : decode cX9_free 98 = .ok (.iload 6, 2) := by decide +kernel
theorem dX9_free_100 : decode cX9_free 100 = .ok (.i2l, 1) := by decide +kernel
theorem dX9_free_101 : decode cX9_free 101 = .ok (.iconst 2, 1) := by decide +kernel
theorem dX9_free_102 : decode cX9_free 102 = .ok (.iload 6, 2) := by decide +kernel
theorem dX9_free_104 : decode cX9_free 104 = .ok (.imul, 1) := by decide +kernel
theorem dX9_free_105 : decode cX9_free 105 = .ok (.lshl, 1) := by decide +kernel
theorem dX9_free_106 : decode cX9_free 106 = .ok (.lor, 1) := by decide +kernel
theorem dX9_free_107 : decode cX9_free 107 = .ok (.lstore 4, 2) := by decide +kernel
theorem dX9_free_109 : decode cX9_free 109 = .ok (.iinc 6 1, 3) := by decide +kernel
theorem dX9_free_112 : decode cX9_free 112 = .ok (.goto (-25), 3) := by decide +kernel
theorem dX9_free_115 : decode cX9_free 115 = .ok (.aload_n 0, 1) := by decide +kernel
theorem dX9_free_116 : decode cX9_free 116 = .ok (.lload 4, 2) := by decide +kernel
theorem dX9_free_118 : decode cX9_free 118 = .ok (.invokevirtual 195, 3) := by decide +kernel
theorem dX9_free_121 : decode cX9_free 121 = .ok (.aload_n 0, 1) := by decide +kernel
theorem dX9_free_122 : decode cX9_free 122 = .ok (.getfield 182, 3) := by decide +kernel
theorem dX9_free_125 : decode cX9_free 125 = .ok (.sipush 200, 3) := by decide +kernel
theorem dX9_free_128 : decode cX9_free 128 = .ok (.if_icmp .gt 24, 3) := by decide +kernel
theorem dX9_free_131 : decode cX9_free 131 = .ok (.aload_n 0, 1) := by decide +kernel
theorem dX9_free_132 : decode cX9_free 132 = .ok (.iload_n 3, 1) := by decide +kernel
theorem dX9_free_133 : decode cX9_free 133 = .ok (.invokevirtual 210, 3) := by decide +kernel
theorem dX9_free_136 : decode cX9_free 136 = .ok (.ifCond .eq 16, 3) := by decide +kernel
theorem dX9_free_139 : decode cX9_free 139 = .ok (.aload_n 0, 1) := by decide +kernel
theorem dX9_free_140 : decode cX9_free 140 = .ok (.dup, 1) := by decide +kernel
theorem dX9_free_141 : decode cX9_free 141 = .ok (.getfield 203, 3) := by decide +kernel
theorem dX9_free_144 : decode cX9_free 144 = .ok (.iconst 1, 1) := by decide +kernel
theorem dX9_free_145 : decode cX9_free 145 = .ok (.iadd, 1) := by decide +kernel
theorem dX9_free_146 : decode cX9_free 146 = .ok (.putfield 203, 3) := by decide +kernel
theorem dX9_free_149 : decode cX9_free 149 = .ok (.goto (-28), 3) := by decide +kernel
theorem dX9_free_152 : decode cX9_free 152 = .ok (.aload_n 0, 1) := by decide +kernel
theorem dX9_free_153 : decode cX9_free 153 = .ok (.getfield 182, 3) := by decide +kernel
theorem dX9_free_156 : decode cX9_free 156 = .ok (.sipush 200, 3) := by decide +kernel
theorem dX9_free_159 : decode cX9_free 159 = .ok (.if_icmp .le 8, 3) := by decide +kernel
theorem dX9_free_162 : decode cX9_free 162 = .ok (.bipush (-4), 2) := by decide +kernel
theorem dX9_free_164 : decode cX9_free 164 = .ok (.goto 18, 3) := by decide +kernel
theorem dX9_free_167 : decode cX9_free 167 = .ok (.iload_n 2, 1) := by decide +kernel
theorem dX9_free_168 : decode cX9_free 168 = .ok (.ifCond .ne 10, 3) := by decide +kernel
theorem dX9_free_171 : decode cX9_free 171 = .ok (.aload_n 0, 1) := by decide +kernel
theorem dX9_free_172 : decode cX9_free 172 = .ok (.getfield 182, 3) := by decide +kernel
theorem dX9_free_175 : decode cX9_free 175 = .ok (.goto 7, 3) := by decide +kernel
theorem dX9_free_178 : decode cX9_free 178 = .ok (.aload_n 0, 1) := by decide +kernel
theorem dX9_free_179 : decode cX9_free 179 = .ok (.getfield 203, 3) := by decide +kernel
theorem dX9_free_182 : decode cX9_free 182 = .ok (.ireturn, 1) := by decide +kernel
set_option maxRecDepth 20000 in
theorem ggX9_term_X9_in : GoodIn wsX9_term wsX9_in := goodIn_r _ [6] (by decide +kernel) (by decide +kernel)
set_option maxRecDepth 20000 in
theorem gX9_term_X9_in : GoodIn wsX9_term (va_wsS RX9 47 yX9_in wsX9_in) := goodIn_app (goodIn_of _ (by decide +kernel)) ggX9_term_X9_in
set_option maxRecDepth 20000 in
theorem ggX9_term_X9_size : GoodIn wsX9_term wsX9_size := goodIn_r _ [10, 11, 49, 50, 51, 52, 53, 54, 55, 56, 57, 58, 59, 60, 61, 62, 63, 64, 65, 66, 67, 68, 69] (by decide +kernel) (by decide +kernel)
set_option maxRecDepth 20000 in
theorem gX9_term_X9_size : GoodIn wsX9_term (wsV RX9 43 RX9 yX9_size wsX9_size) := goodIn_app (goodIn_of _ (by decide +kernel)) ggX9_term_X9_size
set_option maxRecDepth 20000 in
theorem ggX9_term_X9_letterRow : GoodIn wsX9_term wsX9_letterRow := goodIn_r _ [15, 7, 8, 9, 5, 10, 11, 16, 17, 18, 49, 50, 51, 52, 53, 54, 55, 56, 57, 58, 59, 60, 61, 62, 63, 64, 65, 66, 67, 68, 69] (by decide +kernel) (by decide +kernel)
set_option maxRecDepth 20000 in
theorem gX9_term_X9_letterRow : GoodIn wsX9_term (wsV RX9 206 RX9 yX9_letterRow wsX9_letterRow) := goodIn_app (goodIn_of _ (by decide +kernel)) ggX9_term_X9_letterRow
set_option maxRecDepth 20000 in
theorem ggX9_term_X9_comes : GoodIn wsX9_term wsX9_comes := goodIn_r _ [22, 23, 1, 24, 25, 26, 5, 27, 49, 50, 51, 52, 53, 54, 55, 56, 57, 58, 59, 60, 61, 62, 63, 64, 65, 66, 67, 68, 69] (by decide +kernel) (by decide +kernel)
set_option maxRecDepth 20000 in
theorem gX9_term_X9_comes : GoodIn wsX9_term (wsV RX9 195 RX9 yX9_comes wsX9_comes) := goodIn_app (goodIn_of _ (by decide +kernel)) ggX9_term_X9_comes
set_option maxRecDepth 20000 in
theorem ggX9_term_X9_isTerm : GoodIn wsX9_term wsX9_isTerm := goodIn_r _ [27, 1, 23, 49, 50, 51, 52, 53, 54, 55, 56, 57, 58, 59, 60, 61, 62, 63, 64, 65, 66, 67, 68, 69] (by decide +kernel) (by decide +kernel)
set_option maxRecDepth 20000 in
theorem gX9_term_X9_isTerm : GoodIn wsX9_term (wsV RX9 185 RX9 yX9_isTerm wsX9_isTerm) := goodIn_app (goodIn_of _ (by decide +kernel)) ggX9_term_X9_isTerm
set_option maxRecDepth 20000 in
theorem ggX9_term_X9_goesRound : GoodIn wsX9_term wsX9_goesRound := goodIn_r _ [31, 1, 23, 32, 33, 34, 5, 35, 36, 37, 38, 39, 40, 11, 19, 20, 21, 22, 24, 25, 26, 27, 41, 42, 43, 44, 45, 46, 47, 48, 49, 50, 51, 52, 53, 54, 55, 56, 57, 58, 59, 60, 61, 62, 63, 64, 65, 66, 67, 68, 69] (by decide +kernel) (by decide +kernel)
set_option maxRecDepth 20000 in
theorem gX9_term_X9_goesRound : GoodIn wsX9_term (wsV RX9 210 RX9 yX9_goesRound wsX9_goesRound) := goodIn_app (goodIn_of _ (by decide +kernel)) ggX9_term_X9_goesRound
theorem dX9_term_0 : decode cX9_term 0 = .ok (.iload_n 1, 1) := by decide +kernel
theorem dX9_term_1 : decode cX9_term 1 = .ok (.iconst 0, 1) := by decide +kernel
theorem dX9_term_2 : decode cX9_term 2 = .ok (.iconst 1, 1) := by decide +kernel
theorem dX9_term_3 : decode cX9_term 3 = .ok (.invokestatic 47, 3) := by decide +kernel
theorem dX9_term_6 : decode cX9_term 6 = .ok (.ifCond .eq 11, 3) := by decide +kernel
theorem dX9_term_9 : decode cX9_term 9 = .ok (.aload_n 0, 1) := by decide +kernel
theorem dX9_term_10 : decode cX9_term 10 = .ok (.invokevirtual 43, 3) := by decide +kernel
theorem dX9_term_13 : decode cX9_term 13 = .ok (.iconst 4, 1) := by decide +kernel
theorem dX9_term_14 : decode cX9_term 14 = .ok (.if_icmp .ne 6, 3) := by decide +kernel
theorem dX9_term_17 : decode cX9_term 17 = .ok (.bipush (-2), 2) := by decide +kernel
theorem dX9_term_19 : decode cX9_term 19 = .ok (.ireturn, 1) := by decide +kernel
theorem dX9_term_20 : decode cX9_term 20 = .ok (.iload_n 1, 1) := by decide +kernel
theorem dX9_term_21 : decode cX9_term 21 = .ok (.ifCond .ne 7, 3) := by decide +kernel
theorem dX9_term_24 : decode cX9_term 24 = .ok (.iconst 2, 1) := by decide +kernel
theorem dX9_term_25 : decode cX9_term 25 = .ok (.goto 4, 3) := by decide +kernel
theorem dX9_term_28 : decode cX9_term 28 = .ok (.iconst 3, 1) := by decide +kernel
theorem dX9_term_29 : decode cX9_term 29 = .ok (.istore_n 2, 1) := by decide +kernel
theorem dX9_term_30 : decode cX9_term 30 = .ok (.iload_n 2, 1) := by decide +kernel
theorem dX9_term_31 : decode cX9_term 31 = .ok (.aload_n 0, 1) := by decide +kernel
theorem dX9_term_32 : decode cX9_term 32 = .ok (.invokevirtual 43, 3) := by decide +kernel
theorem dX9_term_35 : decode cX9_term 35 = .ok (.imul, 1) := by decide +kernel
theorem dX9_term_36 : decode cX9_term 36 = .ok (.aload_n 0, 1) := by decide +kernel
theorem dX9_term_37 : decode cX9_term 37 = .ok (.invokevirtual 43, 3) := by decide +kernel
theorem dX9_term_40 : decode cX9_term 40 = .ok (.imul, 1) := by decide +kernel
theorem dX9_term_41 : decode cX9_term 41 = .ok (.istore_n 3, 1) := by decide +kernel
theorem dX9_term_42 : decode cX9_term 42 = .ok (.iload_n 1, 1) := by decide +kernel
theorem dX9_term_43 : decode cX9_term 43 = .ok (.ifCond .ne 12, 3) := by decide +kernel
theorem dX9_term_46 : decode cX9_term 46 = .ok (.aload_n 0, 1) := by decide +kernel
theorem dX9_term_47 : decode cX9_term 47 = .ok (.iconst 2, 1) := by decide +kernel
theorem dX9_term_48 : decode cX9_term 48 = .ok (.iconst 2, 1) := by decide +kernel
theorem dX9_term_49 : decode cX9_term 49 = .ok (.invokevirtual 206, 3) := by decide +kernel
theorem dX9_term_52 : decode cX9_term 52 = .ok (.goto 9, 3) := by decide +kernel
theorem dX9_term_55 : decode cX9_term 55 = .ok (.aload_n 0, 1) := by decide +kernel
theorem dX9_term_56 : decode cX9_term 56 = .ok (.iconst 3, 1) := by decide +kernel
theorem dX9_term_57 : decode cX9_term 57 = .ok (.iconst 0, 1) := by decide +kernel
theorem dX9_term_58 : decode cX9_term 58 = .ok (.invokevirtual 206, 3) := by decide +kernel
theorem dX9_term_61 : decode cX9_term 61 = .ok (.lstore 4, 2) := by decide +kernel
theorem dX9_term_63 : decode cX9_term 63 = .ok (.aload_n 0, 1) := by decide +kernel
theorem dX9_term_64 : decode cX9_term 64 = .ok (.iconst 0, 1) := by decide +kernel
theorem dX9_term_65 : decode cX9_term 65 = .ok (.putfield 182, 3) := by decide +kernel
theorem dX9_term_68 : decode cX9_term 68 = .ok (.aload_n 0, 1) := by decide +kernel
theorem dX9_term_69 : decode cX9_term 69 = .ok (.iload_n 1, 1) := by decide +kernel
theorem dX9_term_70 : decode cX9_term 70 = .ok (.ifCond .ne 12, 3) := by decide +kernel
theorem dX9_term_73 : decode cX9_term 73 = .ok (.aload_n 0, 1) := by decide +kernel
theorem dX9_term_74 : decode cX9_term 74 = .ok (.iconst 2, 1) := by decide +kernel
theorem dX9_term_75 : decode cX9_term 75 = .ok (.iconst 0, 1) := by decide +kernel
theorem dX9_term_76 : decode cX9_term 76 = .ok (.invokevirtual 206, 3) := by decide +kernel
theorem dX9_term_79 : decode cX9_term 79 = .ok (.goto 9, 3) := by decide +kernel
theorem dX9_term_82 : decode cX9_term 82 = .ok (.aload_n 0, 1) := by decide +kernel
theorem dX9_term_83 : decode cX9_term 83 = .ok (.iconst 3, 1) := by decide +kernel
theorem dX9_term_84 : decode cX9_term 84 = .ok (.iconst 4, 1) := by decide +kernel
theorem dX9_term_85 : decode cX9_term 85 = .ok (.invokevirtual 206, 3) := by decide +kernel
theorem dX9_term_88 : decode cX9_term 88 = .ok (.invokevirtual 195, 3) := by decide +kernel
theorem dX9_term_91 : decode cX9_term 91 = .ok (.aload_n 0, 1) := by decide +kernel
theorem dX9_term_92 : decode cX9_term 92 = .ok (.iload_n 1, 1) := by decide +kernel
theorem dX9_term_93 : decode cX9_term 93 = .ok (.ifCond .ne 12, 3) := by decide +kernel
theorem dX9_term_96 : decode cX9_term 96 = .ok (.aload_n 0, 1) := by decide +kernel
theorem dX9_term_97 : decode cX9_term 97 = .ok (.iconst 2, 1) := by decide +kernel
theorem dX9_term_98 : decode cX9_term 98 = .ok (.iconst 1, 1) := by decide +kernel
theorem dX9_term_99 : decode cX9_term 99 = .ok (.invokevirtual 206, 3) := by decide +kernel
theorem dX9_term_102 : decode cX9_term 102 = .ok (.goto 9, 3) := by decide +kernel
theorem dX9_term_105 : decode cX9_term 105 = .ok (.aload_n 0, 1) := by decide +kernel
theorem dX9_term_106 : decode cX9_term 106 = .ok (.iconst 3, 1) := by decide +kernel
theorem dX9_term_107 : decode cX9_term 107 = .ok (.iconst 2, 1) := by decide +kernel
theorem dX9_term_108 : decode cX9_term 108 = .ok (.invokevirtual 206, 3) := by decide +kernel
theorem dX9_term_111 : decode cX9_term 111 = .ok (.invokevirtual 195, 3) := by decide +kernel
theorem dX9_term_114 : decode cX9_term 114 = .ok (.aload_n 0, 1) := by decide +kernel
theorem dX9_term_115 : decode cX9_term 115 = .ok (.iload_n 1, 1) := by decide +kernel
theorem dX9_term_116 : decode cX9_term 116 = .ok (.ifCond .ne 12, 3) := by decide +kernel
theorem dX9_term_119 : decode cX9_term 119 = .ok (.aload_n 0, 1) := by decide +kernel
theorem dX9_term_120 : decode cX9_term 120 = .ok (.iconst 2, 1) := by decide +kernel
theorem dX9_term_121 : decode cX9_term 121 = .ok (.iconst 3, 1) := by decide +kernel
theorem dX9_term_122 : decode cX9_term 122 = .ok (.invokevirtual 206, 3) := by decide +kernel
theorem dX9_term_125 : decode cX9_term 125 = .ok (.goto 9, 3) := by decide +kernel
theorem dX9_term_128 : decode cX9_term 128 = .ok (.aload_n 0, 1) := by decide +kernel
theorem dX9_term_129 : decode cX9_term 129 = .ok (.iconst 3, 1) := by decide +kernel
theorem dX9_term_130 : decode cX9_term 130 = .ok (.iconst 1, 1) := by decide +kernel
theorem dX9_term_131 : decode cX9_term 131 = .ok (.invokevirtual 206, 3) := by decide +kernel
theorem dX9_term_134 : decode cX9_term 134 = .ok (.invokevirtual 195, 3) := by decide +kernel
theorem dX9_term_137 : decode cX9_term 137 = .ok (.aload_n 0, 1) := by decide +kernel
theorem dX9_term_138 : decode cX9_term 138 = .ok (.lload 4, 2) := by decide +kernel
theorem dX9_term_140 : decode cX9_term 140 = .ok (.invokevirtual 185, 3) := by decide +kernel
theorem dX9_term_143 : decode cX9_term 143 = .ok (.ifCond .ne 34, 3) := by decide +kernel
theorem dX9_term_146 : decode cX9_term 146 = .ok (.aload_n 0, 1) := by decide +kernel
theorem dX9_term_147 : decode cX9_term 147 = .ok (.iload_n 3, 1) := by decide +kernel
theorem dX9_term_148 : decode cX9_term 148 = .ok (.invokevirtual 210, 3) := by decide +kernel
theorem dX9_term_151 : decode cX9_term 151 = .ok (.ifCond .eq 26, 3) := by decide +kernel
theorem dX9_term_154 : decode cX9_term 154 = .ok (.aload_n 0, 1) := by decide +kernel
theorem dX9_term_155 : decode cX9_term 155 = .ok (.getfield 182, 3) := by decide +kernel
theorem dX9_term_158 : decode cX9_term 158 = .ok (.sipush 200, 3) := by decide +kernel
theorem dX9_term_161 : decode cX9_term 161 = .ok (.if_icmp .gt 16, 3) := by decide +kernel
theorem dX9_term_164 : decode cX9_term 164 = .ok (.aload_n 0, 1) := by decide +kernel
theorem dX9_term_165 : decode cX9_term 165 = .ok (.dup, 1) := by decide +kernel
theorem dX9_term_166 : decode cX9_term 166 = .ok (.getfield 203, 3) := by decide +kernel
theorem dX9_term_169 : decode cX9_term 169 = .ok (.iconst 1, 1) := by decide +kernel
theorem dX9_term_170 : decode cX9_term 170 = .ok (.iadd, 1) := by decide +kernel
theorem dX9_term_171 : decode cX9_term 171 = .ok (.putfield 203, 3) := by decide +kernel
theorem dX9_term_174 : decode cX9_term 174 = .ok (.goto (-37), 3) := by decide +kernel
theorem dX9_term_177 : decode cX9_term 177 = .ok (.aload_n 0, 1) := by decide +kernel
theorem dX9_term_178 : decode cX9_term 178 = .ok (.getfield 182, 3) := by decide +kernel
theorem dX9_term_181 : decode cX9_term 181 = .ok (.sipush 200, 3) := by decide +kernel
theorem dX9_term_184 : decode cX9_term 184 = .ok (.if_icmp .le 8, 3) := by decide +kernel
theorem dX9_term_187 : decode cX9_term 187 = .ok (.bipush (-4), 2) := by decide +kernel
theorem dX9_term_189 : decode cX9_term 189 = .ok (.goto 17, 3) := by decide +kernel
theorem dX9_term_192 : decode cX9_term 192 = .ok (.aload_n 0, 1) := by decide +kernel
theorem dX9_term_193 : decode cX9_term 193 = .ok (.lload 4, 2) := by decide +kernel
theorem dX9_term_195 : decode cX9_term 195 = .ok (.invokevirtual 185, 3) := by decide +kernel
theorem dX9_term_198 : decode cX9_term 198 = .ok (.ifCond .eq 7, 3) := by decide +kernel
theorem dX9_term_201 : decode cX9_term 201 = .ok (.iconst 1, 1) := by decide +kernel
theorem dX9_term_202 : decode cX9_term 202 = .ok (.goto 4, 3) := by decide +kernel
theorem dX9_term_205 : decode cX9_term 205 = .ok (.iconst 0, 1) := by decide +kernel
theorem dX9_term_206 : decode cX9_term 206 = .ok (.ireturn, 1) := by decide +kernel
set_option maxRecDepth 20000 in
theorem ggX9_sees_X9_in : GoodIn wsX9_sees wsX9_in := goodIn_r _ [6] (by decide +kernel) (by decide +kernel)
set_option maxRecDepth 20000 in
theorem gX9_sees_X9_in : GoodIn wsX9_sees (va_wsS RX9 47 yX9_in wsX9_in) := goodIn_app (goodIn_of _ (by decide +kernel)) ggX9_sees_X9_in
theorem dX9_sees_0 : decode cX9_sees 0 = .ok (.iload_n 1, 1) := by decide +kernel
theorem dX9_sees_1 : decode cX9_sees 1 = .ok (.iconst 0, 1) := by decide +kernel
theorem dX9_sees_2 : decode cX9_sees 2 = .ok (.bipush 16, 2) := by decide +kernel
theorem dX9_sees_4 : decode cX9_sees 4 = .ok (.invokestatic 47, 3) := by decide +kernel
theorem dX9_sees_7 : decode cX9_sees 7 = .ok (.ifCond .ne 6, 3) := by decide +kernel
theorem dX9_sees_10 : decode cX9_sees 10 = .ok (.bipush (-2), 2) := by decide +kernel
theorem dX9_sees_12 : decode cX9_sees 12 = .ok (.ireturn, 1) := by decide +kernel
theorem dX9_sees_13 : decode cX9_sees 13 = .ok (.aload_n 0, 1) := by decide +kernel
theorem dX9_sees_14 : decode cX9_sees 14 = .ok (.getfield 99, 3) := by decide +kernel
theorem dX9_sees_17 : decode cX9_sees 17 = .ok (.bipush 6, 2) := by decide +kernel
theorem dX9_sees_19 : decode cX9_sees 19 = .ok (.if_icmp .ne 6, 3) := by decide +kernel
theorem dX9_sees_22 : decode cX9_sees 22 = .ok (.bipush (-4), 2) := by decide +kernel
theorem dX9_sees_24 : decode cX9_sees 24 = .ok (.ireturn, 1) := by decide +kernel
theorem dX9_sees_25 : decode cX9_sees 25 = .ok (.aload_n 0, 1) := by decide +kernel
theorem dX9_sees_26 : decode cX9_sees 26 = .ok (.getfield 16, 3) := by decide +kernel
theorem dX9_sees_29 : decode cX9_sees 29 = .ok (.aload_n 0, 1) := by decide +kernel
theorem dX9_sees_30 : decode cX9_sees 30 = .ok (.getfield 99, 3) := by decide +kernel
theorem dX9_sees_33 : decode cX9_sees 33 = .ok (.iload_n 1, 1) := by decide +kernel
theorem dX9_sees_34 : decode cX9_sees 34 = .ok (.iastore, 1) := by decide +kernel
theorem dX9_sees_35 : decode cX9_sees 35 = .ok (.aload_n 0, 1) := by decide +kernel
theorem dX9_sees_36 : decode cX9_sees 36 = .ok (.dup, 1) := by decide +kernel
theorem dX9_sees_37 : decode cX9_sees 37 = .ok (.getfield 99, 3) := by decide +kernel
theorem dX9_sees_40 : decode cX9_sees 40 = .ok (.iconst 1, 1) := by decide +kernel
theorem dX9_sees_41 : decode cX9_sees 41 = .ok (.iadd, 1) := by decide +kernel
theorem dX9_sees_42 : decode cX9_sees 42 = .ok (.putfield 99, 3) := by decide +kernel
theorem dX9_sees_45 : decode cX9_sees 45 = .ok (.aload_n 0, 1) := by decide +kernel
theorem dX9_sees_46 : decode cX9_sees 46 = .ok (.getfield 99, 3) := by decide +kernel
theorem dX9_sees_49 : decode cX9_sees 49 = .ok (.ireturn, 1) := by decide +kernel
theorem dX9_forget_0 : decode cX9_forget 0 = .ok (.aload_n 0, 1) := by decide +kernel
theorem dX9_forget_1 : decode cX9_forget 1 = .ok (.getfield 99, 3) := by decide +kernel
theorem dX9_forget_4 : decode cX9_forget 4 = .ok (.istore_n 1, 1) := by decide +kernel
theorem dX9_forget_5 : decode cX9_forget 5 = .ok (.aload_n 0, 1) := by decide +kernel
theorem dX9_forget_6 : decode cX9_forget 6 = .ok (.iconst 0, 1) := by decide +kernel
theorem dX9_forget_7 : decode cX9_forget 7 = .ok (.putfield 99, 3) := by decide +kernel
theorem dX9_forget_10 : decode cX9_forget 10 = .ok (.iload_n 1, 1) := by decide +kernel
theorem dX9_forget_11 : decode cX9_forget 11 = .ok (.ireturn, 1) := by decide +kernel
theorem dX9_isSeen_0 : decode cX9_isSeen 0 = .ok (.iconst 1, 1) := by decide +kernel
theorem dX9_isSeen_1 : decode cX9_isSeen 1 = .ok (.istore_n 2, 1) := by decide +kernel
theorem dX9_isSeen_2 : decode cX9_isSeen 2 = .ok (.iconst 0, 1) := by decide +kernel
theorem dX9_isSeen_3 : decode cX9_isSeen 3 = .ok (.istore_n 3, 1) := by decide +kernel
theorem dX9_isSeen_4 : decode cX9_isSeen 4 = .ok (.iload_n 3, 1) := by decide +kernel
theorem dX9_isSeen_5 : decode cX9_isSeen 5 = .ok (.aload_n 0, 1) := by decide +kernel
theorem dX9_isSeen_6 : decode cX9_isSeen 6 = .ok (.getfield 99, 3) := by decide +kernel
theorem dX9_isSeen_9 : decode cX9_isSeen 9 = .ok (.if_icmp .ge 29, 3) := by decide +kernel
theorem dX9_isSeen_12 : decode cX9_isSeen 12 = .ok (.iload_n 2, 1) := by decide +kernel
theorem dX9_isSeen_13 : decode cX9_isSeen 13 = .ok (.ifCond .eq 17, 3) := by decide +kernel
theorem dX9_isSeen_16 : decode cX9_isSeen 16 = .ok (.aload_n 0, 1) := by decide +kernel
theorem dX9_isSeen_17 : decode cX9_isSeen 17 = .ok (.getfield 16, 3) := by decide +kernel
theorem dX9_isSeen_20 : decode cX9_isSeen 20 = .ok (.iload_n 3, 1) := by decide +kernel
theorem dX9_isSeen_21 : decode cX9_isSeen 21 = .ok (.iaload, 1) := by decide +kernel
theorem dX9_isSeen_22 : decode cX9_isSeen 22 = .ok (.iload_n 1, 1) := by decide +kernel
theorem dX9_isSeen_23 : decode cX9_isSeen 23 = .ok (.if_icmp .ne 7, 3) := by decide +kernel
theorem dX9_isSeen_26 : decode cX9_isSeen 26 = .ok (.iconst 1, 1) := by decide +kernel
theorem dX9_isSeen_27 : decode cX9_isSeen 27 = .ok (.goto 4, 3) := by decide +kernel
theorem dX9_isSeen_30 : decode cX9_isSeen 30 = .ok (.iconst 0, 1) := by decide +kernel
theorem dX9_isSeen_31 : decode cX9_isSeen 31 = .ok (.istore_n 2, 1) := by decide +kernel
theorem dX9_isSeen_32 : decode cX9_isSeen 32 = .ok (.iinc 3 1, 3) := by decide +kernel
theorem dX9_isSeen_35 : decode cX9_isSeen 35 = .ok (.goto (-31), 3) := by decide +kernel
theorem dX9_isSeen_38 : decode cX9_isSeen 38 = .ok (.iload_n 2, 1) := by decide +kernel
theorem dX9_isSeen_39 : decode cX9_isSeen 39 = .ok (.ireturn, 1) := by decide +kernel
set_option maxRecDepth 20000 in
theorem ggX9_unseen_X9_size : GoodIn wsX9_unseen wsX9_size := goodIn_r _ [6, 1, 36, 37, 38, 39, 40, 41, 42, 43, 44, 45, 46, 47, 48, 49, 50, 51, 52, 53, 54, 55, 56] (by decide +kernel) (by decide +kernel)
set_option maxRecDepth 20000 in
theorem gX9_unseen_X9_size : GoodIn wsX9_unseen (wsV RX9 43 RX9 yX9_size wsX9_size) := goodIn_app (goodIn_of _ (by decide +kernel)) ggX9_unseen_X9_size
set_option maxRecDepth 20000 in
theorem ggX9_unseen_X9_closedOf : GoodIn wsX9_unseen wsX9_closedOf := goodIn_r _ [10, 11, 12, 13, 5, 14, 2, 3, 4, 6, 1, 15, 16, 17, 18, 19, 20, 21, 22, 23, 24, 25, 26, 27, 28, 29, 36, 37, 38, 39, 40, 41, 42, 43, 44, 45, 46, 47, 48, 49, 50, 51, 52, 53, 54, 55, 56] (by decide +kernel) (by decide +kernel)
set_option maxRecDepth 20000 in
theorem gX9_unseen_X9_closedOf : GoodIn wsX9_unseen (wsV RX9 126 RX9 yX9_closedOf wsX9_closedOf) := goodIn_app (goodIn_of _ (by decide +kernel)) ggX9_unseen_X9_closedOf
set_option maxRecDepth 20000 in
theorem ggX9_unseen_X9_isSeen : GoodIn wsX9_unseen wsX9_isSeen := goodIn_r _ [33, 34, 35, 36, 37, 38, 39, 40, 41, 42, 43, 44, 45, 46, 47, 48, 49, 50, 51, 52, 53, 54, 55, 56] (by decide +kernel) (by decide +kernel)
set_option maxRecDepth 20000 in
theorem gX9_unseen_X9_isSeen : GoodIn wsX9_unseen (wsV RX9 213 RX9 yX9_isSeen wsX9_isSeen) := goodIn_app (goodIn_of _ (by decide +kernel)) ggX9_unseen_X9_isSeen
theorem dX9_unseen_0 : decode cX9_unseen 0 = .ok (.iconst 0, 1) := by decide +kernel
theorem dX9_unseen_1 : decode cX9_unseen 1 = .ok (.istore_n 1, 1) := by decide +kernel
theorem dX9_unseen_2 : decode cX9_unseen 2 = .ok (.aload_n 0, 1) := by decide +kernel
theorem dX9_unseen_3 : decode cX9_unseen 3 = .ok (.invokevirtual 43, 3) := by decide +kernel
theorem dX9_unseen_6 : decode cX9_unseen 6 = .ok (.istore_n 2, 1) := by decide +kernel
theorem dX9_unseen_7 : decode cX9_unseen 7 = .ok (.iconst 0, 1) := by decide +kernel
theorem dX9_unseen_8 : decode cX9_unseen 8 = .ok (.istore_n 3, 1) := by decide +kernel
theorem dX9_unseen_9 : decode cX9_unseen 9 = .ok (.iload_n 3, 1) := by decide +kernel
theorem dX9_unseen_10 : decode cX9_unseen 10 = .ok (.iload_n 2, 1) := by decide +kernel
theorem dX9_unseen_11 : decode cX9_unseen 11 = .ok (.iload_n 2, 1) := by decide +kernel
theorem dX9_unseen_12 : decode cX9_unseen 12 = .ok (.imul, 1) := by decide +kernel
theorem dX9_unseen_13 : decode cX9_unseen 13 = .ok (.if_icmp .ge 91, 3) := by decide +kernel
theorem dX9_unseen_16 : decode cX9_unseen 16 = .ok (.iconst 4, 1) := by decide +kernel
theorem dX9_unseen_17 : decode cX9_unseen 17 = .ok (.iload_n 3, 1) := by decide +kernel
theorem dX9_unseen_18 : decode cX9_unseen 18 = .ok (.iload_n 2, 1) := by decide +kernel
theorem dX9_unseen_19 : decode cX9_unseen 19 = .ok (.idiv, 1) := by decide +kernel
theorem dX9_unseen_20 : decode cX9_unseen 20 = .ok (.imul, 1) := by decide +kernel
theorem dX9_unseen_21 : decode cX9_unseen 21 = .ok (.iload_n 3, 1) := by decide +kernel
theorem dX9_unseen_22 : decode cX9_unseen 22 = .ok (.iload_n 2, 1) := by decide +kernel
theorem dX9_unseen_23 : decode cX9_unseen 23 = .ok (.irem, 1) := by decide +kernel
theorem dX9_unseen_24 : decode cX9_unseen 24 = .ok (.iadd, 1) := by decide +kernel
theorem dX9_unseen_25 : decode cX9_unseen 25 = .ok (.istore 4, 2) := by decide +kernel
theorem dX9_unseen_27 : decode cX9_unseen 27 = .ok (.aload_n 0, 1) := by decide +kernel
theorem dX9_unseen_28 : decode cX9_unseen 28 = .ok (.getfield 7, 3) := by decide +kernel
theorem dX9_unseen_31 : decode cX9_unseen 31 = .ok (.iload 4, 2) := by decide +kernel
theorem dX9_unseen_33 : decode cX9_unseen 33 = .ok (.iaload, 1) := by decide +kernel
theorem dX9_unseen_34 : decode cX9_unseen 34 = .ok (.istore 5, 2) := by decide +kernel
theorem dX9_unseen_36 : decode cX9_unseen 36 = .ok (.iconst 0, 1) := by decide +kernel
theorem dX9_unseen_37 : decode cX9_unseen 37 = .ok (.istore 6, 2) := by decide +kernel
theorem dX9_unseen_39 : decode cX9_unseen 39 = .ok (.iload 6, 2) := by decide +kernel
theorem dX9_unseen_41 : decode cX9_unseen 41 = .ok (.iload_n 2, 1) := by decide +kernel
theorem dX9_unseen_42 : decode cX9_unseen 42 = .ok (.if_icmp .ge 47, 3) := by decide +kernel
theorem dX9_unseen_45 : decode cX9_unseen 45 = .ok (.aload_n 0, 1) := by decide +kernel
theorem dX9_unseen_46 : decode cX9_unseen 46 = .ok (.getfield 7, 3) := by decide +kernel
theorem dX9_unseen_49 : decode cX9_unseen 49 = .ok (.iload 4, 2) := by decide +kernel
theorem dX9_unseen_51 : decode cX9_unseen 51 = .ok (.iload 6, 2) := by decide +kernel
theorem dX9_unseen_53 : decode cX9_unseen 53 = .ok (.iastore, 1) := by decide +kernel
theorem dX9_unseen_54 : decode cX9_unseen 54 = .ok (.iload_n 1, 1) := by decide +kernel
theorem dX9_unseen_55 : decode cX9_unseen 55 = .ok (.iload 6, 2) := by decide +kernel
theorem dX9_unseen_57 : decode cX9_unseen 57 = .ok (.iload 5, 2) := by decide +kernel
theorem dX9_unseen_59 : decode cX9_unseen 59 = .ok (.if_icmp .eq 21, 3) := by decide +kernel
theorem dX9_unseen_62 : decode cX9_unseen 62 = .ok (.aload_n 0, 1) := by decide +kernel
theorem dX9_unseen_63 : decode cX9_unseen 63 = .ok (.aload_n 0, 1) := by decide +kernel
theorem dX9_unseen_64 : decode cX9_unseen 64 = .ok (.iconst (-1), 1) := by decide +kernel
theorem dX9_unseen_65 : decode cX9_unseen 65 = .ok (.invokevirtual 126, 3) := by decide +kernel
theorem dX9_unseen_68 : decode cX9_unseen 68 = .ok (.invokevirtual 213, 3) := by decide +kernel
theorem dX9_unseen_71 : decode cX9_unseen 71 = .ok (.ifCond .eq 9, 3) := by decide +kernel
theorem dX9_unseen_74 : decode cX9_unseen 74 = .ok (.iconst 1, 1) := by decide +kernel
theorem dX9_unseen_75 : decode cX9_unseen 75 = .ok (.iload_n 3, 1) := by decide +kernel
theorem dX9_unseen_76 : decode cX9_unseen 76 = .ok (.ishl, 1) := by decide +kernel
theorem dX9_unseen_77 : decode cX9_unseen 77 = .ok (.goto 4, 3) := by decide +kernel
theorem dX9_unseen_80 : decode cX9_unseen 80 = .ok (.iconst 0, 1) := by decide +kernel
theorem dX9_unseen_81 : decode cX9_unseen 81 = .ok (.ior, 1) := by decide +kernel
theorem dX9_unseen_82 : decode cX9_unseen 82 = .ok (.istore_n 1, 1) := by decide +kernel
theorem dX9_unseen_83 : decode cX9_unseen 83 = .ok (.iinc 6 1, 3) := by decide +kernel
theorem dX9_unseen_86 : decode cX9_unseen 86 = .ok (.goto (-47), 3) := by decide +kernel
theorem dX9_unseen_89 : decode cX9_unseen 89 = .ok (.aload_n 0, 1) := by decide +kernel
theorem dX9_unseen_90 : decode cX9_unseen 90 = .ok (.getfield 7, 3) := by decide +kernel
theorem dX9_unseen_93 : decode cX9_unseen 93 = .ok (.iload 4, 2) := by decide +kernel
theorem dX9_unseen_95 : decode cX9_unseen 95 = .ok (.iload 5, 2) := by decide +kernel
theorem dX9_unseen_97 : decode cX9_unseen 97 = .ok (.iastore, 1) := by decide +kernel
theorem dX9_unseen_98 : decode cX9_unseen 98 = .ok (.iinc 3 1, 3) := by decide +kernel
theorem dX9_unseen_101 : decode cX9_unseen 101 = .ok (.goto (-92), 3) := by decide +kernel
theorem dX9_unseen_104 : decode cX9_unseen 104 = .ok (.iload_n 1, 1) := by decide +kernel
theorem dX9_unseen_105 : decode cX9_unseen 105 = .ok (.ireturn, 1) := by decide +kernel
set_option maxRecDepth 20000 in
theorem ggX9_keep_X9_in : GoodIn wsX9_keep wsX9_in := goodIn_r _ [7] (by decide +kernel) (by decide +kernel)
set_option maxRecDepth 20000 in
theorem gX9_keep_X9_in : GoodIn wsX9_keep (va_wsS RX9 47 yX9_in wsX9_in) := goodIn_app (goodIn_of _ (by decide +kernel)) ggX9_keep_X9_in
set_option maxRecDepth 20000 in
theorem ggX9_keep_X9_size : GoodIn wsX9_keep wsX9_size := goodIn_r _ [11, 3, 12, 13, 14, 15, 16, 17, 18, 19, 20, 21, 22, 23, 24, 25, 26, 27, 28, 29, 30, 31, 32] (by decide +kernel) (by decide +kernel)
set_option maxRecDepth 20000 in
theorem gX9_keep_X9_size : GoodIn wsX9_keep (wsV RX9 43 RX9 yX9_size wsX9_size) := goodIn_app (goodIn_of _ (by decide +kernel)) ggX9_keep_X9_size
theorem dX9_keep_0 : decode cX9_keep 0 = .ok (.iload_n 1, 1) := by decide +kernel
theorem dX9_keep_1 : decode cX9_keep 1 = .ok (.iconst 0, 1) := by decide +kernel
theorem dX9_keep_2 : decode cX9_keep 2 = .ok (.iconst 1, 1) := by decide +kernel
theorem dX9_keep_3 : decode cX9_keep 3 = .ok (.invokestatic 47, 3) := by decide +kernel
theorem dX9_keep_6 : decode cX9_keep 6 = .ok (.ifCond .ne 6, 3) := by decide +kernel
theorem dX9_keep_9 : decode cX9_keep 9 = .ok (.bipush (-2), 2) := by decide +kernel
theorem dX9_keep_11 : decode cX9_keep 11 = .ok (.ireturn, 1) := by decide +kernel
theorem dX9_keep_12 : decode cX9_keep 12 = .ok (.aload_n 0, 1) := by decide +kernel
theorem dX9_keep_13 : decode cX9_keep 13 = .ok (.getfield 19, 3) := by decide +kernel
theorem dX9_keep_16 : decode cX9_keep 16 = .ok (.iload_n 1, 1) := by decide +kernel
theorem dX9_keep_17 : decode cX9_keep 17 = .ok (.iconst 1, 1) := by decide +kernel
theorem dX9_keep_18 : decode cX9_keep 18 = .ok (.bastore, 1) := by decide +kernel
theorem dX9_keep_19 : decode cX9_keep 19 = .ok (.iconst 0, 1) := by decide +kernel
theorem dX9_keep_20 : decode cX9_keep 20 = .ok (.istore_n 2, 1) := by decide +kernel
theorem dX9_keep_21 : decode cX9_keep 21 = .ok (.iload_n 2, 1) := by decide +kernel
theorem dX9_keep_22 : decode cX9_keep 22 = .ok (.bipush 21, 2) := by decide +kernel
theorem dX9_keep_24 : decode cX9_keep 24 = .ok (.if_icmp .ge 26, 3) := by decide +kernel
theorem dX9_keep_27 : decode cX9_keep 27 = .ok (.aload_n 0, 1) := by decide +kernel
theorem dX9_keep_28 : decode cX9_keep 28 = .ok (.getfield 23, 3) := by decide +kernel
theorem dX9_keep_31 : decode cX9_keep 31 = .ok (.bipush 21, 2) := by decide +kernel
theorem dX9_keep_33 : decode cX9_keep 33 = .ok (.iload_n 1, 1) := by decide +kernel
theorem dX9_keep_34 : decode cX9_keep 34 = .ok (.imul, 1) := by decide +kernel
theorem dX9_keep_35 : decode cX9_keep 35 = .ok (.iload_n 2, 1) := by decide +kernel
theorem dX9_keep_36 : decode cX9_keep 36 = .ok (.iadd, 1) := by decide +kernel
theorem dX9_keep_37 : decode cX9_keep 37 = .ok (.aload_n 0, 1) := by decide +kernel
theorem dX9_keep_38 : decode cX9_keep 38 = .ok (.getfield 7, 3) := by decide +kernel
theorem dX9_keep_41 : decode cX9_keep 41 = .ok (.iload_n 2, 1) := by decide +kernel
theorem dX9_keep_42 : decode cX9_keep 42 = .ok (.iaload, 1) := by decide +kernel
theorem dX9_keep_43 : decode cX9_keep 43 = .ok (.iastore, 1) := by decide +kernel
theorem dX9_keep_44 : decode cX9_keep 44 = .ok (.iinc 2 1, 3) := by decide +kernel
theorem dX9_keep_47 : decode cX9_keep 47 = .ok (.goto (-26), 3) := by decide +kernel
theorem dX9_keep_50 : decode cX9_keep 50 = .ok (.aload_n 0, 1) := by decide +kernel
theorem dX9_keep_51 : decode cX9_keep 51 = .ok (.invokevirtual 43, 3) := by decide +kernel
theorem dX9_keep_54 : decode cX9_keep 54 = .ok (.ireturn, 1) := by decide +kernel
set_option maxRecDepth 20000 in
theorem ggX9_back_X9_in : GoodIn wsX9_back wsX9_in := goodIn_r _ [8] (by decide +kernel) (by decide +kernel)
set_option maxRecDepth 20000 in
theorem gX9_back_X9_in : GoodIn wsX9_back (va_wsS RX9 47 yX9_in wsX9_in) := goodIn_app (goodIn_of _ (by decide +kernel)) ggX9_back_X9_in
set_option maxRecDepth 20000 in
theorem ggX9_back_X9_size : GoodIn wsX9_back wsX9_size := goodIn_r _ [12, 2, 13, 14, 15, 16, 17, 18, 19, 20, 21, 22, 23, 24, 25, 26, 27, 28, 29, 30, 31, 32, 33] (by decide +kernel) (by decide +kernel)
set_option maxRecDepth 20000 in
theorem gX9_back_X9_size : GoodIn wsX9_back (wsV RX9 43 RX9 yX9_size wsX9_size) := goodIn_app (goodIn_of _ (by decide +kernel)) ggX9_back_X9_size
theorem dX9_back_0 : decode cX9_back 0 = .ok (.iload_n 1, 1) := by decide +kernel
theorem dX9_back_1 : decode cX9_back 1 = .ok (.iconst 0, 1) := by decide +kernel
theorem dX9_back_2 : decode cX9_back 2 = .ok (.iconst 1, 1) := by decide +kernel
theorem dX9_back_3 : decode cX9_back 3 = .ok (.invokestatic 47, 3) := by decide +kernel
theorem dX9_back_6 : decode cX9_back 6 = .ok (.ifCond .ne 6, 3) := by decide +kernel
theorem dX9_back_9 : decode cX9_back 9 = .ok (.bipush (-2), 2) := by decide +kernel
theorem dX9_back_11 : decode cX9_back 11 = .ok (.ireturn, 1) := by decide +kernel
theorem dX9_back_12 : decode cX9_back 12 = .ok (.aload_n 0, 1) := by decide +kernel
theorem dX9_back_13 : decode cX9_back 13 = .ok (.getfield 19, 3) := by decide +kernel
theorem dX9_back_16 : decode cX9_back 16 = .ok (.iload_n 1, 1) := by decide +kernel
theorem dX9_back_17 : decode cX9_back 17 = .ok (.baload, 1) := by decide +kernel
theorem dX9_back_18 : decode cX9_back 18 = .ok (.ifCond .ne 6, 3) := by decide +kernel
theorem dX9_back_21 : decode cX9_back 21 = .ok (.bipush (-3), 2) := by decide +kernel
theorem dX9_back_23 : decode cX9_back 23 = .ok (.ireturn, 1) := by decide +kernel
theorem dX9_back_24 : decode cX9_back 24 = .ok (.iconst 0, 1) := by decide +kernel
theorem dX9_back_25 : decode cX9_back 25 = .ok (.istore_n 2, 1) := by decide +kernel
theorem dX9_back_26 : decode cX9_back 26 = .ok (.iload_n 2, 1) := by decide +kernel
theorem dX9_back_27 : decode cX9_back 27 = .ok (.bipush 21, 2) := by decide +kernel
theorem dX9_back_29 : decode cX9_back 29 = .ok (.if_icmp .ge 26, 3) := by decide +kernel
theorem dX9_back_32 : decode cX9_back 32 = .ok (.aload_n 0, 1) := by decide +kernel
theorem dX9_back_33 : decode cX9_back 33 = .ok (.getfield 7, 3) := by decide +kernel
theorem dX9_back_36 : decode cX9_back 36 = .ok (.iload_n 2, 1) := by decide +kernel
theorem dX9_back_37 : decode cX9_back 37 = .ok (.aload_n 0, 1) := by decide +kernel
theorem dX9_back_38 : decode cX9_back 38 = .ok (.getfield 23, 3) := by decide +kernel
theorem dX9_back_41 : decode cX9_back 41 = .ok (.bipush 21, 2) := by decide +kernel
theorem dX9_back_43 : decode cX9_back 43 = .ok (.iload_n 1, 1) := by decide +kernel
theorem dX9_back_44 : decode cX9_back 44 = .ok (.imul, 1) := by decide +kernel
theorem dX9_back_45 : decode cX9_back 45 = .ok (.iload_n 2, 1) := by decide +kernel
theorem dX9_back_46 : decode cX9_back 46 = .ok (.iadd, 1) := by decide +kernel
theorem dX9_back_47 : decode cX9_back 47 = .ok (.iaload, 1) := by decide +kernel
theorem dX9_back_48 : decode cX9_back 48 = .ok (.iastore, 1) := by decide +kernel
theorem dX9_back_49 : decode cX9_back 49 = .ok (.iinc 2 1, 3) := by decide +kernel
theorem dX9_back_52 : decode cX9_back 52 = .ok (.goto (-26), 3) := by decide +kernel
theorem dX9_back_55 : decode cX9_back 55 = .ok (.aload_n 0, 1) := by decide +kernel
theorem dX9_back_56 : decode cX9_back 56 = .ok (.iconst 0, 1) := by decide +kernel
theorem dX9_back_57 : decode cX9_back 57 = .ok (.putfield 96, 3) := by decide +kernel
theorem dX9_back_60 : decode cX9_back 60 = .ok (.aload_n 0, 1) := by decide +kernel
theorem dX9_back_61 : decode cX9_back 61 = .ok (.invokevirtual 43, 3) := by decide +kernel
theorem dX9_back_64 : decode cX9_back 64 = .ok (.ireturn, 1) := by decide +kernel
set_option maxRecDepth 20000 in
theorem ggX9_holding_X9_firstOf : GoodIn wsX9_holding wsX9_firstOf := goodIn_r _ [5, 6, 7, 4, 8, 9, 10, 11, 12, 13, 14, 15, 16, 17, 18, 19, 20, 21, 22, 23, 24, 25, 26, 27, 28, 29, 30, 31, 32, 33, 34, 35, 36, 37, 38, 39, 40, 41, 42, 43, 44, 45, 46] (by decide +kernel) (by decide +kernel)
set_option maxRecDepth 20000 in
theorem gX9_holding_X9_firstOf : GoodIn wsX9_holding (wsV RX9 136 RX9 yX9_firstOf wsX9_firstOf) := goodIn_app (goodIn_of _ (by decide +kernel)) ggX9_holding_X9_firstOf
theorem dX9_holding_0 : decode cX9_holding 0 = .ok (.iconst 0, 1) := by decide +kernel
theorem dX9_holding_1 : decode cX9_holding 1 = .ok (.istore_n 1, 1) := by decide +kernel
theorem dX9_holding_2 : decode cX9_holding 2 = .ok (.iconst 0, 1) := by decide +kernel
theorem dX9_holding_3 : decode cX9_holding 3 = .ok (.istore_n 2, 1) := by decide +kernel
theorem dX9_holding_4 : decode cX9_holding 4 = .ok (.iload_n 2, 1) := by decide +kernel
theorem dX9_holding_5 : decode cX9_holding 5 = .ok (.bipush 7, 2) := by decide +kernel
theorem dX9_holding_7 : decode cX9_holding 7 = .ok (.if_icmp .ge 29, 3) := by decide +kernel
theorem dX9_holding_10 : decode cX9_holding 10 = .ok (.iload_n 1, 1) := by decide +kernel
theorem dX9_holding_11 : decode cX9_holding 11 = .ok (.aload_n 0, 1) := by decide +kernel
theorem dX9_holding_12 : decode cX9_holding 12 = .ok (.iload_n 2, 1) := by decide +kernel
theorem dX9_holding_13 : decode cX9_holding 13 = .ok (.invokevirtual 136, 3) := by decide +kernel
theorem dX9_holding_16 : decode cX9_holding 16 = .ok (.bipush (-9), 2) := by decide +kernel
theorem dX9_holding_18 : decode cX9_holding 18 = .ok (.if_icmp .ne 9, 3) := by decide +kernel
theorem dX9_holding_21 : decode cX9_holding 21 = .ok (.iconst 1, 1) := by decide +kernel
theorem dX9_holding_22 : decode cX9_holding 22 = .ok (.iload_n 2, 1) := by decide +kernel
theorem dX9_holding_23 : decode cX9_holding 23 = .ok (.ishl, 1) := by decide +kernel
theorem dX9_holding_24 : decode cX9_holding 24 = .ok (.goto 4, 3) := by decide +kernel
theorem dX9_holding_27 : decode cX9_holding 27 = .ok (.iconst 0, 1) := by decide +kernel
theorem dX9_holding_28 : decode cX9_holding 28 = .ok (.ior, 1) := by decide +kernel
theorem dX9_holding_29 : decode cX9_holding 29 = .ok (.istore_n 1, 1) := by decide +kernel
theorem dX9_holding_30 : decode cX9_holding 30 = .ok (.iinc 2 1, 3) := by decide +kernel
theorem dX9_holding_33 : decode cX9_holding 33 = .ok (.goto (-29), 3) := by decide +kernel
theorem dX9_holding_36 : decode cX9_holding 36 = .ok (.iload_n 1, 1) := by decide +kernel
theorem dX9_holding_37 : decode cX9_holding 37 = .ok (.ireturn, 1) := by decide +kernel
set_option maxRecDepth 20000 in
theorem ggX9_count_X9_size : GoodIn wsX9_count wsX9_size := goodIn_r _ [9, 10, 80, 81, 82, 83, 84, 85, 86, 87, 88, 89, 90, 91, 92, 93, 94, 95, 96, 97, 98, 99, 100] (by decide +kernel) (by decide +kernel)
set_option maxRecDepth 20000 in
theorem gX9_count_X9_size : GoodIn wsX9_count (wsV RX9 43 RX9 yX9_size wsX9_size) := goodIn_app (goodIn_of _ (by decide +kernel)) ggX9_count_X9_size
set_option maxRecDepth 20000 in
theorem ggX9_count_X9_closedOf : GoodIn wsX9_count wsX9_closedOf := goodIn_r _ [14, 15, 16, 17, 8, 18, 5, 6, 7, 9, 10, 19, 20, 21, 22, 23, 24, 25, 26, 27, 28, 29, 30, 31, 32, 33, 80, 81, 82, 83, 84, 85, 86, 87, 88, 89, 90, 91, 92, 93, 94, 95, 96, 97, 98, 99, 100] (by decide +kernel) (by decide +kernel)
set_option maxRecDepth 20000 in
theorem gX9_count_X9_closedOf : GoodIn wsX9_count (wsV RX9 126 RX9 yX9_closedOf wsX9_closedOf) := goodIn_app (goodIn_of _ (by decide +kernel)) ggX9_count_X9_closedOf
set_option maxRecDepth 20000 in
theorem ggX9_count_X9_layCongruences : GoodIn wsX9_count wsX9_layCongruences := goodIn_r _ [37, 1, 38, 39, 40, 41, 8, 42, 43, 44, 45, 5, 6, 7, 9, 10, 46, 47, 48, 49, 50, 51, 52, 53, 26, 27, 28, 29, 30, 31, 32, 33, 80, 81, 82, 83, 84, 85, 86, 87, 88, 89, 90, 91, 92, 93, 94, 95, 96, 97, 98, 99, 100] (by decide +kernel) (by decide +kernel)
set_option maxRecDepth 20000 in
theorem gX9_count_X9_layCongruences : GoodIn wsX9_count (wsV RX9 154 RX9 yX9_layCongruences wsX9_layCongruences) := goodIn_app (goodIn_of _ (by decide +kernel)) ggX9_count_X9_layCongruences
set_option maxRecDepth 20000 in
theorem ggX9_count_X9_holding : GoodIn wsX9_count wsX9_holding := goodIn_r _ [57, 58, 59, 60, 8, 61, 62, 63, 64, 5, 6, 7, 9, 10, 65, 66, 67, 68, 30, 31, 32, 33, 26, 27, 28, 29, 80, 81, 82, 83, 84, 85, 86, 87, 88, 89, 90, 91, 92, 93, 94, 95, 96, 97, 98, 99, 100] (by decide +kernel) (by decide +kernel)
set_option maxRecDepth 20000 in
theorem gX9_count_X9_holding : GoodIn wsX9_count (wsV RX9 216 RX9 yX9_holding wsX9_holding) := goodIn_app (goodIn_of _ (by decide +kernel)) ggX9_count_X9_holding
set_option maxRecDepth 20000 in
theorem ggX9_count_X9_maps : GoodIn wsX9_count wsX9_maps := goodIn_r _ [72, 5, 6, 7, 8, 9, 10, 73, 74, 75, 76, 77, 78, 79, 26, 27, 28, 29, 30, 31, 32, 33, 15, 16, 17, 18, 80, 81, 82, 83, 84, 85, 86, 87, 88, 89, 90, 91, 92, 93, 94, 95, 96, 97, 98, 99, 100] (by decide +kernel) (by decide +kernel)
set_option maxRecDepth 20000 in
theorem gX9_count_X9_maps : GoodIn wsX9_count (wsV RX9 219 RX9 yX9_maps wsX9_maps) := goodIn_app (goodIn_of _ (by decide +kernel)) ggX9_count_X9_maps
theorem dX9_count_0 : decode cX9_count 0 = .ok (.iload_n 1, 1) := by decide +kernel
theorem dX9_count_1 : decode cX9_count 1 = .ok (.tableswitch 103 0 8 #[51, 56, 62, 71, 76, 82, 88, 93, 98], 51) := by decide +kernel
theorem dX9_count_52 : decode cX9_count 52 = .ok (.aload_n 0, 1) := by decide +kernel
theorem dX9_count_53 : decode cX9_count 53 = .ok (.invokevirtual 43, 3) := by decide +kernel
theorem dX9_count_56 : decode cX9_count 56 = .ok (.ireturn, 1) := by decide +kernel
theorem dX9_count_57 : decode cX9_count 57 = .ok (.aload_n 0, 1) := by decide +kernel
theorem dX9_count_58 : decode cX9_count 58 = .ok (.iconst (-1), 1) := by decide +kernel
theorem dX9_count_59 : decode cX9_count 59 = .ok (.invokevirtual 126, 3) := by decide +kernel
theorem dX9_count_62 : decode cX9_count 62 = .ok (.ireturn, 1) := by decide +kernel
theorem dX9_count_63 : decode cX9_count 63 = .ok (.aload_n 0, 1) := by decide +kernel
theorem dX9_count_64 : decode cX9_count 64 = .ok (.invokevirtual 154, 3) := by decide +kernel
theorem dX9_count_67 : decode cX9_count 67 = .ok (.aload_n 0, 1) := by decide +kernel
theorem dX9_count_68 : decode cX9_count 68 = .ok (.getfield 145, 3) := by decide +kernel
theorem dX9_count_71 : decode cX9_count 71 = .ok (.ireturn, 1) := by decide +kernel
theorem dX9_count_72 : decode cX9_count 72 = .ok (.aload_n 0, 1) := by decide +kernel
theorem dX9_count_73 : decode cX9_count 73 = .ok (.invokevirtual 216, 3) := by decide +kernel
theorem dX9_count_76 : decode cX9_count 76 = .ok (.ireturn, 1) := by decide +kernel
theorem dX9_count_77 : decode cX9_count 77 = .ok (.aload_n 0, 1) := by decide +kernel
theorem dX9_count_78 : decode cX9_count 78 = .ok (.iconst 0, 1) := by decide +kernel
theorem dX9_count_79 : decode cX9_count 79 = .ok (.invokevirtual 219, 3) := by decide +kernel
theorem dX9_count_82 : decode cX9_count 82 = .ok (.ireturn, 1) := by decide +kernel
theorem dX9_count_83 : decode cX9_count 83 = .ok (.aload_n 0, 1) := by decide +kernel
theorem dX9_count_84 : decode cX9_count 84 = .ok (.iconst 1, 1) := by decide +kernel
theorem dX9_count_85 : decode cX9_count 85 = .ok (.invokevirtual 219, 3) := by decide +kernel
theorem dX9_count_88 : decode cX9_count 88 = .ok (.ireturn, 1) := by decide +kernel
theorem dX9_count_89 : decode cX9_count 89 = .ok (.aload_n 0, 1) := by decide +kernel
theorem dX9_count_90 : decode cX9_count 90 = .ok (.getfield 99, 3) := by decide +kernel
theorem dX9_count_93 : decode cX9_count 93 = .ok (.ireturn, 1) := by decide +kernel
theorem dX9_count_94 : decode cX9_count 94 = .ok (.aload_n 0, 1) := by decide +kernel
theorem dX9_count_95 : decode cX9_count 95 = .ok (.getfield 51, 3) := by decide +kernel
theorem dX9_count_98 : decode cX9_count 98 = .ok (.ireturn, 1) := by decide +kernel
theorem dX9_count_99 : decode cX9_count 99 = .ok (.aload_n 0, 1) := by decide +kernel
theorem dX9_count_100 : decode cX9_count 100 = .ok (.getfield 96, 3) := by decide +kernel
theorem dX9_count_103 : decode cX9_count 103 = .ok (.ireturn, 1) := by decide +kernel
theorem dX9_count_104 : decode cX9_count 104 = .ok (.bipush (-2), 2) := by decide +kernel
theorem dX9_count_106 : decode cX9_count 106 = .ok (.ireturn, 1) := by decide +kernel
theorem dJ9_max_7cf53_0 : decode cJ9_max_7cf53 0 = .ok (.iload_n 0, 1) := by decide +kernel
theorem dJ9_max_7cf53_1 : decode cJ9_max_7cf53 1 = .ok (.iload_n 1, 1) := by decide +kernel
theorem dJ9_max_7cf53_2 : decode cJ9_max_7cf53 2 = .ok (.if_icmp .lt 7, 3) := by decide +kernel
theorem dJ9_max_7cf53_5 : decode cJ9_max_7cf53 5 = .ok (.iload_n 0, 1) := by decide +kernel
theorem dJ9_max_7cf53_6 : decode cJ9_max_7cf53 6 = .ok (.goto 4, 3) := by decide +kernel
theorem dJ9_max_7cf53_9 : decode cJ9_max_7cf53 9 = .ok (.iload_n 1, 1) := by decide +kernel
theorem dJ9_max_7cf53_10 : decode cJ9_max_7cf53 10 = .ok (.ireturn, 1) := by decide +kernel
theorem dJ9_min_7cf53_0 : decode cJ9_min_7cf53 0 = .ok (.iload_n 0, 1) := by decide +kernel
theorem dJ9_min_7cf53_1 : decode cJ9_min_7cf53 1 = .ok (.iload_n 1, 1) := by decide +kernel
theorem dJ9_min_7cf53_2 : decode cJ9_min_7cf53 2 = .ok (.if_icmp .gt 7, 3) := by decide +kernel
theorem dJ9_min_7cf53_5 : decode cJ9_min_7cf53 5 = .ok (.iload_n 0, 1) := by decide +kernel
theorem dJ9_min_7cf53_6 : decode cJ9_min_7cf53 6 = .ok (.goto 4, 3) := by decide +kernel
theorem dJ9_min_7cf53_9 : decode cJ9_min_7cf53 9 = .ok (.iload_n 1, 1) := by decide +kernel
theorem dJ9_min_7cf53_10 : decode cJ9_min_7cf53 10 = .ok (.ireturn, 1) := by decide +kernel
theorem dJ7_fill_53178_0 : decode cJ7_fill_53178 0 = .ok (.iconst 0, 1) := by decide +kernel
theorem dJ7_fill_53178_1 : decode cJ7_fill_53178 1 = .ok (.istore_n 2, 1) := by decide +kernel
theorem dJ7_fill_53178_2 : decode cJ7_fill_53178 2 = .ok (.aload_n 0, 1) := by decide +kernel
theorem dJ7_fill_53178_3 : decode cJ7_fill_53178 3 = .ok (.arraylength, 1) := by decide +kernel
theorem dJ7_fill_53178_4 : decode cJ7_fill_53178 4 = .ok (.istore_n 3, 1) := by decide +kernel
theorem dJ7_fill_53178_5 : decode cJ7_fill_53178 5 = .ok (.iload_n 2, 1) := by decide +kernel
theorem dJ7_fill_53178_6 : decode cJ7_fill_53178 6 = .ok (.iload_n 3, 1) := by decide +kernel
theorem dJ7_fill_53178_7 : decode cJ7_fill_53178 7 = .ok (.if_icmp .ge 13, 3) := by decide +kernel
theorem dJ7_fill_53178_10 : decode cJ7_fill_53178 10 = .ok (.aload_n 0, 1) := by decide +kernel
theorem dJ7_fill_53178_11 : decode cJ7_fill_53178 11 = .ok (.iload_n 2, 1) := by decide +kernel
theorem dJ7_fill_53178_12 : decode cJ7_fill_53178 12 = .ok (.iload_n 1, 1) := by decide +kernel
theorem dJ7_fill_53178_13 : decode cJ7_fill_53178 13 = .ok (.iastore, 1) := by decide +kernel
theorem dJ7_fill_53178_14 : decode cJ7_fill_53178 14 = .ok (.iinc 2 1, 3) := by decide +kernel
theorem dJ7_fill_53178_17 : decode cJ7_fill_53178 17 = .ok (.goto (-12), 3) := by decide +kernel
theorem dJ7_fill_53178_20 : decode cJ7_fill_53178 20 = .ok (.return_, 1) := by decide +kernel
