set_option maxRecDepth 20000 in
theorem ggX0_leastAround_X0_valuesIn : GoodIn wsX0_leastAround wsX0_valuesIn := goodIn_r _ [4, 5, 6, 7, 8, 9, 10, 11, 12, 13, 14, 15, 16, 17, 18, 19, 20, 21, 22, 23] (by decide +kernel) (by decide +kernel)
set_option maxRecDepth 20000 in
theorem gX0_leastAround_X0_valuesIn : GoodIn wsX0_leastAround (va_wsS RX0 11 yX0_valuesIn wsX0_valuesIn) := goodIn_app (goodIn_of _ (by decide +kernel)) ggX0_leastAround_X0_valuesIn
theorem dX0_leastAround_0 : decode cX0_leastAround 0 = .ok (.iload_n 1, 1) := by decide +kernel
theorem dX0_leastAround_1 : decode cX0_leastAround 1 = .ok (.istore_n 2, 1) := by decide +kernel
theorem dX0_leastAround_2 : decode cX0_leastAround 2 = .ok (.iconst 0, 1) := by decide +kernel
theorem dX0_leastAround_3 : decode cX0_leastAround 3 = .ok (.istore_n 3, 1) := by decide +kernel
theorem dX0_leastAround_4 : decode cX0_leastAround 4 = .ok (.iload_n 3, 1) := by decide +kernel
theorem dX0_leastAround_5 : decode cX0_leastAround 5 = .ok (.iconst 4, 1) := by decide +kernel
theorem dX0_leastAround_6 : decode cX0_leastAround 6 = .ok (.if_icmp .ge 17, 3) := by decide +kernel
theorem dX0_leastAround_9 : decode cX0_leastAround 9 = .ok (.iload_n 2, 1) := by decide +kernel
theorem dX0_leastAround_10 : decode cX0_leastAround 10 = .ok (.aload_n 0, 1) := by decide +kernel
theorem dX0_leastAround_11 : decode cX0_leastAround 11 = .ok (.iload_n 2, 1) := by decide +kernel
theorem dX0_leastAround_12 : decode cX0_leastAround 12 = .ok (.invokestatic 11, 3) := by decide +kernel
theorem dX0_leastAround_15 : decode cX0_leastAround 15 = .ok (.ior, 1) := by decide +kernel
theorem dX0_leastAround_16 : decode cX0_leastAround 16 = .ok (.istore_n 2, 1) := by decide +kernel
theorem dX0_leastAround_17 : decode cX0_leastAround 17 = .ok (.iinc 3 1, 3) := by decide +kernel
theorem dX0_leastAround_20 : decode cX0_leastAround 20 = .ok (.goto (-16), 3) := by decide +kernel
theorem dX0_leastAround_23 : decode cX0_leastAround 23 = .ok (.iload_n 2, 1) := by decide +kernel
theorem dX0_leastAround_24 : decode cX0_leastAround 24 = .ok (.ireturn, 1) := by decide +kernel
set_option maxRecDepth 20000 in
theorem ggX0_byNumber_X6_allElements : GoodIn wsX0_byNumber wsX6_allElements := goodIn_r _ [5, 6, 30, 31] (by decide +kernel) (by decide +kernel)
set_option maxRecDepth 20000 in
theorem gX0_byNumber_X6_allElements : GoodIn wsX0_byNumber (wsV RX0 17 RX6 yX6_allElements wsX6_allElements) := goodIn_app (goodIn_of _ (by decide +kernel)) ggX0_byNumber_X6_allElements
set_option maxRecDepth 20000 in
theorem ggX0_byNumber_X0_isClosed : GoodIn wsX0_byNumber wsX0_isClosed := goodIn_r _ [10, 11, 12, 9, 13, 14, 15, 16, 17, 4, 18, 19, 20, 21, 22, 23, 24, 25, 26, 27, 28, 29, 30, 31] (by decide +kernel) (by decide +kernel)
set_option maxRecDepth 20000 in
theorem gX0_byNumber_X0_isClosed : GoodIn wsX0_byNumber (va_wsS RX0 21 yX0_isClosed wsX0_isClosed) := goodIn_app (goodIn_of _ (by decide +kernel)) ggX0_byNumber_X0_isClosed
theorem dX0_byNumber_0 : decode cX0_byNumber 0 = .ok (.iconst 0, 1) := by decide +kernel
theorem dX0_byNumber_1 : decode cX0_byNumber 1 = .ok (.istore_n 2, 1) := by decide +kernel
theorem dX0_byNumber_2 : decode cX0_byNumber 2 = .ok (.iconst 0, 1) := by decide +kernel
theorem dX0_byNumber_3 : decode cX0_byNumber 3 = .ok (.istore_n 3, 1) := by decide +kernel
theorem dX0_byNumber_4 : decode cX0_byNumber 4 = .ok (.iload_n 3, 1) := by decide +kernel
theorem dX0_byNumber_5 : decode cX0_byNumber 5 = .ok (.aload_n 0, 1) := by decide +kernel
theorem dX0_byNumber_6 : decode cX0_byNumber 6 = .ok (.invokevirtual 17, 3) := by decide +kernel
theorem dX0_byNumber_9 : decode cX0_byNumber 9 = .ok (.if_icmp .gt 27, 3) := by decide +kernel
theorem dX0_byNumber_12 : decode cX0_byNumber 12 = .ok (.aload_n 0, 1) := by decide +kernel
theorem dX0_byNumber_13 : decode cX0_byNumber 13 = .ok (.iload_n 3, 1) := by decide +kernel
theorem dX0_byNumber_14 : decode cX0_byNumber 14 = .ok (.invokestatic 21, 3) := by decide +kernel
theorem dX0_byNumber_17 : decode cX0_byNumber 17 = .ok (.ifCond .eq 13, 3) := by decide +kernel
theorem dX0_byNumber_20 : decode cX0_byNumber 20 = .ok (.iload_n 2, 1) := by decide +kernel
theorem dX0_byNumber_21 : decode cX0_byNumber 21 = .ok (.iload_n 1, 1) := by decide +kernel
theorem dX0_byNumber_22 : decode cX0_byNumber 22 = .ok (.if_icmp .ne 5, 3) := by decide +kernel
theorem dX0_byNumber_25 : decode cX0_byNumber 25 = .ok (.iload_n 3, 1) := by decide +kernel
theorem dX0_byNumber_26 : decode cX0_byNumber 26 = .ok (.ireturn, 1) := by decide +kernel
theorem dX0_byNumber_27 : decode cX0_byNumber 27 = .ok (.iinc 2 1, 3) := by decide +kernel
theorem dX0_byNumber_30 : decode cX0_byNumber 30 = .ok (.iinc 3 1, 3) := by decide +kernel
theorem dX0_byNumber_33 : decode cX0_byNumber 33 = .ok (.goto (-29), 3) := by decide +kernel
theorem dX0_byNumber_36 : decode cX0_byNumber 36 = .ok (.bipush (-9), 2) := by decide +kernel
theorem dX0_byNumber_38 : decode cX0_byNumber 38 = .ok (.ireturn, 1) := by decide +kernel
set_option maxRecDepth 20000 in
theorem ggX0_howMany_X6_allElements : GoodIn wsX0_howMany wsX6_allElements := goodIn_r _ [5, 6, 30, 31] (by decide +kernel) (by decide +kernel)
set_option maxRecDepth 20000 in
theorem gX0_howMany_X6_allElements : GoodIn wsX0_howMany (wsV RX0 17 RX6 yX6_allElements wsX6_allElements) := goodIn_app (goodIn_of _ (by decide +kernel)) ggX0_howMany_X6_allElements
set_option maxRecDepth 20000 in
theorem ggX0_howMany_X0_isClosed : GoodIn wsX0_howMany wsX0_isClosed := goodIn_r _ [10, 11, 12, 9, 13, 14, 15, 16, 17, 4, 18, 19, 20, 21, 22, 23, 24, 25, 26, 27, 28, 29, 30, 31] (by decide +kernel) (by decide +kernel)
set_option maxRecDepth 20000 in
theorem gX0_howMany_X0_isClosed : GoodIn wsX0_howMany (va_wsS RX0 21 yX0_isClosed wsX0_isClosed) := goodIn_app (goodIn_of _ (by decide +kernel)) ggX0_howMany_X0_isClosed
theorem dX0_howMany_0 : decode cX0_howMany 0 = .ok (.iconst 0, 1) := by decide +kernel
theorem dX0_howMany_1 : decode cX0_howMany 1 = .ok (.istore_n 1, 1) := by decide +kernel
theorem dX0_howMany_2 : decode cX0_howMany 2 = .ok (.iconst 0, 1) := by decide +kernel
theorem dX0_howMany_3 : decode cX0_howMany 3 = .ok (.istore_n 2, 1) := by decide +kernel
theorem dX0_howMany_4 : decode cX0_howMany 4 = .ok (.iload_n 2, 1) := by decide +kernel
theorem dX0_howMany_5 : decode cX0_howMany 5 = .ok (.aload_n 0, 1) := by decide +kernel
theorem dX0_howMany_6 : decode cX0_howMany 6 = .ok (.invokevirtual 17, 3) := by decide +kernel
theorem dX0_howMany_9 : decode cX0_howMany 9 = .ok (.if_icmp .gt 20, 3) := by decide +kernel
theorem dX0_howMany_12 : decode cX0_howMany 12 = .ok (.aload_n 0, 1) := by decide +kernel
theorem dX0_howMany_13 : decode cX0_howMany 13 = .ok (.iload_n 2, 1) := by decide +kernel
theorem dX0_howMany_14 : decode cX0_howMany 14 = .ok (.invokestatic 21, 3) := by decide +kernel
theorem dX0_howMany_17 : decode cX0_howMany 17 = .ok (.ifCond .eq 6, 3) := by decide +kernel
theorem dX0_howMany_20 : decode cX0_howMany 20 = .ok (.iinc 1 1, 3) := by decide +kernel
theorem dX0_howMany_23 : decode cX0_howMany 23 = .ok (.iinc 2 1, 3) := by decide +kernel
theorem dX0_howMany_26 : decode cX0_howMany 26 = .ok (.goto (-22), 3) := by decide +kernel
theorem dX0_howMany_29 : decode cX0_howMany 29 = .ok (.iload_n 1, 1) := by decide +kernel
theorem dX0_howMany_30 : decode cX0_howMany 30 = .ok (.ireturn, 1) := by decide +kernel
set_option maxRecDepth 20000 in
theorem ggX0_isClosed_X0_valuesIn : GoodIn wsX0_isClosed wsX0_valuesIn := goodIn_r _ [4, 5, 6, 7, 8, 9, 10, 11, 12, 13, 14, 15, 16, 17, 18, 19, 20, 21, 22, 23] (by decide +kernel) (by decide +kernel)
set_option maxRecDepth 20000 in
theorem gX0_isClosed_X0_valuesIn : GoodIn wsX0_isClosed (va_wsS RX0 11 yX0_valuesIn wsX0_valuesIn) := goodIn_app (goodIn_of _ (by decide +kernel)) ggX0_isClosed_X0_valuesIn
theorem dX0_isClosed_0 : decode cX0_isClosed 0 = .ok (.aload_n 0, 1) := by decide +kernel
theorem dX0_isClosed_1 : decode cX0_isClosed 1 = .ok (.iload_n 1, 1) := by decide +kernel
theorem dX0_isClosed_2 : decode cX0_isClosed 2 = .ok (.invokestatic 11, 3) := by decide +kernel
theorem dX0_isClosed_5 : decode cX0_isClosed 5 = .ok (.iload_n 1, 1) := by decide +kernel
theorem dX0_isClosed_6 : decode cX0_isClosed 6 = .ok (.iconst (-1), 1) := by decide +kernel
theorem dX0_isClosed_7 : decode cX0_isClosed 7 = .ok (.ixor, 1) := by decide +kernel
theorem dX0_isClosed_8 : decode cX0_isClosed 8 = .ok (.iand, 1) := by decide +kernel
theorem dX0_isClosed_9 : decode cX0_isClosed 9 = .ok (.ifCond .ne 7, 3) := by decide +kernel
theorem dX0_isClosed_12 : decode cX0_isClosed 12 = .ok (.iconst 1, 1) := by decide +kernel
theorem dX0_isClosed_13 : decode cX0_isClosed 13 = .ok (.goto 4, 3) := by decide +kernel
theorem dX0_isClosed_16 : decode cX0_isClosed 16 = .ok (.iconst 0, 1) := by decide +kernel
theorem dX0_isClosed_17 : decode cX0_isClosed 17 = .ok (.ireturn, 1) := by decide +kernel
set_option maxRecDepth 20000 in
theorem ggX0_valuesIn_X6_one : GoodIn wsX0_valuesIn wsX6_one := goodIn_r _ [6, 7, 8, 9, 5, 10, 18, 19] (by decide +kernel) (by decide +kernel)
set_option maxRecDepth 20000 in
theorem gX0_valuesIn_X6_one : GoodIn wsX0_valuesIn (wsV RX0 29 RX6 yX6_one wsX6_one) := goodIn_app (goodIn_of _ (by decide +kernel)) ggX0_valuesIn_X6_one
set_option maxRecDepth 20000 in
theorem ggX0_valuesIn_X6_two : GoodIn wsX0_valuesIn wsX6_two := goodIn_r _ [14, 7, 15, 16, 5, 17, 18, 19] (by decide +kernel) (by decide +kernel)
set_option maxRecDepth 20000 in
theorem gX0_valuesIn_X6_two : GoodIn wsX0_valuesIn (wsV RX0 33 RX6 yX6_two wsX6_two) := goodIn_app (goodIn_of _ (by decide +kernel)) ggX0_valuesIn_X6_two
theorem dX0_valuesIn_0 : decode cX0_valuesIn 0 = .ok (.iconst 0, 1) := by decide +kernel
theorem dX0_valuesIn_1 : decode cX0_valuesIn 1 = .ok (.istore_n 2, 1) := by decide +kernel
theorem dX0_valuesIn_2 : decode cX0_valuesIn 2 = .ok (.iconst 0, 1) := by decide +kernel
theorem dX0_valuesIn_3 : decode cX0_valuesIn 3 = .ok (.istore_n 3, 1) := by decide +kernel
theorem dX0_valuesIn_4 : decode cX0_valuesIn 4 = .ok (.iload_n 3, 1) := by decide +kernel
theorem dX0_valuesIn_5 : decode cX0_valuesIn 5 = .ok (.aload_n 0, 1) := by decide +kernel
theorem dX0_valuesIn_6 : decode cX0_valuesIn 6 = .ok (.getfield 25, 3) := by decide +kernel
theorem dX0_valuesIn_9 : decode cX0_valuesIn 9 = .ok (.if_icmp .ge 66, 3) := by decide +kernel
theorem dX0_valuesIn_12 : decode cX0_valuesIn 12 = .ok (.iload_n 1, 1) := by decide +kernel
theorem dX0_valuesIn_13 : decode cX0_valuesIn 13 = .ok (.iload_n 3, 1) := by decide +kernel
theorem dX0_valuesIn_14 : decode cX0_valuesIn 14 = .ok (.ishr, 1) := by decide +kernel
theorem dX0_valuesIn_15 : decode cX0_valuesIn 15 = .ok (.iconst 1, 1) := by decide +kernel
theorem dX0_valuesIn_16 : decode cX0_valuesIn 16 = .ok (.iand, 1) := by decide +kernel
theorem dX0_valuesIn_17 : decode cX0_valuesIn 17 = .ok (.ifCond .eq 52, 3) := by decide +kernel
theorem dX0_valuesIn_20 : decode cX0_valuesIn 20 = .ok (.iload_n 2, 1) := by decide +kernel
theorem dX0_valuesIn_21 : decode cX0_valuesIn 21 = .ok (.iconst 1, 1) := by decide +kernel
theorem dX0_valuesIn_22 : decode cX0_valuesIn 22 = .ok (.aload_n 0, 1) := by decide +kernel
theorem dX0_valuesIn_23 : decode cX0_valuesIn 23 = .ok (.iload_n 3, 1) := by decide +kernel
theorem dX0_valuesIn_24 : decode cX0_valuesIn 24 = .ok (.invokevirtual 29, 3) := by decide +kernel
theorem dX0_valuesIn_27 : decode cX0_valuesIn 27 = .ok (.ishl, 1) := by decide +kernel
theorem dX0_valuesIn_28 : decode cX0_valuesIn 28 = .ok (.ior, 1) := by decide +kernel
theorem dX0_valuesIn_29 : decode cX0_valuesIn 29 = .ok (.istore_n 2, 1) := by decide +kernel
theorem dX0_valuesIn_30 : decode cX0_valuesIn 30 = .ok (.iconst 0, 1) := by decide +kernel
theorem dX0_valuesIn_31 : decode cX0_valuesIn 31 = .ok (.istore 4, 2) := by decide +kernel
theorem dX0_valuesIn_33 : decode cX0_valuesIn 33 = .ok (.iload 4, 2) := by decide +kernel
theorem dX0_valuesIn_35 : decode cX0_valuesIn 35 = .ok (.aload_n 0, 1) := by decide +kernel
theorem dX0_valuesIn_36 : decode cX0_valuesIn 36 = .ok (.getfield 25, 3) := by decide +kernel
theorem dX0_valuesIn_39 : decode cX0_valuesIn 39 = .ok (.if_icmp .ge 30, 3) := by decide +kernel
theorem dX0_valuesIn_42 : decode cX0_valuesIn 42 = .ok (.iload_n 1, 1) := by decide +kernel
theorem dX0_valuesIn_43 : decode cX0_valuesIn 43 = .ok (.iload 4, 2) := by decide +kernel
theorem dX0_valuesIn_45 : decode cX0_valuesIn 45 = .ok (.ishr, 1) := by decide +kernel
theorem dX0_valuesIn_46 : decode cX0_valuesIn 46 = .ok (.iconst 1, 1) := by decide +kernel
theorem dX0_valuesIn_47 : decode cX0_valuesIn 47 = .ok (.iand, 1) := by decide +kernel
theorem dX0_valuesIn_48 : decode cX0_valuesIn 48 = .ok (.ifCond .eq 15, 3) := by decide +kernel
theorem dX0_valuesIn_51 : decode cX0_valuesIn 51 = .ok (.iload_n 2, 1) := by decide +kernel
theorem dX0_valuesIn_52 : decode cX0_valuesIn 52 = .ok (.iconst 1, 1) := by decide +kernel
theorem dX0_valuesIn_53 : decode cX0_valuesIn 53 = .ok (.aload_n 0, 1) := by decide +kernel
theorem dX0_valuesIn_54 : decode cX0_valuesIn 54 = .ok (.iload_n 3, 1) := by decide +kernel
theorem dX0_valuesIn_55 : decode cX0_valuesIn 55 = .ok (.iload 4, 2) := by decide +kernel
theorem dX0_valuesIn_57 : decode cX0_valuesIn 57 = .ok (.invokevirtual 33, 3) := by decide +kernel
theorem dX0_valuesIn_60 : decode cX0_valuesIn 60 = .ok (.ishl, 1) := by decide +kernel
theorem dX0_valuesIn_61 : decode cX0_valuesIn 61 = .ok (.ior, 1) := by decide +kernel
theorem dX0_valuesIn_62 : decode cX0_valuesIn 62 = .ok (.istore_n 2, 1) := by decide +kernel
theorem dX0_valuesIn_63 : decode cX0_valuesIn 63 = .ok (.iinc 4 1, 3) := by decide +kernel
theorem dX0_valuesIn_66 : decode cX0_valuesIn 66 = .ok (.goto (-33), 3) := by decide +kernel
theorem dX0_valuesIn_69 : decode cX0_valuesIn 69 = .ok (.iinc 3 1, 3) := by decide +kernel
theorem dX0_valuesIn_72 : decode cX0_valuesIn 72 = .ok (.goto (-68), 3) := by decide +kernel
theorem dX0_valuesIn_75 : decode cX0_valuesIn 75 = .ok (.iload_n 2, 1) := by decide +kernel
theorem dX0_valuesIn_76 : decode cX0_valuesIn 76 = .ok (.ireturn, 1) := by decide +kernel
theorem dX1_init_0 : decode cX1_init 0 = .ok (.aload_n 0, 1) := by decide +kernel
theorem dX1_init_1 : decode cX1_init 1 = .ok (.invokespecial 1, 3) := by decide +kernel
theorem dX1_init_4 : decode cX1_init 4 = .ok (.aload_n 0, 1) := by decide +kernel
theorem dX1_init_5 : decode cX1_init 5 = .ok (.getstatic 7, 3) := by decide +kernel
theorem dX1_init_8 : decode cX1_init 8 = .ok (.arraylength, 1) := by decide +kernel
theorem dX1_init_9 : decode cX1_init 9 = .ok (.newarray .int, 2) := by decide +kernel
theorem dX1_init_11 : decode cX1_init 11 = .ok (.putfield 13, 3) := by decide +kernel
theorem dX1_init_14 : decode cX1_init 14 = .ok (.return_, 1) := by decide +kernel
set_option maxRecDepth 20000 in
theorem ggX1_seekIn_X1_isOfFirst : GoodIn wsX1_seekIn wsX1_isOfFirst := goodIn_r _ [9, 10, 11, 8, 12] (by decide +kernel) (by decide +kernel)
set_option maxRecDepth 20000 in
theorem gX1_seekIn_X1_isOfFirst : GoodIn wsX1_seekIn (va_wsS RX1 26 yX1_isOfFirst wsX1_isOfFirst) := goodIn_app (goodIn_of _ (by decide +kernel)) ggX1_seekIn_X1_isOfFirst
set_option maxRecDepth 20000 in
theorem ggX1_seekIn_X1_goesAlong : GoodIn wsX1_seekIn wsX1_goesAlong := goodIn_r _ [15, 1, 10, 11, 8, 12, 16, 17, 18, 19, 20, 21, 22, 23, 24, 25, 26, 27, 28, 29, 30, 31, 32, 33, 34, 35, 36] (by decide +kernel) (by decide +kernel)
set_option maxRecDepth 20000 in
theorem gX1_seekIn_X1_goesAlong : GoodIn wsX1_seekIn (va_wsS RX1 30 yX1_goesAlong wsX1_goesAlong) := goodIn_app (goodIn_of _ (by decide +kernel)) ggX1_seekIn_X1_goesAlong
theorem dX1_seekIn_0 : decode cX1_seekIn 0 = .ok (.aload_n 0, 1) := by decide +kernel
theorem dX1_seekIn_1 : decode cX1_seekIn 1 = .ok (.aload_n 1, 1) := by decide +kernel
theorem dX1_seekIn_2 : decode cX1_seekIn 2 = .ok (.getfield 16, 3) := by decide +kernel
theorem dX1_seekIn_5 : decode cX1_seekIn 5 = .ok (.putfield 22, 3) := by decide +kernel
theorem dX1_seekIn_8 : decode cX1_seekIn 8 = .ok (.aload_n 0, 1) := by decide +kernel
theorem dX1_seekIn_9 : decode cX1_seekIn 9 = .ok (.iconst 0, 1) := by decide +kernel
theorem dX1_seekIn_10 : decode cX1_seekIn 10 = .ok (.putfield 23, 3) := by decide +kernel
theorem dX1_seekIn_13 : decode cX1_seekIn 13 = .ok (.iconst 0, 1) := by decide +kernel
theorem dX1_seekIn_14 : decode cX1_seekIn 14 = .ok (.istore_n 2, 1) := by decide +kernel
theorem dX1_seekIn_15 : decode cX1_seekIn 15 = .ok (.iload_n 2, 1) := by decide +kernel
theorem dX1_seekIn_16 : decode cX1_seekIn 16 = .ok (.getstatic 7, 3) := by decide +kernel
theorem dX1_seekIn_19 : decode cX1_seekIn 19 = .ok (.arraylength, 1) := by decide +kernel
theorem dX1_seekIn_20 : decode cX1_seekIn 20 = .ok (.if_icmp .ge 60, 3) := by decide +kernel
theorem dX1_seekIn_23 : decode cX1_seekIn 23 = .ok (.aload_n 0, 1) := by decide +kernel
theorem dX1_seekIn_24 : decode cX1_seekIn 24 = .ok (.getfield 22, 3) := by decide +kernel
theorem dX1_seekIn_27 : decode cX1_seekIn 27 = .ok (.getstatic 7, 3) := by decide +kernel
theorem dX1_seekIn_30 : decode cX1_seekIn 30 = .ok (.iload_n 2, 1) := by decide +kernel
theorem dX1_seekIn_31 : decode cX1_seekIn 31 = .ok (.iaload, 1) := by decide +kernel
theorem dX1_seekIn_32 : decode cX1_seekIn 32 = .ok (.invokestatic 26, 3) := by decide +kernel
theorem dX1_seekIn_35 : decode cX1_seekIn 35 = .ok (.ifCond .eq 39, 3) := by decide +kernel
theorem dX1_seekIn_38 : decode cX1_seekIn 38 = .ok (.aload_n 1, 1) := by decide +kernel
theorem dX1_seekIn_39 : decode cX1_seekIn 39 = .ok (.getstatic 7, 3) := by decide +kernel
theorem dX1_seekIn_42 : decode cX1_seekIn 42 = .ok (.iload_n 2, 1) := by decide +kernel
theorem dX1_seekIn_43 : decode cX1_seekIn 43 = .ok (.iaload, 1) := by decide +kernel
theorem dX1_seekIn_44 : decode cX1_seekIn 44 = .ok (.invokestatic 30, 3) := by decide +kernel
theorem dX1_seekIn_47 : decode cX1_seekIn 47 = .ok (.ifCond .eq 27, 3) := by decide +kernel
theorem dX1_seekIn_50 : decode cX1_seekIn 50 = .ok (.aload_n 0, 1) := by decide +kernel
theorem dX1_seekIn_51 : decode cX1_seekIn 51 = .ok (.getfield 13, 3) := by decide +kernel
theorem dX1_seekIn_54 : decode cX1_seekIn 54 = .ok (.aload_n 0, 1) := by decide +kernel
theorem dX1_seekIn_55 : decode cX1_seekIn 55 = .ok (.getfield 23, 3) := by decide +kernel
theorem dX1_seekIn_58 : decode cX1_seekIn 58 = .ok (.getstatic 7, 3) := by decide +kernel
theorem dX1_seekIn_61 : decode cX1_seekIn 61 = .ok (.iload_n 2, 1) := by decide +kernel
theorem dX1_seekIn_62 : decode cX1_seekIn 62 = .ok (.iaload, 1) := by decide +kernel
theorem dX1_seekIn_63 : decode cX1_seekIn 63 = .ok (.iastore, 1) := by decide +kernel
theorem dX1_seekIn_64 : decode cX1_seekIn 64 = .ok (.aload_n 0, 1) := by decide +kernel
theorem dX1_seekIn_65 : decode cX1_seekIn 65 = .ok (.dup, 1) := by decide +kernel
theorem dX1_seekIn_66 : decode cX1_seekIn 66 = .ok (.getfield 23, 3) := by decide +kernel
theorem dX1_seekIn_69 : decode cX1_seekIn 69 = .ok (.iconst 1, 1) := by decide +kernel
theorem dX1_seekIn_70 : decode cX1_seekIn 70 = .ok (.iadd, 1) := by decide +kernel
theorem dX1_seekIn_71 : decode cX1_seekIn 71 = .ok (.putfield 23, 3) := by decide +kernel
theorem dX1_seekIn_74 : decode cX1_seekIn 74 = .ok (.iinc 2 1, 3) := by decide +kernel
theorem dX1_seekIn_77 : decode cX1_seekIn 77 = .ok (.goto (-62), 3) := by decide +kernel
theorem dX1_seekIn_80 : decode cX1_seekIn 80 = .ok (.return_, 1) := by decide +kernel
theorem dX1_isThere_0 : decode cX1_isThere 0 = .ok (.iload_n 1, 1) := by decide +kernel
theorem dX1_isThere_1 : decode cX1_isThere 1 = .ok (.ifCond .lt 24, 3) := by decide +kernel
theorem dX1_isThere_4 : decode cX1_isThere 4 = .ok (.iload_n 1, 1) := by decide +kernel
theorem dX1_isThere_5 : decode cX1_isThere 5 = .ok (.aload_n 0, 1) := by decide +kernel
theorem dX1_isThere_6 : decode cX1_isThere 6 = .ok (.getfield 23, 3) := by decide +kernel
theorem dX1_isThere_9 : decode cX1_isThere 9 = .ok (.if_icmp .ge 16, 3) := by decide +kernel
theorem dX1_isThere_12 : decode cX1_isThere 12 = .ok (.iload_n 1, 1) := by decide +kernel
theorem dX1_isThere_13 : decode cX1_isThere 13 = .ok (.aload_n 0, 1) := by decide +kernel
theorem dX1_isThere_14 : decode cX1_isThere 14 = .ok (.getfield 13, 3) := by decide +kernel
theorem dX1_isThere_17 : decode cX1_isThere 17 = .ok (.arraylength, 1) := by decide +kernel
theorem dX1_isThere_18 : decode cX1_isThere 18 = .ok (.if_icmp .ge 7, 3) := by decide +kernel
theorem dX1_isThere_21 : decode cX1_isThere 21 = .ok (.iconst 1, 1) := by decide +kernel
theorem dX1_isThere_22 : decode cX1_isThere 22 = .ok (.goto 4, 3) := by decide +kernel
theorem dX1_isThere_25 : decode cX1_isThere 25 = .ok (.iconst 0, 1) := by decide +kernel
theorem dX1_isThere_26 : decode cX1_isThere 26 = .ok (.ireturn, 1) := by decide +kernel
set_option maxRecDepth 20000 in
theorem ggX1_partition_X1_isThere : GoodIn wsX1_partition wsX1_isThere := goodIn_r _ [6, 7, 1, 8, 9, 10] (by decide +kernel) (by decide +kernel)
set_option maxRecDepth 20000 in
theorem gX1_partition_X1_isThere : GoodIn wsX1_partition (wsV RX1 34 RX1 yX1_isThere wsX1_isThere) := goodIn_app (goodIn_of _ (by decide +kernel)) ggX1_partition_X1_isThere
theorem dX1_partition_0 : decode cX1_partition 0 = .ok (.aload_n 0, 1) := by decide +kernel
theorem dX1_partition_1 : decode cX1_partition 1 = .ok (.iload_n 1, 1) := by decide +kernel
theorem dX1_partition_2 : decode cX1_partition 2 = .ok (.invokevirtual 34, 3) := by decide +kernel
theorem dX1_partition_5 : decode cX1_partition 5 = .ok (.ifCond .eq 12, 3) := by decide +kernel
theorem dX1_partition_8 : decode cX1_partition 8 = .ok (.aload_n 0, 1) := by decide +kernel
theorem dX1_partition_9 : decode cX1_partition 9 = .ok (.getfield 13, 3) := by decide +kernel
theorem dX1_partition_12 : decode cX1_partition 12 = .ok (.iload_n 1, 1) := by decide +kernel
theorem dX1_partition_13 : decode cX1_partition 13 = .ok (.iaload, 1) := by decide +kernel
theorem dX1_partition_14 : decode cX1_partition 14 = .ok (.goto 4, 3) := by decide +kernel
theorem dX1_partition_17 : decode cX1_partition 17 = .ok (.iconst 0, 1) := by decide +kernel
theorem dX1_partition_18 : decode cX1_partition 18 = .ok (.ireturn, 1) := by decide +kernel
set_option maxRecDepth 20000 in
theorem ggX1_nameOf_X1_partition : GoodIn wsX1_nameOf wsX1_partition := goodIn_r _ [6, 7, 8, 9, 10, 5, 11, 12, 16, 17, 18] (by decide +kernel) (by decide +kernel)
set_option maxRecDepth 20000 in
theorem gX1_nameOf_X1_partition : GoodIn wsX1_nameOf (wsV RX1 38 RX1 yX1_partition wsX1_partition) := goodIn_app (goodIn_of _ (by decide +kernel)) ggX1_nameOf_X1_partition
set_option maxRecDepth 20000 in
theorem ggX1_nameOf_X1_least : GoodIn wsX1_nameOf wsX1_least := goodIn_r _ [15] (by decide +kernel) (by decide +kernel)
set_option maxRecDepth 20000 in
theorem gX1_nameOf_X1_least : GoodIn wsX1_nameOf (va_wsS RX1 42 yX1_least wsX1_least) := goodIn_app (goodIn_of _ (by decide +kernel)) ggX1_nameOf_X1_least
theorem dX1_nameOf_0 : decode cX1_nameOf 0 = .ok (.iconst 0, 1) := by decide +kernel
theorem dX1_nameOf_1 : decode cX1_nameOf 1 = .ok (.istore_n 2, 1) := by decide +kernel
theorem dX1_nameOf_2 : decode cX1_nameOf 2 = .ok (.iconst 0, 1) := by decide +kernel
theorem dX1_nameOf_3 : decode cX1_nameOf 3 = .ok (.istore_n 3, 1) := by decide +kernel
theorem dX1_nameOf_4 : decode cX1_nameOf 4 = .ok (.iload_n 3, 1) := by decide +kernel
theorem dX1_nameOf_5 : decode cX1_nameOf 5 = .ok (.aload_n 0, 1) := by decide +kernel
theorem dX1_nameOf_6 : decode cX1_nameOf 6 = .ok (.getfield 22, 3) := by decide +kernel
theorem dX1_nameOf_9 : decode cX1_nameOf 9 = .ok (.if_icmp .ge 24, 3) := by decide +kernel
theorem dX1_nameOf_12 : decode cX1_nameOf 12 = .ok (.bipush 10, 2) := by decide +kernel
theorem dX1_nameOf_14 : decode cX1_nameOf 14 = .ok (.iload_n 2, 1) := by decide +kernel
theorem dX1_nameOf_15 : decode cX1_nameOf 15 = .ok (.imul, 1) := by decide +kernel
theorem dX1_nameOf_16 : decode cX1_nameOf 16 = .ok (.aload_n 0, 1) := by decide +kernel
theorem dX1_nameOf_17 : decode cX1_nameOf 17 = .ok (.iload_n 1, 1) := by decide +kernel
theorem dX1_nameOf_18 : decode cX1_nameOf 18 = .ok (.invokevirtual 38, 3) := by decide +kernel
theorem dX1_nameOf_21 : decode cX1_nameOf 21 = .ok (.iload_n 3, 1) := by decide +kernel
theorem dX1_nameOf_22 : decode cX1_nameOf 22 = .ok (.invokestatic 42, 3) := by decide +kernel
theorem dX1_nameOf_25 : decode cX1_nameOf 25 = .ok (.iadd, 1) := by decide +kernel
theorem dX1_nameOf_26 : decode cX1_nameOf 26 = .ok (.istore_n 2, 1) := by decide +kernel
theorem dX1_nameOf_27 : decode cX1_nameOf 27 = .ok (.iinc 3 1, 3) := by decide +kernel
theorem dX1_nameOf_30 : decode cX1_nameOf 30 = .ok (.goto (-26), 3) := by decide +kernel
theorem dX1_nameOf_33 : decode cX1_nameOf 33 = .ok (.iload_n 2, 1) := by decide +kernel
theorem dX1_nameOf_34 : decode cX1_nameOf 34 = .ok (.ireturn, 1) := by decide +kernel
set_option maxRecDepth 20000 in
theorem ggX1_finestWith_X1_partition : GoodIn wsX1_finestWith wsX1_partition := goodIn_r _ [6, 7, 8, 9, 10, 5, 11, 1, 18, 19, 20] (by decide +kernel) (by decide +kernel)
set_option maxRecDepth 20000 in
theorem gX1_finestWith_X1_partition : GoodIn wsX1_finestWith (wsV RX1 38 RX1 yX1_partition wsX1_partition) := goodIn_app (goodIn_of _ (by decide +kernel)) ggX1_finestWith_X1_partition
set_option maxRecDepth 20000 in
theorem ggX1_finestWith_X1_together : GoodIn wsX1_finestWith wsX1_together := goodIn_r _ [14, 15, 16, 5, 17] (by decide +kernel) (by decide +kernel)
set_option maxRecDepth 20000 in
theorem gX1_finestWith_X1_together : GoodIn wsX1_finestWith (va_wsS RX1 46 yX1_together wsX1_together) := goodIn_app (goodIn_of _ (by decide +kernel)) ggX1_finestWith_X1_together
theorem dX1_finestWith_0 : decode cX1_finestWith 0 = .ok (.aload_n 0, 1) := by decide +kernel
theorem dX1_finestWith_1 : decode cX1_finestWith 1 = .ok (.getfield 23, 3) := by decide +kernel
theorem dX1_finestWith_4 : decode cX1_finestWith 4 = .ok (.iconst 1, 1) := by decide +kernel
theorem dX1_finestWith_5 : decode cX1_finestWith 5 = .ok (.isub, 1) := by decide +kernel
theorem dX1_finestWith_6 : decode cX1_finestWith 6 = .ok (.istore_n 3, 1) := by decide +kernel
theorem dX1_finestWith_7 : decode cX1_finestWith 7 = .ok (.iload_n 3, 1) := by decide +kernel
theorem dX1_finestWith_8 : decode cX1_finestWith 8 = .ok (.ifCond .le 24, 3) := by decide +kernel
theorem dX1_finestWith_11 : decode cX1_finestWith 11 = .ok (.aload_n 0, 1) := by decide +kernel
theorem dX1_finestWith_12 : decode cX1_finestWith 12 = .ok (.iload_n 3, 1) := by decide +kernel
theorem dX1_finestWith_13 : decode cX1_finestWith 13 = .ok (.invokevirtual 38, 3) := by decide +kernel
theorem dX1_finestWith_16 : decode cX1_finestWith 16 = .ok (.iload_n 1, 1) := by decide +kernel
theorem dX1_finestWith_17 : decode cX1_finestWith 17 = .ok (.iload_n 2, 1) := by decide +kernel
theorem dX1_finestWith_18 : decode cX1_finestWith 18 = .ok (.invokestatic 46, 3) := by decide +kernel
theorem dX1_finestWith_21 : decode cX1_finestWith 21 = .ok (.ifCond .eq 5, 3) := by decide +kernel
theorem dX1_finestWith_24 : decode cX1_finestWith 24 = .ok (.iload_n 3, 1) := by decide +kernel
theorem dX1_finestWith_25 : decode cX1_finestWith 25 = .ok (.ireturn, 1) := by decide +kernel
theorem dX1_finestWith_26 : decode cX1_finestWith 26 = .ok (.iinc 3 (-1), 3) := by decide +kernel
theorem dX1_finestWith_29 : decode cX1_finestWith 29 = .ok (.goto (-22), 3) := by decide +kernel
theorem dX1_finestWith_32 : decode cX1_finestWith 32 = .ok (.iconst 0, 1) := by decide +kernel
theorem dX1_finestWith_33 : decode cX1_finestWith 33 = .ok (.ireturn, 1) := by decide +kernel
set_option maxRecDepth 20000 in
theorem ggX1_join_X1_isFiner : GoodIn wsX1_join wsX1_isFiner := goodIn_r _ [6, 7, 8, 9, 10, 5, 11, 12, 13, 14, 15, 16, 1, 17, 18, 19, 20, 21, 22, 23, 24, 25] (by decide +kernel) (by decide +kernel)
set_option maxRecDepth 20000 in
theorem gX1_join_X1_isFiner : GoodIn wsX1_join (wsV RX1 50 RX1 yX1_isFiner wsX1_isFiner) := goodIn_app (goodIn_of _ (by decide +kernel)) ggX1_join_X1_isFiner
theorem dX1_join_0 : decode cX1_join 0 = .ok (.aload_n 0, 1) := by decide +kernel
theorem dX1_join_1 : decode cX1_join 1 = .ok (.getfield 23, 3) := by decide +kernel
theorem dX1_join_4 : decode cX1_join 4 = .ok (.iconst 1, 1) := by decide +kernel
theorem dX1_join_5 : decode cX1_join 5 = .ok (.isub, 1) := by decide +kernel
theorem dX1_join_6 : decode cX1_join 6 = .ok (.istore_n 3, 1) := by decide +kernel
theorem dX1_join_7 : decode cX1_join 7 = .ok (.iload_n 3, 1) := by decide +kernel
theorem dX1_join_8 : decode cX1_join 8 = .ok (.ifCond .le 29, 3) := by decide +kernel
theorem dX1_join_11 : decode cX1_join 11 = .ok (.aload_n 0, 1) := by decide +kernel
theorem dX1_join_12 : decode cX1_join 12 = .ok (.iload_n 1, 1) := by decide +kernel
theorem dX1_join_13 : decode cX1_join 13 = .ok (.iload_n 3, 1) := by decide +kernel
theorem dX1_join_14 : decode cX1_join 14 = .ok (.invokevirtual 50, 3) := by decide +kernel
theorem dX1_join_17 : decode cX1_join 17 = .ok (.ifCond .eq 14, 3) := by decide +kernel
theorem dX1_join_20 : decode cX1_join 20 = .ok (.aload_n 0, 1) := by decide +kernel
theorem dX1_join_21 : decode cX1_join 21 = .ok (.iload_n 2, 1) := by decide +kernel
theorem dX1_join_22 : decode cX1_join 22 = .ok (.iload_n 3, 1) := by decide +kernel
theorem dX1_join_23 : decode cX1_join 23 = .ok (.invokevirtual 50, 3) := by decide +kernel
theorem dX1_join_26 : decode cX1_join 26 = .ok (.ifCond .eq 5, 3) := by decide +kernel
theorem dX1_join_29 : decode cX1_join 29 = .ok (.iload_n 3, 1) := by decide +kernel
theorem dX1_join_30 : decode cX1_join 30 = .ok (.ireturn, 1) := by decide +kernel
theorem dX1_join_31 : decode cX1_join 31 = .ok (.iinc 3 (-1), 3) := by decide +kernel
theorem dX1_join_34 : decode cX1_join 34 = .ok (.goto (-27), 3) := by decide +kernel
theorem dX1_join_37 : decode cX1_join 37 = .ok (.iconst 0, 1) := by decide +kernel
theorem dX1_join_38 : decode cX1_join 38 = .ok (.ireturn, 1) := by decide +kernel
set_option maxRecDepth 20000 in
theorem ggX1_meet_X1_isFiner : GoodIn wsX1_meet wsX1_isFiner := goodIn_r _ [6, 7, 8, 9, 10, 5, 11, 12, 13, 14, 15, 16, 1, 17, 18, 19, 20, 21, 22, 23, 24, 25] (by decide +kernel) (by decide +kernel)
set_option maxRecDepth 20000 in
theorem gX1_meet_X1_isFiner : GoodIn wsX1_meet (wsV RX1 50 RX1 yX1_isFiner wsX1_isFiner) := goodIn_app (goodIn_of _ (by decide +kernel)) ggX1_meet_X1_isFiner
theorem dX1_meet_0 : decode cX1_meet 0 = .ok (.iconst 0, 1) := by decide +kernel
theorem dX1_meet_1 : decode cX1_meet 1 = .ok (.istore_n 3, 1) := by decide +kernel
theorem dX1_meet_2 : decode cX1_meet 2 = .ok (.iload_n 3, 1) := by decide +kernel
theorem dX1_meet_3 : decode cX1_meet 3 = .ok (.aload_n 0, 1) := by decide +kernel
theorem dX1_meet_4 : decode cX1_meet 4 = .ok (.getfield 23, 3) := by decide +kernel
theorem dX1_meet_7 : decode cX1_meet 7 = .ok (.if_icmp .ge 29, 3) := by decide +kernel
theorem dX1_meet_10 : decode cX1_meet 10 = .ok (.aload_n 0, 1) := by decide +kernel
theorem dX1_meet_11 : decode cX1_meet 11 = .ok (.iload_n 3, 1) := by decide +kernel
theorem dX1_meet_12 : decode cX1_meet 12 = .ok (.iload_n 1, 1) := by decide +kernel
theorem dX1_meet_13 : decode cX1_meet 13 = .ok (.invokevirtual 50, 3) := by decide +kernel
theorem dX1_meet_16 : decode cX1_meet 16 = .ok (.ifCond .eq 14, 3) := by decide +kernel
theorem dX1_meet_19 : decode cX1_meet 19 = .ok (.aload_n 0, 1) := by decide +kernel
theorem dX1_meet_20 : decode cX1_meet 20 = .ok (.iload_n 3, 1) := by decide +kernel
theorem dX1_meet_21 : decode cX1_meet 21 = .ok (.iload_n 2, 1) := by decide +kernel
theorem dX1_meet_22 : decode cX1_meet 22 = .ok (.invokevirtual 50, 3) := by decide +kernel
theorem dX1_meet_25 : decode cX1_meet 25 = .ok (.ifCond .eq 5, 3) := by decide +kernel
theorem dX1_meet_28 : decode cX1_meet 28 = .ok (.iload_n 3, 1) := by decide +kernel
theorem dX1_meet_29 : decode cX1_meet 29 = .ok (.ireturn, 1) := by decide +kernel
theorem dX1_meet_30 : decode cX1_meet 30 = .ok (.iinc 3 1, 3) := by decide +kernel
theorem dX1_meet_33 : decode cX1_meet 33 = .ok (.goto (-31), 3) := by decide +kernel
theorem dX1_meet_36 : decode cX1_meet 36 = .ok (.aload_n 0, 1) := by decide +kernel
theorem dX1_meet_37 : decode cX1_meet 37 = .ok (.getfield 23, 3) := by decide +kernel
theorem dX1_meet_40 : decode cX1_meet 40 = .ok (.iconst 1, 1) := by decide +kernel
theorem dX1_meet_41 : decode cX1_meet 41 = .ok (.isub, 1) := by decide +kernel
theorem dX1_meet_42 : decode cX1_meet 42 = .ok (.ireturn, 1) := by decide +kernel
set_option maxRecDepth 20000 in
theorem ggX1_isFiner_X1_partition : GoodIn wsX1_isFiner wsX1_partition := goodIn_r _ [6, 7, 8, 9, 10, 5, 11, 12, 19, 20, 21] (by decide +kernel) (by decide +kernel)
set_option maxRecDepth 20000 in
theorem gX1_isFiner_X1_partition : GoodIn wsX1_isFiner (wsV RX1 38 RX1 yX1_partition wsX1_partition) := goodIn_app (goodIn_of _ (by decide +kernel)) ggX1_isFiner_X1_partition
set_option maxRecDepth 20000 in
theorem ggX1_isFiner_X1_least : GoodIn wsX1_isFiner wsX1_least := goodIn_r _ [15] (by decide +kernel) (by decide +kernel)
set_option maxRecDepth 20000 in
theorem gX1_isFiner_X1_least : GoodIn wsX1_isFiner (va_wsS RX1 42 yX1_least wsX1_least) := goodIn_app (goodIn_of _ (by decide +kernel)) ggX1_isFiner_X1_least
set_option maxRecDepth 20000 in
theorem ggX1_isFiner_X1_together : GoodIn wsX1_isFiner wsX1_together := goodIn_r _ [18, 13, 14, 5, 15] (by decide +kernel) (by decide +kernel)
set_option maxRecDepth 20000 in
theorem gX1_isFiner_X1_together : GoodIn wsX1_isFiner (va_wsS RX1 46 yX1_together wsX1_together) := goodIn_app (goodIn_of _ (by decide +kernel)) ggX1_isFiner_X1_together
theorem dX1_isFiner_0 : decode cX1_isFiner 0 = .ok (.iconst 0, 1) := by decide +kernel
theorem dX1_isFiner_1 : decode cX1_isFiner 1 = .ok (.istore_n 3, 1) := by decide +kernel
theorem dX1_isFiner_2 : decode cX1_isFiner 2 = .ok (.iload_n 3, 1) := by decide +kernel
theorem dX1_isFiner_3 : decode cX1_isFiner 3 = .ok (.aload_n 0, 1) := by decide +kernel
theorem dX1_isFiner_4 : decode cX1_isFiner 4 = .ok (.getfield 22, 3) := by decide +kernel
theorem dX1_isFiner_7 : decode cX1_isFiner 7 = .ok (.if_icmp .ge 32, 3) := by decide +kernel
theorem dX1_isFiner_10 : decode cX1_isFiner 10 = .ok (.aload_n 0, 1) := by decide +kernel
theorem dX1_isFiner_11 : decode cX1_isFiner 11 = .ok (.iload_n 2, 1) := by decide +kernel
theorem dX1_isFiner_12 : decode cX1_isFiner 12 = .ok (.invokevirtual 38, 3) := by decide +kernel
theorem dX1_isFiner_15 : decode cX1_isFiner 15 = .ok (.iload_n 3, 1) := by decide +kernel
theorem dX1_isFiner_16 : decode cX1_isFiner 16 = .ok (.aload_n 0, 1) := by decide +kernel
theorem dX1_isFiner_17 : decode cX1_isFiner 17 = .ok (.iload_n 1, 1) := by decide +kernel
theorem dX1_isFiner_18 : decode cX1_isFiner 18 = .ok (.invokevirtual 38, 3) := by decide +kernel
theorem dX1_isFiner_21 : decode cX1_isFiner 21 = .ok (.iload_n 3, 1) := by decide +kernel
theorem dX1_isFiner_22 : decode cX1_isFiner 22 = .ok (.invokestatic 42, 3) := by decide +kernel
theorem dX1_isFiner_25 : decode cX1_isFiner 25 = .ok (.invokestatic 46, 3) := by decide +kernel
theorem dX1_isFiner_28 : decode cX1_isFiner 28 = .ok (.ifCond .ne 5, 3) := by decide +kernel
theorem dX1_isFiner_31 : decode cX1_isFiner 31 = .ok (.iconst 0, 1) := by decide +kernel
theorem dX1_isFiner_32 : decode cX1_isFiner 32 = .ok (.ireturn, 1) := by decide +kernel
theorem dX1_isFiner_33 : decode cX1_isFiner 33 = .ok (.iinc 3 1, 3) := by decide +kernel
theorem dX1_isFiner_36 : decode cX1_isFiner 36 = .ok (.goto (-34), 3) := by decide +kernel
theorem dX1_isFiner_39 : decode cX1_isFiner 39 = .ok (.iconst 1, 1) := by decide +kernel
theorem dX1_isFiner_40 : decode cX1_isFiner 40 = .ok (.ireturn, 1) := by decide +kernel
set_option maxRecDepth 20000 in
theorem ggX1_permute_X1_isLinked : GoodIn wsX1_permute wsX1_isLinked := goodIn_r _ [6, 1, 7, 8, 9, 5, 10, 11, 12, 13, 14, 15, 16, 17, 18, 19, 20, 21, 22, 23, 24, 25] (by decide +kernel) (by decide +kernel)
set_option maxRecDepth 20000 in
theorem gX1_permute_X1_isLinked : GoodIn wsX1_permute (wsV RX1 53 RX1 yX1_isLinked wsX1_isLinked) := goodIn_app (goodIn_of _ (by decide +kernel)) ggX1_permute_X1_isLinked
theorem dX1_permute_0 : decode cX1_permute 0 = .ok (.iconst 0, 1) := by decide +kernel
theorem dX1_permute_1 : decode cX1_permute 1 = .ok (.istore_n 3, 1) := by decide +kernel
theorem dX1_permute_2 : decode cX1_permute 2 = .ok (.iload_n 3, 1) := by decide +kernel
theorem dX1_permute_3 : decode cX1_permute 3 = .ok (.aload_n 0, 1) := by decide +kernel
theorem dX1_permute_4 : decode cX1_permute 4 = .ok (.getfield 22, 3) := by decide +kernel
theorem dX1_permute_7 : decode cX1_permute 7 = .ok (.if_icmp .ge 53, 3) := by decide +kernel
theorem dX1_permute_10 : decode cX1_permute 10 = .ok (.iconst 0, 1) := by decide +kernel
theorem dX1_permute_11 : decode cX1_permute 11 = .ok (.istore 4, 2) := by decide +kernel
theorem dX1_permute_13 : decode cX1_permute 13 = .ok (.iload 4, 2) := by decide +kernel
theorem dX1_permute_15 : decode cX1_permute 15 = .ok (.aload_n 0, 1) := by decide +kernel
theorem dX1_permute_16 : decode cX1_permute 16 = .ok (.getfield 22, 3) := by decide +kernel
theorem dX1_permute_19 : decode cX1_permute 19 = .ok (.if_icmp .ge 35, 3) := by decide +kernel
theorem dX1_permute_22 : decode cX1_permute 22 = .ok (.aload_n 0, 1) := by decide +kernel
theorem dX1_permute_23 : decode cX1_permute 23 = .ok (.iload_n 1, 1) := by decide +kernel
theorem dX1_permute_24 : decode cX1_permute 24 = .ok (.iload_n 2, 1) := by decide +kernel
theorem dX1_permute_25 : decode cX1_permute 25 = .ok (.iload_n 3, 1) := by decide +kernel
theorem dX1_permute_26 : decode cX1_permute 26 = .ok (.iload 4, 2) := by decide +kernel
theorem dX1_permute_28 : decode cX1_permute 28 = .ok (.invokevirtual 53, 3) := by decide +kernel
theorem dX1_permute_31 : decode cX1_permute 31 = .ok (.ifCond .eq 17, 3) := by decide +kernel
theorem dX1_permute_34 : decode cX1_permute 34 = .ok (.aload_n 0, 1) := by decide +kernel
theorem dX1_permute_35 : decode cX1_permute 35 = .ok (.iload_n 2, 1) := by decide +kernel
theorem dX1_permute_36 : decode cX1_permute 36 = .ok (.iload_n 1, 1) := by decide +kernel
theorem dX1_permute_37 : decode cX1_permute 37 = .ok (.iload_n 3, 1) := by decide +kernel
theorem dX1_permute_38 : decode cX1_permute 38 = .ok (.iload 4, 2) := by decide +kernel
theorem dX1_permute_40 : decode cX1_permute 40 = .ok (.invokevirtual 53, 3) := by decide +kernel
theorem dX1_permute_43 : decode cX1_permute 43 = .ok (.ifCond .ne 5, 3) := by decide +kernel
theorem dX1_permute_46 : decode cX1_permute 46 = .ok (.iconst 0, 1) := by decide +kernel
theorem dX1_permute_47 : decode cX1_permute 47 = .ok (.ireturn, 1) := by decide +kernel
theorem dX1_permute_48 : decode cX1_permute 48 = .ok (.iinc 4 1, 3) := by decide +kernel
theorem dX1_permute_51 : decode cX1_permute 51 = .ok (.goto (-38), 3) := by decide +kernel
theorem dX1_permute_54 : decode cX1_permute 54 = .ok (.iinc 3 1, 3) := by decide +kernel
theorem dX1_permute_57 : decode cX1_permute 57 = .ok (.goto (-55), 3) := by decide +kernel
theorem dX1_permute_60 : decode cX1_permute 60 = .ok (.iconst 1, 1) := by decide +kernel
theorem dX1_permute_61 : decode cX1_permute 61 = .ok (.ireturn, 1) := by decide +kernel
set_option maxRecDepth 20000 in
theorem ggX1_isLinked_X1_partition : GoodIn wsX1_isLinked wsX1_partition := goodIn_r _ [6, 7, 8, 9, 10, 5, 11, 12, 19, 20, 21] (by decide +kernel) (by decide +kernel)
set_option maxRecDepth 20000 in
theorem gX1_isLinked_X1_partition : GoodIn wsX1_isLinked (wsV RX1 38 RX1 yX1_partition wsX1_partition) := goodIn_app (goodIn_of _ (by decide +kernel)) ggX1_isLinked_X1_partition
set_option maxRecDepth 20000 in
theorem ggX1_isLinked_X1_together : GoodIn wsX1_isLinked wsX1_together := goodIn_r _ [15, 16, 17, 5, 18] (by decide +kernel) (by decide +kernel)
set_option maxRecDepth 20000 in
theorem gX1_isLinked_X1_together : GoodIn wsX1_isLinked (va_wsS RX1 46 yX1_together wsX1_together) := goodIn_app (goodIn_of _ (by decide +kernel)) ggX1_isLinked_X1_together
theorem dX1_isLinked_0 : decode cX1_isLinked 0 = .ok (.iconst 0, 1) := by decide +kernel
theorem dX1_isLinked_1 : decode cX1_isLinked 1 = .ok (.istore 5, 2) := by decide +kernel
theorem dX1_isLinked_3 : decode cX1_isLinked 3 = .ok (.iload 5, 2) := by decide +kernel
theorem dX1_isLinked_5 : decode cX1_isLinked 5 = .ok (.aload_n 0, 1) := by decide +kernel
theorem dX1_isLinked_6 : decode cX1_isLinked 6 = .ok (.getfield 22, 3) := by decide +kernel
theorem dX1_isLinked_9 : decode cX1_isLinked 9 = .ok (.if_icmp .ge 40, 3) := by decide +kernel
theorem dX1_isLinked_12 : decode cX1_isLinked 12 = .ok (.aload_n 0, 1) := by decide +kernel
theorem dX1_isLinked_13 : decode cX1_isLinked 13 = .ok (.iload_n 1, 1) := by decide +kernel
theorem dX1_isLinked_14 : decode cX1_isLinked 14 = .ok (.invokevirtual 38, 3) := by decide +kernel
theorem dX1_isLinked_17 : decode cX1_isLinked 17 = .ok (.iload_n 3, 1) := by decide +kernel
theorem dX1_isLinked_18 : decode cX1_isLinked 18 = .ok (.iload 5, 2) := by decide +kernel
theorem dX1_isLinked_20 : decode cX1_isLinked 20 = .ok (.invokestatic 46, 3) := by decide +kernel
theorem dX1_isLinked_23 : decode cX1_isLinked 23 = .ok (.ifCond .eq 20, 3) := by decide +kernel
theorem dX1_isLinked_26 : decode cX1_isLinked 26 = .ok (.aload_n 0, 1) := by decide +kernel
theorem dX1_isLinked_27 : decode cX1_isLinked 27 = .ok (.iload_n 2, 1) := by decide +kernel
theorem dX1_isLinked_28 : decode cX1_isLinked 28 = .ok (.invokevirtual 38, 3) := by decide +kernel
theorem dX1_isLinked_31 : decode cX1_isLinked 31 = .ok (.iload 5, 2) := by decide +kernel
theorem dX1_isLinked_33 : decode cX1_isLinked 33 = .ok (.iload 4, 2) := by decide +kernel
theorem dX1_isLinked_35 : decode cX1_isLinked 35 = .ok (.invokestatic 46, 3) := by decide +kernel
theorem dX1_isLinked_38 : decode cX1_isLinked 38 = .ok (.ifCond .eq 5, 3) := by decide +kernel
theorem dX1_isLinked_41 : decode cX1_isLinked 41 = .ok (.iconst 1, 1) := by decide +kernel
theorem dX1_isLinked_42 : decode cX1_isLinked 42 = .ok (.ireturn, 1) := by decide +kernel
theorem dX1_isLinked_43 : decode cX1_isLinked 43 = .ok (.iinc 5 1, 3) := by decide +kernel
theorem dX1_isLinked_46 : decode cX1_isLinked 46 = .ok (.goto (-43), 3) := by decide +kernel
theorem dX1_isLinked_49 : decode cX1_isLinked 49 = .ok (.iconst 0, 1) := by decide +kernel
theorem dX1_isLinked_50 : decode cX1_isLinked 50 = .ok (.ireturn, 1) := by decide +kernel
theorem dX1_least_0 : decode cX1_least 0 = .ok (.iload_n 0, 1) := by decide +kernel
theorem dX1_least_1 : decode cX1_least 1 = .ok (.bipush 12, 2) := by decide +kernel
theorem dX1_least_3 : decode cX1_least 3 = .ok (.iconst 4, 1) := by decide +kernel
theorem dX1_least_4 : decode cX1_least 4 = .ok (.iload_n 1, 1) := by decide +kernel
theorem dX1_least_5 : decode cX1_least 5 = .ok (.imul, 1) := by decide +kernel
theorem dX1_least_6 : decode cX1_least 6 = .ok (.isub, 1) := by decide +kernel
theorem dX1_least_7 : decode cX1_least 7 = .ok (.ishr, 1) := by decide +kernel
theorem dX1_least_8 : decode cX1_least 8 = .ok (.iconst 3, 1) := by decide +kernel
theorem dX1_least_9 : decode cX1_least 9 = .ok (.iand, 1) := by decide +kernel
theorem dX1_least_10 : decode cX1_least 10 = .ok (.ireturn, 1) := by decide +kernel
set_option maxRecDepth 20000 in
theorem ggX1_together_X1_least : GoodIn wsX1_together wsX1_least := goodIn_r _ [4] (by decide +kernel) (by decide +kernel)
set_option maxRecDepth 20000 in
theorem gX1_together_X1_least : GoodIn wsX1_together (va_wsS RX1 42 yX1_least wsX1_least) := goodIn_app (goodIn_of _ (by decide +kernel)) ggX1_together_X1_least
theorem dX1_together_0 : decode cX1_together 0 = .ok (.iload_n 0, 1) := by decide +kernel
theorem dX1_together_1 : decode cX1_together 1 = .ok (.iload_n 1, 1) := by decide +kernel
theorem dX1_together_2 : decode cX1_together 2 = .ok (.invokestatic 42, 3) := by decide +kernel
theorem dX1_together_5 : decode cX1_together 5 = .ok (.iload_n 0, 1) := by decide +kernel
theorem dX1_together_6 : decode cX1_together 6 = .ok (.iload_n 2, 1) := by decide +kernel
theorem dX1_together_7 : decode cX1_together 7 = .ok (.invokestatic 42, 3) := by decide +kernel
theorem dX1_together_10 : decode cX1_together 10 = .ok (.if_icmp .ne 7, 3) := by decide +kernel
theorem dX1_together_13 : decode cX1_together 13 = .ok (.iconst 1, 1) := by decide +kernel
theorem dX1_together_14 : decode cX1_together 14 = .ok (.goto 4, 3) := by decide +kernel
theorem dX1_together_17 : decode cX1_together 17 = .ok (.iconst 0, 1) := by decide +kernel
theorem dX1_together_18 : decode cX1_together 18 = .ok (.ireturn, 1) := by decide +kernel
set_option maxRecDepth 20000 in
theorem ggX1_isOfFirst_X1_least : GoodIn wsX1_isOfFirst wsX1_least := goodIn_r _ [4] (by decide +kernel) (by decide +kernel)
set_option maxRecDepth 20000 in
theorem gX1_isOfFirst_X1_least : GoodIn wsX1_isOfFirst (va_wsS RX1 42 yX1_least wsX1_least) := goodIn_app (goodIn_of _ (by decide +kernel)) ggX1_isOfFirst_X1_least
theorem dX1_isOfFirst_0 : decode cX1_isOfFirst 0 = .ok (.iload_n 0, 1) := by decide +kernel
theorem dX1_isOfFirst_1 : decode cX1_isOfFirst 1 = .ok (.istore_n 2, 1) := by decide +kernel
theorem dX1_isOfFirst_2 : decode cX1_isOfFirst 2 = .ok (.iload_n 2, 1) := by decide +kernel
theorem dX1_isOfFirst_3 : decode cX1_isOfFirst 3 = .ok (.iconst 4, 1) := by decide +kernel
theorem dX1_isOfFirst_4 : decode cX1_isOfFirst 4 = .ok (.if_icmp .ge 20, 3) := by decide +kernel
theorem dX1_isOfFirst_7 : decode cX1_isOfFirst 7 = .ok (.iload_n 1, 1) := by decide +kernel
theorem dX1_isOfFirst_8 : decode cX1_isOfFirst 8 = .ok (.iload_n 2, 1) := by decide +kernel
theorem dX1_isOfFirst_9 : decode cX1_isOfFirst 9 = .ok (.invokestatic 42, 3) := by decide +kernel
theorem dX1_isOfFirst_12 : decode cX1_isOfFirst 12 = .ok (.iload_n 2, 1) := by decide +kernel
theorem dX1_isOfFirst_13 : decode cX1_isOfFirst 13 = .ok (.if_icmp .eq 5, 3) := by decide +kernel
theorem dX1_isOfFirst_16 : decode cX1_isOfFirst 16 = .ok (.iconst 0, 1) := by decide +kernel
theorem dX1_isOfFirst_17 : decode cX1_isOfFirst 17 = .ok (.ireturn, 1) := by decide +kernel
theorem dX1_isOfFirst_18 : decode cX1_isOfFirst 18 = .ok (.iinc 2 1, 3) := by decide +kernel
theorem dX1_isOfFirst_21 : decode cX1_isOfFirst 21 = .ok (.goto (-19), 3) := by decide +kernel
theorem dX1_isOfFirst_24 : decode cX1_isOfFirst 24 = .ok (.iconst 1, 1) := by decide +kernel
theorem dX1_isOfFirst_25 : decode cX1_isOfFirst 25 = .ok (.ireturn, 1) := by decide +kernel
set_option maxRecDepth 20000 in
theorem ggX1_goesAlong_X1_least : GoodIn wsX1_goesAlong wsX1_least := goodIn_r _ [5] (by decide +kernel) (by decide +kernel)
set_option maxRecDepth 20000 in
theorem gX1_goesAlong_X1_least : GoodIn wsX1_goesAlong (va_wsS RX1 42 yX1_least wsX1_least) := goodIn_app (goodIn_of _ (by decide +kernel)) ggX1_goesAlong_X1_least
set_option maxRecDepth 20000 in
theorem ggX1_goesAlong_X6_one : GoodIn wsX1_goesAlong wsX6_one := goodIn_r _ [10, 11, 12, 13, 9, 14, 25, 26] (by decide +kernel) (by decide +kernel)
set_option maxRecDepth 20000 in
theorem gX1_goesAlong_X6_one : GoodIn wsX1_goesAlong (wsV RX1 57 RX6 yX6_one wsX6_one) := goodIn_app (goodIn_of _ (by decide +kernel)) ggX1_goesAlong_X6_one
set_option maxRecDepth 20000 in
theorem ggX1_goesAlong_X1_together : GoodIn wsX1_goesAlong wsX1_together := goodIn_r _ [17, 2, 3, 4, 5] (by decide +kernel) (by decide +kernel)
set_option maxRecDepth 20000 in
theorem gX1_goesAlong_X1_together : GoodIn wsX1_goesAlong (va_wsS RX1 46 yX1_together wsX1_together) := goodIn_app (goodIn_of _ (by decide +kernel)) ggX1_goesAlong_X1_together
set_option maxRecDepth 20000 in
theorem ggX1_goesAlong_X6_two : GoodIn wsX1_goesAlong wsX6_two := goodIn_r _ [21, 11, 22, 23, 9, 24, 25, 26] (by decide +kernel) (by decide +kernel)
set_option maxRecDepth 20000 in
theorem gX1_goesAlong_X6_two : GoodIn wsX1_goesAlong (wsV RX1 60 RX6 yX6_two wsX6_two) := goodIn_app (goodIn_of _ (by decide +kernel)) ggX1_goesAlong_X6_two
theorem dX1_goesAlong_0 : decode cX1_goesAlong 0 = .ok (.iconst 0, 1) := by decide +kernel
theorem dX1_goesAlong_1 : decode cX1_goesAlong 1 = .ok (.istore_n 2, 1) := by decide +kernel
theorem dX1_goesAlong_2 : decode cX1_goesAlong 2 = .ok (.iload_n 2, 1) := by decide +kernel
theorem dX1_goesAlong_3 : decode cX1_goesAlong 3 = .ok (.aload_n 0, 1) := by decide +kernel
theorem dX1_goesAlong_4 : decode cX1_goesAlong 4 = .ok (.getfield 16, 3) := by decide +kernel
theorem dX1_goesAlong_7 : decode cX1_goesAlong 7 = .ok (.if_icmp .ge 96, 3) := by decide +kernel
theorem dX1_goesAlong_10 : decode cX1_goesAlong 10 = .ok (.iload_n 1, 1) := by decide +kernel
theorem dX1_goesAlong_11 : decode cX1_goesAlong 11 = .ok (.iload_n 2, 1) := by decide +kernel
theorem dX1_goesAlong_12 : decode cX1_goesAlong 12 = .ok (.invokestatic 42, 3) := by decide +kernel
theorem dX1_goesAlong_15 : decode cX1_goesAlong 15 = .ok (.istore_n 3, 1) := by decide +kernel
theorem dX1_goesAlong_16 : decode cX1_goesAlong 16 = .ok (.iload_n 1, 1) := by decide +kernel
theorem dX1_goesAlong_17 : decode cX1_goesAlong 17 = .ok (.aload_n 0, 1) := by decide +kernel
theorem dX1_goesAlong_18 : decode cX1_goesAlong 18 = .ok (.iload_n 2, 1) := by decide +kernel
theorem dX1_goesAlong_19 : decode cX1_goesAlong 19 = .ok (.invokevirtual 57, 3) := by decide +kernel
theorem dX1_goesAlong_22 : decode cX1_goesAlong 22 = .ok (.aload_n 0, 1) := by decide +kernel
theorem dX1_goesAlong_23 : decode cX1_goesAlong 23 = .ok (.iload_n 3, 1) := by decide +kernel
theorem dX1_goesAlong_24 : decode cX1_goesAlong 24 = .ok (.invokevirtual 57, 3) := by decide +kernel
theorem dX1_goesAlong_27 : decode cX1_goesAlong 27 = .ok (.invokestatic 46, 3) := by decide +kernel
theorem dX1_goesAlong_30 : decode cX1_goesAlong 30 = .ok (.ifCond .ne 5, 3) := by decide +kernel
theorem dX1_goesAlong_33 : decode cX1_goesAlong 33 = .ok (.iconst 0, 1) := by decide +kernel
theorem dX1_goesAlong_34 : decode cX1_goesAlong 34 = .ok (.ireturn, 1) := by decide +kernel
theorem dX1_goesAlong_35 : decode cX1_goesAlong 35 = .ok (.iconst 0, 1) := by decide +kernel
theorem dX1_goesAlong_36 : decode cX1_goesAlong 36 = .ok (.istore 4, 2) := by decide +kernel
theorem dX1_goesAlong_38 : decode cX1_goesAlong 38 = .ok (.iload 4, 2) := by decide +kernel
theorem dX1_goesAlong_40 : decode cX1_goesAlong 40 = .ok (.aload_n 0, 1) := by decide +kernel
theorem dX1_goesAlong_41 : decode cX1_goesAlong 41 = .ok (.getfield 16, 3) := by decide +kernel
theorem dX1_goesAlong_44 : decode cX1_goesAlong 44 = .ok (.if_icmp .ge 53, 3) := by decide +kernel
theorem dX1_goesAlong_47 : decode cX1_goesAlong 47 = .ok (.iload_n 1, 1) := by decide +kernel
theorem dX1_goesAlong_48 : decode cX1_goesAlong 48 = .ok (.aload_n 0, 1) := by decide +kernel
theorem dX1_goesAlong_49 : decode cX1_goesAlong 49 = .ok (.iload_n 2, 1) := by decide +kernel
theorem dX1_goesAlong_50 : decode cX1_goesAlong 50 = .ok (.iload 4, 2) := by decide +kernel
theorem dX1_goesAlong_52 : decode cX1_goesAlong 52 = .ok (.invokevirtual 60, 3) := by decide +kernel
theorem dX1_goesAlong_55 : decode cX1_goesAlong 55 = .ok (.aload_n 0, 1) := by decide +kernel
theorem dX1_goesAlong_56 : decode cX1_goesAlong 56 = .ok (.iload_n 3, 1) := by decide +kernel
theorem dX1_goesAlong_57 : decode cX1_goesAlong 57 = .ok (.iload 4, 2) := by decide +kernel
theorem dX1_goesAlong_59 : decode cX1_goesAlong 59 = .ok (.invokevirtual 60, 3) := by decide +kernel
theorem dX1_goesAlong_62 : decode cX1_goesAlong 62 = .ok (.invokestatic 46, 3) := by decide +kernel
theorem dX1_goesAlong_65 : decode cX1_goesAlong 65 = .ok (.ifCond .eq 24, 3) := by decide +kernel
theorem dX1_goesAlong_68 : decode cX1_goesAlong 68 = .ok (.iload_n 1, 1) := by decide +kernel
theorem dX1_goesAlong_69 : decode cX1_goesAlong 69 = .ok (.aload_n 0, 1) := by decide +kernel
theorem dX1_goesAlong_70 : decode cX1_goesAlong 70 = .ok (.iload 4, 2) := by decide +kernel
theorem dX1_goesAlong_72 : decode cX1_goesAlong 72 = .ok (.iload_n 2, 1) := by decide +kernel
theorem dX1_goesAlong_73 : decode cX1_goesAlong 73 = .ok (.invokevirtual 60, 3) := by decide +kernel
theorem dX1_goesAlong_76 : decode cX1_goesAlong 76 = .ok (.aload_n 0, 1) := by decide +kernel
theorem dX1_goesAlong_77 : decode cX1_goesAlong 77 = .ok (.iload 4, 2) := by decide +kernel
theorem dX1_goesAlong_79 : decode cX1_goesAlong 79 = .ok (.iload_n 3, 1) := by decide +kernel
theorem dX1_goesAlong_80 : decode cX1_goesAlong 80 = .ok (.invokevirtual 60, 3) := by decide +kernel
theorem dX1_goesAlong_83 : decode cX1_goesAlong 83 = .ok (.invokestatic 46, 3) := by decide +kernel
theorem dX1_goesAlong_86 : decode cX1_goesAlong 86 = .ok (.ifCond .ne 5, 3) := by decide +kernel
theorem dX1_goesAlong_89 : decode cX1_goesAlong 89 = .ok (.iconst 0, 1) := by decide +kernel
theorem dX1_goesAlong_90 : decode cX1_goesAlong 90 = .ok (.ireturn, 1) := by decide +kernel
theorem dX1_goesAlong_91 : decode cX1_goesAlong 91 = .ok (.iinc 4 1, 3) := by decide +kernel
theorem dX1_goesAlong_94 : decode cX1_goesAlong 94 = .ok (.goto (-56), 3) := by decide +kernel
theorem dX1_goesAlong_97 : decode cX1_goesAlong 97 = .ok (.iinc 2 1, 3) := by decide +kernel
theorem dX1_goesAlong_100 : decode cX1_goesAlong 100 = .ok (.goto (-98), 3) := by decide +kernel
theorem dX1_goesAlong_103 : decode cX1_goesAlong 103 = .ok (.iconst 1, 1) := by decide +kernel
theorem dX1_goesAlong_104 : decode cX1_goesAlong 104 = .ok (.ireturn, 1) := by decide +kernel
theorem dX2_init_0 : decode cX2_init 0 = .ok (.aload_n 0, 1) := by decide +kernel
theorem dX2_init_1 : decode cX2_init 1 = .ok (.invokespecial 1, 3) := by decide +kernel
theorem dX2_init_4 : decode cX2_init 4 = .ok (.aload_n 0, 1) := by decide +kernel
theorem dX2_init_5 : decode cX2_init 5 = .ok (.bipush 12, 2) := by decide +kernel
theorem dX2_init_7 : decode cX2_init 7 = .ok (.newarray .int, 2) := by decide +kernel
theorem dX2_init_9 : decode cX2_init 9 = .ok (.putfield 9, 3) := by decide +kernel
theorem dX2_init_12 : decode cX2_init 12 = .ok (.aload_n 0, 1) := by decide +kernel
theorem dX2_init_13 : decode cX2_init 13 = .ok (.bipush 12, 2) := by decide +kernel
theorem dX2_init_15 : decode cX2_init 15 = .ok (.newarray .int, 2) := by decide +kernel
theorem dX2_init_17 : decode cX2_init 17 = .ok (.putfield 13, 3) := by decide +kernel
theorem dX2_init_20 : decode cX2_init 20 = .ok (.return_, 1) := by decide +kernel
theorem dX2_loseAll_0 : decode cX2_loseAll 0 = .ok (.aload_n 0, 1) := by decide +kernel
theorem dX2_loseAll_1 : decode cX2_loseAll 1 = .ok (.iconst 0, 1) := by decide +kernel
theorem dX2_loseAll_2 : decode cX2_loseAll 2 = .ok (.putfield 16, 3) := by decide +kernel
theorem dX2_loseAll_5 : decode cX2_loseAll 5 = .ok (.return_, 1) := by decide +kernel
set_option maxRecDepth 20000 in
theorem ggX2_note_X2_loseOldest : GoodIn wsX2_note wsX2_loseOldest := goodIn_r _ [8, 2, 9, 10, 11, 12, 3, 1, 13, 14, 15] (by decide +kernel) (by decide +kernel)
set_option maxRecDepth 20000 in
theorem gX2_note_X2_loseOldest : GoodIn wsX2_note (wsV RX2 20 RX2 yX2_loseOldest wsX2_loseOldest) := goodIn_app (goodIn_of _ (by decide +kernel)) ggX2_note_X2_loseOldest
theorem dX2_note_0 : decode cX2_note 0 = .ok (.aload_n 0, 1) := by decide +kernel
theorem dX2_note_1 : decode cX2_note 1 = .ok (.getfield 16, 3) := by decide +kernel
theorem dX2_note_4 : decode cX2_note 4 = .ok (.bipush 12, 2) := by decide +kernel
theorem dX2_note_6 : decode cX2_note 6 = .ok (.if_icmp .lt 7, 3) := by decide +kernel
theorem dX2_note_9 : decode cX2_note 9 = .ok (.aload_n 0, 1) := by decide +kernel
theorem dX2_note_10 : decode cX2_note 10 = .ok (.invokevirtual 20, 3) := by decide +kernel
theorem dX2_note_13 : decode cX2_note 13 = .ok (.aload_n 0, 1) := by decide +kernel
theorem dX2_note_14 : decode cX2_note 14 = .ok (.getfield 9, 3) := by decide +kernel
theorem dX2_note_17 : decode cX2_note 17 = .ok (.aload_n 0, 1) := by decide +kernel
theorem dX2_note_18 : decode cX2_note 18 = .ok (.getfield 16, 3) := by decide +kernel
theorem dX2_note_21 : decode cX2_note 21 = .ok (.iload_n 1, 1) := by decide +kernel
theorem dX2_note_22 : decode cX2_note 22 = .ok (.iastore, 1) := by decide +kernel
theorem dX2_note_23 : decode cX2_note 23 = .ok (.aload_n 0, 1) := by decide +kernel
theorem dX2_note_24 : decode cX2_note 24 = .ok (.getfield 13, 3) := by decide +kernel
theorem dX2_note_27 : decode cX2_note 27 = .ok (.aload_n 0, 1) := by decide +kernel
theorem dX2_note_28 : decode cX2_note 28 = .ok (.getfield 16, 3) := by decide +kernel
theorem dX2_note_31 : decode cX2_note 31 = .ok (.iload_n 2, 1) := by decide +kernel
theorem dX2_note_32 : decode cX2_note 32 = .ok (.iastore, 1) := by decide +kernel
theorem dX2_note_33 : decode cX2_note 33 = .ok (.aload_n 0, 1) := by decide +kernel
theorem dX2_note_34 : decode cX2_note 34 = .ok (.dup, 1) := by decide +kernel
theorem dX2_note_35 : decode cX2_note 35 = .ok (.getfield 16, 3) := by decide +kernel
theorem dX2_note_38 : decode cX2_note 38 = .ok (.iconst 1, 1) := by decide +kernel
theorem dX2_note_39 : decode cX2_note 39 = .ok (.iadd, 1) := by decide +kernel
theorem dX2_note_40 : decode cX2_note 40 = .ok (.putfield 16, 3) := by decide +kernel
theorem dX2_note_43 : decode cX2_note 43 = .ok (.return_, 1) := by decide +kernel
theorem dX2_loseOldest_0 : decode cX2_loseOldest 0 = .ok (.aload_n 0, 1) := by decide +kernel
theorem dX2_loseOldest_1 : decode cX2_loseOldest 1 = .ok (.getfield 9, 3) := by decide +kernel
theorem dX2_loseOldest_4 : decode cX2_loseOldest 4 = .ok (.iconst 1, 1) := by decide +kernel
theorem dX2_loseOldest_5 : decode cX2_loseOldest 5 = .ok (.aload_n 0, 1) := by decide +kernel
theorem dX2_loseOldest_6 : decode cX2_loseOldest 6 = .ok (.getfield 9, 3) := by decide +kernel
theorem dX2_loseOldest_9 : decode cX2_loseOldest 9 = .ok (.iconst 0, 1) := by decide +kernel
theorem dX2_loseOldest_10 : decode cX2_loseOldest 10 = .ok (.bipush 11, 2) := by decide +kernel
theorem dX2_loseOldest_12 : decode cX2_loseOldest 12 = .ok (.invokestatic 23, 3) := by decide +kernel
theorem dX2_loseOldest_15 : decode cX2_loseOldest 15 = .ok (.aload_n 0, 1) := by decide +kernel
theorem dX2_loseOldest_16 : decode cX2_loseOldest 16 = .ok (.getfield 13, 3) := by decide +kernel
theorem dX2_loseOldest_19 : decode cX2_loseOldest 19 = .ok (.iconst 1, 1) := by decide +kernel
theorem dX2_loseOldest_20 : decode cX2_loseOldest 20 = .ok (.aload_n 0, 1) := by decide +kernel
theorem dX2_loseOldest_21 : decode cX2_loseOldest 21 = .ok (.getfield 13, 3) := by decide +kernel
theorem dX2_loseOldest_24 : decode cX2_loseOldest 24 = .ok (.iconst 0, 1) := by decide +kernel
theorem dX2_loseOldest_25 : decode cX2_loseOldest 25 = .ok (.bipush 11, 2) := by decide +kernel
theorem dX2_loseOldest_27 : decode cX2_loseOldest 27 = .ok (.invokestatic 23, 3) := by decide +kernel
theorem dX2_loseOldest_30 : decode cX2_loseOldest 30 = .ok (.aload_n 0, 1) := by decide +kernel
theorem dX2_loseOldest_31 : decode cX2_loseOldest 31 = .ok (.bipush 11, 2) := by decide +kernel
theorem dX2_loseOldest_33 : decode cX2_loseOldest 33 = .ok (.putfield 16, 3) := by decide +kernel
theorem dX2_loseOldest_36 : decode cX2_loseOldest 36 = .ok (.return_, 1) := by decide +kernel
set_option maxRecDepth 20000 in
theorem ggX2_takeBackIn_X6_put : GoodIn wsX2_takeBackIn wsX6_put := goodIn_r _ [8, 9, 13, 14] (by decide +kernel) (by decide +kernel)
set_option maxRecDepth 20000 in
theorem gX2_takeBackIn_X6_put : GoodIn wsX2_takeBackIn (wsV RX2 29 RX6 yX6_put wsX6_put) := goodIn_app (goodIn_of _ (by decide +kernel)) ggX2_takeBackIn_X6_put
theorem dX2_takeBackIn_0 : decode cX2_takeBackIn 0 = .ok (.aload_n 0, 1) := by decide +kernel
theorem dX2_takeBackIn_1 : decode cX2_takeBackIn 1 = .ok (.getfield 16, 3) := by decide +kernel
theorem dX2_takeBackIn_4 : decode cX2_takeBackIn 4 = .ok (.ifCond .le 44, 3) := by decide +kernel
theorem dX2_takeBackIn_7 : decode cX2_takeBackIn 7 = .ok (.aload_n 0, 1) := by decide +kernel
theorem dX2_takeBackIn_8 : decode cX2_takeBackIn 8 = .ok (.getfield 16, 3) := by decide +kernel
theorem dX2_takeBackIn_11 : decode cX2_takeBackIn 11 = .ok (.bipush 12, 2) := by decide +kernel
theorem dX2_takeBackIn_13 : decode cX2_takeBackIn 13 = .ok (.if_icmp .gt 35, 3) := by decide +kernel
theorem dX2_takeBackIn_16 : decode cX2_takeBackIn 16 = .ok (.aload_n 0, 1) := by decide +kernel
theorem dX2_takeBackIn_17 : decode cX2_takeBackIn 17 = .ok (.dup, 1) := by decide +kernel
theorem dX2_takeBackIn_18 : decode cX2_takeBackIn 18 = .ok (.getfield 16, 3) := by decide +kernel
theorem dX2_takeBackIn_21 : decode cX2_takeBackIn 21 = .ok (.iconst 1, 1) := by decide +kernel
theorem dX2_takeBackIn_22 : decode cX2_takeBackIn 22 = .ok (.isub, 1) := by decide +kernel
theorem dX2_takeBackIn_23 : decode cX2_takeBackIn 23 = .ok (.putfield 16, 3) := by decide +kernel
theorem dX2_takeBackIn_26 : decode cX2_takeBackIn 26 = .ok (.aload_n 1, 1) := by decide +kernel
theorem dX2_takeBackIn_27 : decode cX2_takeBackIn 27 = .ok (.aload_n 0, 1) := by decide +kernel
theorem dX2_takeBackIn_28 : decode cX2_takeBackIn 28 = .ok (.getfield 9, 3) := by decide +kernel
theorem dX2_takeBackIn_31 : decode cX2_takeBackIn 31 = .ok (.aload_n 0, 1) := by decide +kernel
theorem dX2_takeBackIn_32 : decode cX2_takeBackIn 32 = .ok (.getfield 16, 3) := by decide +kernel
theorem dX2_takeBackIn_35 : decode cX2_takeBackIn 35 = .ok (.iaload, 1) := by decide +kernel
theorem dX2_takeBackIn_36 : decode cX2_takeBackIn 36 = .ok (.aload_n 0, 1) := by decide +kernel
theorem dX2_takeBackIn_37 : decode cX2_takeBackIn 37 = .ok (.getfield 13, 3) := by decide +kernel
theorem dX2_takeBackIn_40 : decode cX2_takeBackIn 40 = .ok (.aload_n 0, 1) := by decide +kernel
theorem dX2_takeBackIn_41 : decode cX2_takeBackIn 41 = .ok (.getfield 16, 3) := by decide +kernel
theorem dX2_takeBackIn_44 : decode cX2_takeBackIn 44 = .ok (.iaload, 1) := by decide +kernel
theorem dX2_takeBackIn_45 : decode cX2_takeBackIn 45 = .ok (.invokevirtual 29, 3) := by decide +kernel
theorem dX2_takeBackIn_48 : decode cX2_takeBackIn 48 = .ok (.return_, 1) := by decide +kernel
theorem dX3_isThere_0 : decode cX3_isThere 0 = .ok (.iload_n 0, 1) := by decide +kernel
theorem dX3_isThere_1 : decode cX3_isThere 1 = .ok (.ifCond .lt 13, 3) := by decide +kernel
theorem dX3_isThere_4 : decode cX3_isThere 4 = .ok (.iload_n 0, 1) := by decide +kernel
theorem dX3_isThere_5 : decode cX3_isThere 5 = .ok (.bipush 7, 2) := by decide +kernel
theorem dX3_isThere_7 : decode cX3_isThere 7 = .ok (.if_icmp .ge 7, 3) := by decide +kernel
theorem dX3_isThere_10 : decode cX3_isThere 10 = .ok (.iconst 1, 1) := by decide +kernel
theorem dX3_isThere_11 : decode cX3_isThere 11 = .ok (.goto 4, 3) := by decide +kernel
theorem dX3_isThere_14 : decode cX3_isThere 14 = .ok (.iconst 0, 1) := by decide +kernel
theorem dX3_isThere_15 : decode cX3_isThere 15 = .ok (.ireturn, 1) := by decide +kernel
set_option maxRecDepth 20000 in
theorem ggX3_holds_X3_firstAgainst : GoodIn wsX3_holds wsX3_firstAgainst := goodIn_r _ [4, 5, 6, 7, 3, 8, 9, 10, 11, 12, 13, 14, 15, 16, 17, 18, 19, 20, 21, 22, 23, 24, 25, 26] (by decide +kernel) (by decide +kernel)
set_option maxRecDepth 20000 in
theorem gX3_holds_X3_firstAgainst : GoodIn wsX3_holds (va_wsS RX3 11 yX3_firstAgainst wsX3_firstAgainst) := goodIn_app (goodIn_of _ (by decide +kernel)) ggX3_holds_X3_firstAgainst
theorem dX3_holds_0 : decode cX3_holds 0 = .ok (.aload_n 0, 1) := by decide +kernel
theorem dX3_holds_1 : decode cX3_holds 1 = .ok (.iload_n 1, 1) := by decide +kernel
theorem dX3_holds_2 : decode cX3_holds 2 = .ok (.invokestatic 11, 3) := by decide +kernel
theorem dX3_holds_5 : decode cX3_holds 5 = .ok (.bipush (-9), 2) := by decide +kernel
theorem dX3_holds_7 : decode cX3_holds 7 = .ok (.if_icmp .ne 7, 3) := by decide +kernel
theorem dX3_holds_10 : decode cX3_holds 10 = .ok (.iconst 1, 1) := by decide +kernel
theorem dX3_holds_11 : decode cX3_holds 11 = .ok (.goto 4, 3) := by decide +kernel
theorem dX3_holds_14 : decode cX3_holds 14 = .ok (.iconst 0, 1) := by decide +kernel
theorem dX3_holds_15 : decode cX3_holds 15 = .ok (.ireturn, 1) := by decide +kernel
set_option maxRecDepth 20000 in
theorem ggX3_firstAgainst_X3_isSo : GoodIn wsX3_firstAgainst wsX3_isSo := goodIn_r _ [5, 6, 7, 8, 9, 10, 11, 12, 13, 14, 15, 16, 17, 18, 19, 20, 21, 22, 23] (by decide +kernel) (by decide +kernel)
set_option maxRecDepth 20000 in
theorem gX3_firstAgainst_X3_isSo : GoodIn wsX3_firstAgainst (va_wsS RX3 21 yX3_isSo wsX3_isSo) := goodIn_app (goodIn_of _ (by decide +kernel)) ggX3_firstAgainst_X3_isSo
theorem dX3_firstAgainst_0 : decode cX3_firstAgainst 0 = .ok (.iload_n 1, 1) := by decide +kernel
theorem dX3_firstAgainst_1 : decode cX3_firstAgainst 1 = .ok (.ifCond .eq 8, 3) := by decide +kernel
theorem dX3_firstAgainst_4 : decode cX3_firstAgainst 4 = .ok (.iload_n 1, 1) := by decide +kernel
theorem dX3_firstAgainst_5 : decode cX3_firstAgainst 5 = .ok (.iconst 3, 1) := by decide +kernel
theorem dX3_firstAgainst_6 : decode cX3_firstAgainst 6 = .ok (.if_icmp .ne 7, 3) := by decide +kernel
theorem dX3_firstAgainst_9 : decode cX3_firstAgainst 9 = .ok (.iconst 1, 1) := by decide +kernel
theorem dX3_firstAgainst_10 : decode cX3_firstAgainst 10 = .ok (.goto 7, 3) := by decide +kernel
theorem dX3_firstAgainst_13 : decode cX3_firstAgainst 13 = .ok (.aload_n 0, 1) := by decide +kernel
theorem dX3_firstAgainst_14 : decode cX3_firstAgainst 14 = .ok (.getfield 15, 3) := by decide +kernel
theorem dX3_firstAgainst_17 : decode cX3_firstAgainst 17 = .ok (.istore_n 2, 1) := by decide +kernel
theorem dX3_firstAgainst_18 : decode cX3_firstAgainst 18 = .ok (.iload_n 1, 1) := by decide +kernel
theorem dX3_firstAgainst_19 : decode cX3_firstAgainst 19 = .ok (.iconst 2, 1) := by decide +kernel
theorem dX3_firstAgainst_20 : decode cX3_firstAgainst 20 = .ok (.if_icmp .ne 10, 3) := by decide +kernel
theorem dX3_firstAgainst_23 : decode cX3_firstAgainst 23 = .ok (.aload_n 0, 1) := by decide +kernel
theorem dX3_firstAgainst_24 : decode cX3_firstAgainst 24 = .ok (.getfield 15, 3) := by decide +kernel
theorem dX3_firstAgainst_27 : decode cX3_firstAgainst 27 = .ok (.goto 4, 3) := by decide +kernel
theorem dX3_firstAgainst_30 : decode cX3_firstAgainst 30 = .ok (.iconst 1, 1) := by decide +kernel
theorem dX3_firstAgainst_31 : decode cX3_firstAgainst 31 = .ok (.istore_n 3, 1) := by decide +kernel
theorem dX3_firstAgainst_32 : decode cX3_firstAgainst 32 = .ok (.iconst 0, 1) := by decide +kernel
theorem dX3_firstAgainst_33 : decode cX3_firstAgainst 33 = .ok (.istore 4, 2) := by decide +kernel
theorem dX3_firstAgainst_35 : decode cX3_firstAgainst 35 = .ok (.iload 4, 2) := by decide +kernel
theorem dX3_firstAgainst_37 : decode cX3_firstAgainst 37 = .ok (.aload_n 0, 1) := by decide +kernel
theorem dX3_firstAgainst_38 : decode cX3_firstAgainst 38 = .ok (.getfield 15, 3) := by decide +kernel
theorem dX3_firstAgainst_41 : decode cX3_firstAgainst 41 = .ok (.if_icmp .ge 68, 3) := by decide +kernel
theorem dX3_firstAgainst_44 : decode cX3_firstAgainst 44 = .ok (.iconst 0, 1) := by decide +kernel
theorem dX3_firstAgainst_45 : decode cX3_firstAgainst 45 = .ok (.istore 5, 2) := by decide +kernel
theorem dX3_firstAgainst_47 : decode cX3_firstAgainst 47 = .ok (.iload 5, 2) := by decide +kernel
theorem dX3_firstAgainst_49 : decode cX3_firstAgainst 49 = .ok (.iload_n 2, 1) := by decide +kernel
theorem dX3_firstAgainst_50 : decode cX3_firstAgainst 50 = .ok (.if_icmp .ge 53, 3) := by decide +kernel
theorem dX3_firstAgainst_53 : decode cX3_firstAgainst 53 = .ok (.iconst 0, 1) := by decide +kernel
theorem dX3_firstAgainst_54 : decode cX3_firstAgainst 54 = .ok (.istore 6, 2) := by decide +kernel
theorem dX3_firstAgainst_56 : decode cX3_firstAgainst 56 = .ok (.iload 6, 2) := by decide +kernel
theorem dX3_firstAgainst_58 : decode cX3_firstAgainst 58 = .ok (.iload_n 3, 1) := by decide +kernel
theorem dX3_firstAgainst_59 : decode cX3_firstAgainst 59 = .ok (.if_icmp .ge 38, 3) := by decide +kernel
theorem dX3_firstAgainst_62 : decode cX3_firstAgainst 62 = .ok (.aload_n 0, 1) := by decide +kernel
theorem dX3_firstAgainst_63 : decode cX3_firstAgainst 63 = .ok (.iload_n 1, 1) := by decide +kernel
theorem dX3_firstAgainst_64 : decode cX3_firstAgainst 64 = .ok (.iload 4, 2) := by decide +kernel
theorem dX3_firstAgainst_66 : decode cX3_firstAgainst 66 = .ok (.iload 5, 2) := by decide +kernel
theorem dX3_firstAgainst_68 : decode cX3_firstAgainst 68 = .ok (.iload 6, 2) := by decide +kernel
theorem dX3_firstAgainst_70 : decode cX3_firstAgainst 70 = .ok (.invokestatic 21, 3) := by decide +kernel
theorem dX3_firstAgainst_73 : decode cX3_firstAgainst 73 = .ok (.ifCond .ne 18, 3) := by decide +kernel
theorem dX3_firstAgainst_76 : decode cX3_firstAgainst 76 = .ok (.bipush 100, 2) := by decide +kernel
theorem dX3_firstAgainst_78 : decode cX3_firstAgainst 78 = .ok (.iload 4, 2) := by decide +kernel
theorem dX3_firstAgainst_80 : decode cX3_firstAgainst 80 = .ok (.imul, 1) := by decide +kernel
theorem dX3_firstAgainst_81 : decode cX3_firstAgainst 81 = .ok (.bipush 10, 2) := by decide +kernel
theorem dX3_firstAgainst_83 : decode cX3_firstAgainst 83 = .ok (.iload 5, 2) := by decide +kernel
theorem dX3_firstAgainst_85 : decode cX3_firstAgainst 85 = .ok (.imul, 1) := by decide +kernel
theorem dX3_firstAgainst_86 : decode cX3_firstAgainst 86 = .ok (.iadd, 1) := by decide +kernel
theorem dX3_firstAgainst_87 : decode cX3_firstAgainst 87 = .ok (.iload 6, 2) := by decide +kernel
theorem dX3_firstAgainst_89 : decode cX3_firstAgainst 89 = .ok (.iadd, 1) := by decide +kernel
theorem dX3_firstAgainst_90 : decode cX3_firstAgainst 90 = .ok (.ireturn, 1) := by decide +kernel
theorem dX3_firstAgainst_91 : decode cX3_firstAgainst 91 = .ok (.iinc 6 1, 3) := by decide +kernel
theorem dX3_firstAgainst_94 : decode cX3_firstAgainst 94 = .ok (.goto (-38), 3) := by decide +kernel
theorem dX3_firstAgainst_97 : decode cX3_firstAgainst 97 = .ok (.iinc 5 1, 3) := by decide +kernel
theorem dX3_firstAgainst_100 : decode cX3_firstAgainst 100 = .ok (.goto (-53), 3) := by decide +kernel
theorem dX3_firstAgainst_103 : decode cX3_firstAgainst 103 = .ok (.iinc 4 1, 3) := by decide +kernel
theorem dX3_firstAgainst_106 : decode cX3_firstAgainst 106 = .ok (.goto (-71), 3) := by decide +kernel
theorem dX3_firstAgainst_109 : decode cX3_firstAgainst 109 = .ok (.bipush (-9), 2) := by decide +kernel
theorem dX3_firstAgainst_111 : decode cX3_firstAgainst 111 = .ok (.ireturn, 1) := by decide +kernel
set_option maxRecDepth 20000 in
theorem ggX3_isSo_X6_two : GoodIn wsX3_isSo wsX6_two := goodIn_r _ [5, 6, 7, 8, 4, 9, 17, 18] (by decide +kernel) (by decide +kernel)
set_option maxRecDepth 20000 in
theorem gX3_isSo_X6_two : GoodIn wsX3_isSo (wsV RX3 25 RX6 yX6_two wsX6_two) := goodIn_app (goodIn_of _ (by decide +kernel)) ggX3_isSo_X6_two
set_option maxRecDepth 20000 in
theorem ggX3_isSo_X6_one : GoodIn wsX3_isSo wsX6_one := goodIn_r _ [13, 6, 14, 15, 4, 16, 17, 18] (by decide +kernel) (by decide +kernel)
set_option maxRecDepth 20000 in
theorem gX3_isSo_X6_one : GoodIn wsX3_isSo (wsV RX3 29 RX6 yX6_one wsX6_one) := goodIn_app (goodIn_of _ (by decide +kernel)) ggX3_isSo_X6_one
theorem dX3_isSo_0 : decode cX3_isSo 0 = .ok (.iload_n 1, 1) := by decide +kernel
theorem dX3_isSo_1 : decode cX3_isSo 1 = .ok (.tableswitch 187 0 5 #[39, 55, 76, 109, 128, 161], 39) := by decide +kernel
theorem dX3_isSo_40 : decode cX3_isSo 40 = .ok (.aload_n 0, 1) := by decide +kernel
theorem dX3_isSo_41 : decode cX3_isSo 41 = .ok (.iload_n 2, 1) := by decide +kernel
theorem dX3_isSo_42 : decode cX3_isSo 42 = .ok (.iload_n 2, 1) := by decide +kernel
theorem dX3_isSo_43 : decode cX3_isSo 43 = .ok (.invokevirtual 25, 3) := by decide +kernel
theorem dX3_isSo_46 : decode cX3_isSo 46 = .ok (.iload_n 2, 1) := by decide +kernel
theorem dX3_isSo_47 : decode cX3_isSo 47 = .ok (.if_icmp .ne 7, 3) := by decide +kernel
theorem dX3_isSo_50 : decode cX3_isSo 50 = .ok (.iconst 1, 1) := by decide +kernel
theorem dX3_isSo_51 : decode cX3_isSo 51 = .ok (.goto 4, 3) := by decide +kernel
theorem dX3_isSo_54 : decode cX3_isSo 54 = .ok (.iconst 0, 1) := by decide +kernel
theorem dX3_isSo_55 : decode cX3_isSo 55 = .ok (.ireturn, 1) := by decide +kernel
theorem dX3_isSo_56 : decode cX3_isSo 56 = .ok (.aload_n 0, 1) := by decide +kernel
theorem dX3_isSo_57 : decode cX3_isSo 57 = .ok (.iload_n 2, 1) := by decide +kernel
theorem dX3_isSo_58 : decode cX3_isSo 58 = .ok (.iload_n 3, 1) := by decide +kernel
theorem dX3_isSo_59 : decode cX3_isSo 59 = .ok (.invokevirtual 25, 3) := by decide +kernel
theorem dX3_isSo_62 : decode cX3_isSo 62 = .ok (.aload_n 0, 1) := by decide +kernel
theorem dX3_isSo_63 : decode cX3_isSo 63 = .ok (.iload_n 3, 1) := by decide +kernel
theorem dX3_isSo_64 : decode cX3_isSo 64 = .ok (.iload_n 2, 1) := by decide +kernel
theorem dX3_isSo_65 : decode cX3_isSo 65 = .ok (.invokevirtual 25, 3) := by decide +kernel
theorem dX3_isSo_68 : decode cX3_isSo 68 = .ok (.if_icmp .ne 7, 3) := by decide +kernel
theorem dX3_isSo_71 : decode cX3_isSo 71 = .ok (.iconst 1, 1) := by decide +kernel
theorem dX3_isSo_72 : decode cX3_isSo 72 = .ok (.goto 4, 3) := by decide +kernel
theorem dX3_isSo_75 : decode cX3_isSo 75 = .ok (.iconst 0, 1) := by decide +kernel
theorem dX3_isSo_76 : decode cX3_isSo 76 = .ok (.ireturn, 1) := by decide +kernel
theorem dX3_isSo_77 : decode cX3_isSo 77 = .ok (.aload_n 0, 1) := by decide +kernel
theorem dX3_isSo_78 : decode cX3_isSo 78 = .ok (.aload_n 0, 1) := by decide +kernel
theorem dX3_isSo_79 : decode cX3_isSo 79 = .ok (.iload_n 2, 1) := by decide +kernel
theorem dX3_isSo_80 : decode cX3_isSo 80 = .ok (.iload_n 3, 1) := by decide +kernel
theorem dX3_isSo_81 : decode cX3_isSo 81 = .ok (.invokevirtual 25, 3) := by decide +kernel
theorem dX3_isSo_84 : decode cX3_isSo 84 = .ok (.iload 4, 2) := by decide +kernel
theorem dX3_isSo_86 : decode cX3_isSo 86 = .ok (.invokevirtual 25, 3) := by decide +kernel
theorem dX3_isSo_89 : decode cX3_isSo 89 = .ok (.aload_n 0, 1) := by decide +kernel
theorem dX3_isSo_90 : decode cX3_isSo 90 = .ok (.iload_n 2, 1) := by decide +kernel
theorem dX3_isSo_91 : decode cX3_isSo 91 = .ok (.aload_n 0, 1) := by decide +kernel
theorem dX3_isSo_92 : decode cX3_isSo 92 = .ok (.iload_n 3, 1) := by decide +kernel
theorem dX3_isSo_93 : decode cX3_isSo 93 = .ok (.iload 4, 2) := by decide +kernel
theorem dX3_isSo_95 : decode cX3_isSo 95 = .ok (.invokevirtual 25, 3) := by decide +kernel
theorem dX3_isSo_98 : decode cX3_isSo 98 = .ok (.invokevirtual 25, 3) := by decide +kernel
theorem dX3_isSo_101 : decode cX3_isSo 101 = .ok (.if_icmp .ne 7, 3) := by decide +kernel
theorem dX3_isSo_104 : decode cX3_isSo 104 = .ok (.iconst 1, 1) := by decide +kernel
theorem dX3_isSo_105 : decode cX3_isSo 105 = .ok (.goto 4, 3) := by decide +kernel
theorem dX3_isSo_108 : decode cX3_isSo 108 = .ok (.iconst 0, 1) := by decide +kernel
theorem dX3_isSo_109 : decode cX3_isSo 109 = .ok (.ireturn, 1) := by decide +kernel
theorem dX3_isSo_110 : decode cX3_isSo 110 = .ok (.aload_n 0, 1) := by decide +kernel
theorem dX3_isSo_111 : decode cX3_isSo 111 = .ok (.aload_n 0, 1) := by decide +kernel
theorem dX3_isSo_112 : decode cX3_isSo 112 = .ok (.iload_n 2, 1) := by decide +kernel
theorem dX3_isSo_113 : decode cX3_isSo 113 = .ok (.invokevirtual 29, 3) := by decide +kernel
theorem dX3_isSo_116 : decode cX3_isSo 116 = .ok (.invokevirtual 29, 3) := by decide +kernel
theorem dX3_isSo_119 : decode cX3_isSo 119 = .ok (.iload_n 2, 1) := by decide +kernel
theorem dX3_isSo_120 : decode cX3_isSo 120 = .ok (.if_icmp .ne 7, 3) := by decide +kernel
theorem dX3_isSo_123 : decode cX3_isSo 123 = .ok (.iconst 1, 1) := by decide +kernel
theorem dX3_isSo_124 : decode cX3_isSo 124 = .ok (.goto 4, 3) := by decide +kernel
theorem dX3_isSo_127 : decode cX3_isSo 127 = .ok (.iconst 0, 1) := by decide +kernel
theorem dX3_isSo_128 : decode cX3_isSo 128 = .ok (.ireturn, 1) := by decide +kernel
theorem dX3_isSo_129 : decode cX3_isSo 129 = .ok (.aload_n 0, 1) := by decide +kernel
theorem dX3_isSo_130 : decode cX3_isSo 130 = .ok (.aload_n 0, 1) := by decide +kernel
theorem dX3_isSo_131 : decode cX3_isSo 131 = .ok (.iload_n 2, 1) := by decide +kernel
theorem dX3_isSo_132 : decode cX3_isSo 132 = .ok (.iload_n 3, 1) := by decide +kernel
theorem dX3_isSo_133 : decode cX3_isSo 133 = .ok (.invokevirtual 25, 3) := by decide +kernel
theorem dX3_isSo_136 : decode cX3_isSo 136 = .ok (.invokevirtual 29, 3) := by decide +kernel
theorem dX3_isSo_139 : decode cX3_isSo 139 = .ok (.aload_n 0, 1) := by decide +kernel
theorem dX3_isSo_140 : decode cX3_isSo 140 = .ok (.aload_n 0, 1) := by decide +kernel
theorem dX3_isSo_141 : decode cX3_isSo 141 = .ok (.iload_n 3, 1) := by decide +kernel
theorem dX3_isSo_142 : decode cX3_isSo 142 = .ok (.invokevirtual 29, 3) := by decide +kernel
theorem dX3_isSo_145 : decode cX3_isSo 145 = .ok (.aload_n 0, 1) := by decide +kernel
theorem dX3_isSo_146 : decode cX3_isSo 146 = .ok (.iload_n 2, 1) := by decide +kernel
theorem dX3_isSo_147 : decode cX3_isSo 147 = .ok (.invokevirtual 29, 3) := by decide +kernel
theorem dX3_isSo_150 : decode cX3_isSo 150 = .ok (.invokevirtual 25, 3) := by decide +kernel
theorem dX3_isSo_153 : decode cX3_isSo 153 = .ok (.if_icmp .ne 7, 3) := by decide +kernel
theorem dX3_isSo_156 : decode cX3_isSo 156 = .ok (.iconst 1, 1) := by decide +kernel
theorem dX3_isSo_157 : decode cX3_isSo 157 = .ok (.goto 4, 3) := by decide +kernel
theorem dX3_isSo_160 : decode cX3_isSo 160 = .ok (.iconst 0, 1) := by decide +kernel
theorem dX3_isSo_161 : decode cX3_isSo 161 = .ok (.ireturn, 1) := by decide +kernel
theorem dX3_isSo_162 : decode cX3_isSo 162 = .ok (.aload_n 0, 1) := by decide +kernel
theorem dX3_isSo_163 : decode cX3_isSo 163 = .ok (.iload_n 2, 1) := by decide +kernel
theorem dX3_isSo_164 : decode cX3_isSo 164 = .ok (.aload_n 0, 1) := by decide +kernel
theorem dX3_isSo_165 : decode cX3_isSo 165 = .ok (.iload_n 2, 1) := by decide +kernel
theorem dX3_isSo_166 : decode cX3_isSo 166 = .ok (.iload_n 3, 1) := by decide +kernel
theorem dX3_isSo_167 : decode cX3_isSo 167 = .ok (.invokevirtual 25, 3) := by decide +kernel
theorem dX3_isSo_170 : decode cX3_isSo 170 = .ok (.invokevirtual 25, 3) := by decide +kernel
theorem dX3_isSo_173 : decode cX3_isSo 173 = .ok (.aload_n 0, 1) := by decide +kernel
theorem dX3_isSo_174 : decode cX3_isSo 174 = .ok (.iload_n 2, 1) := by decide +kernel
theorem dX3_isSo_175 : decode cX3_isSo 175 = .ok (.iload_n 3, 1) := by decide +kernel
theorem dX3_isSo_176 : decode cX3_isSo 176 = .ok (.invokevirtual 25, 3) := by decide +kernel
theorem dX3_isSo_179 : decode cX3_isSo 179 = .ok (.if_icmp .ne 7, 3) := by decide +kernel
theorem dX3_isSo_182 : decode cX3_isSo 182 = .ok (.iconst 1, 1) := by decide +kernel
theorem dX3_isSo_183 : decode cX3_isSo 183 = .ok (.goto 4, 3) := by decide +kernel
theorem dX3_isSo_186 : decode cX3_isSo 186 = .ok (.iconst 0, 1) := by decide +kernel
theorem dX3_isSo_187 : decode cX3_isSo 187 = .ok (.ireturn, 1) := by decide +kernel
theorem dX3_isSo_188 : decode cX3_isSo 188 = .ok (.aload_n 0, 1) := by decide +kernel
theorem dX3_isSo_189 : decode cX3_isSo 189 = .ok (.iload_n 2, 1) := by decide +kernel
theorem dX3_isSo_190 : decode cX3_isSo 190 = .ok (.aload_n 0, 1) := by decide +kernel
theorem dX3_isSo_191 : decode cX3_isSo 191 = .ok (.iload_n 2, 1) := by decide +kernel
theorem dX3_isSo_192 : decode cX3_isSo 192 = .ok (.invokevirtual 29, 3) := by decide +kernel
theorem dX3_isSo_195 : decode cX3_isSo 195 = .ok (.invokevirtual 25, 3) := by decide +kernel
theorem dX3_isSo_198 : decode cX3_isSo 198 = .ok (.aload_n 0, 1) := by decide +kernel
theorem dX3_isSo_199 : decode cX3_isSo 199 = .ok (.iload_n 3, 1) := by decide +kernel
theorem dX3_isSo_200 : decode cX3_isSo 200 = .ok (.aload_n 0, 1) := by decide +kernel
theorem dX3_isSo_201 : decode cX3_isSo 201 = .ok (.iload_n 3, 1) := by decide +kernel
theorem dX3_isSo_202 : decode cX3_isSo 202 = .ok (.invokevirtual 29, 3) := by decide +kernel
theorem dX3_isSo_205 : decode cX3_isSo 205 = .ok (.invokevirtual 25, 3) := by decide +kernel
theorem dX3_isSo_208 : decode cX3_isSo 208 = .ok (.if_icmp .ne 7, 3) := by decide +kernel
theorem dX3_isSo_211 : decode cX3_isSo 211 = .ok (.iconst 1, 1) := by decide +kernel
theorem dX3_isSo_212 : decode cX3_isSo 212 = .ok (.goto 4, 3) := by decide +kernel
theorem dX3_isSo_215 : decode cX3_isSo 215 = .ok (.iconst 0, 1) := by decide +kernel
theorem dX3_isSo_216 : decode cX3_isSo 216 = .ok (.ireturn, 1) := by decide +kernel
set_option maxRecDepth 20000 in
theorem ggX3_thatHold_X3_holds : GoodIn wsX3_thatHold wsX3_holds := goodIn_r _ [4, 5, 6, 3, 7, 8, 9, 10, 11, 12, 13, 14, 15, 16, 17, 18, 19, 20, 21, 22, 23, 24, 25, 26, 27, 28, 29] (by decide +kernel) (by decide +kernel)
set_option maxRecDepth 20000 in
theorem gX3_thatHold_X3_holds : GoodIn wsX3_thatHold (va_wsS RX3 33 yX3_holds wsX3_holds) := goodIn_app (goodIn_of _ (by decide +kernel)) ggX3_thatHold_X3_holds
theorem dX3_thatHold_0 : decode cX3_thatHold 0 = .ok (.iconst 0, 1) := by decide +kernel
theorem dX3_thatHold_1 : decode cX3_thatHold 1 = .ok (.istore_n 1, 1) := by decide +kernel
theorem dX3_thatHold_2 : decode cX3_thatHold 2 = .ok (.iconst 0, 1) := by decide +kernel
theorem dX3_thatHold_3 : decode cX3_thatHold 3 = .ok (.istore_n 2, 1) := by decide +kernel
theorem dX3_thatHold_4 : decode cX3_thatHold 4 = .ok (.iload_n 2, 1) := by decide +kernel
theorem dX3_thatHold_5 : decode cX3_thatHold 5 = .ok (.bipush 7, 2) := by decide +kernel
theorem dX3_thatHold_7 : decode cX3_thatHold 7 = .ok (.if_icmp .ge 23, 3) := by decide +kernel
theorem dX3_thatHold_10 : decode cX3_thatHold 10 = .ok (.aload_n 0, 1) := by decide +kernel
theorem dX3_thatHold_11 : decode cX3_thatHold 11 = .ok (.iload_n 2, 1) := by decide +kernel
theorem dX3_thatHold_12 : decode cX3_thatHold 12 = .ok (.invokestatic 33, 3) := by decide +kernel
theorem dX3_thatHold_15 : decode cX3_thatHold 15 = .ok (.ifCond .eq 9, 3) := by decide +kernel
theorem dX3_thatHold_18 : decode cX3_thatHold 18 = .ok (.iload_n 1, 1) := by decide +kernel
theorem dX3_thatHold_19 : decode cX3_thatHold 19 = .ok (.iconst 1, 1) := by decide +kernel
theorem dX3_thatHold_20 : decode cX3_thatHold 20 = .ok (.iload_n 2, 1) := by decide +kernel
theorem dX3_thatHold_21 : decode cX3_thatHold 21 = .ok (.ishl, 1) := by decide +kernel
theorem dX3_thatHold_22 : decode cX3_thatHold 22 = .ok (.ior, 1) := by decide +kernel
theorem dX3_thatHold_23 : decode cX3_thatHold 23 = .ok (.istore_n 1, 1) := by decide +kernel
theorem dX3_thatHold_24 : decode cX3_thatHold 24 = .ok (.iinc 2 1, 3) := by decide +kernel
theorem dX3_thatHold_27 : decode cX3_thatHold 27 = .ok (.goto (-23), 3) := by decide +kernel
theorem dX3_thatHold_30 : decode cX3_thatHold 30 = .ok (.iload_n 1, 1) := by decide +kernel
theorem dX3_thatHold_31 : decode cX3_thatHold 31 = .ok (.ireturn, 1) := by decide +kernel
set_option maxRecDepth 20000 in
theorem ggX3_leastChange_X6_placeOfTwo : GoodIn wsX3_leastChange wsX6_placeOfTwo := goodIn_r _ [5] (by decide +kernel) (by decide +kernel)
set_option maxRecDepth 20000 in
theorem gX3_leastChange_X6_placeOfTwo : GoodIn wsX3_leastChange (va_wsS RX3 37 yX6_placeOfTwo wsX6_placeOfTwo) := goodIn_app (goodIn_of _ (by decide +kernel)) ggX3_leastChange_X6_placeOfTwo
set_option maxRecDepth 20000 in
theorem ggX3_leastChange_X3_leastValue : GoodIn wsX3_leastChange wsX3_leastValue := goodIn_r _ [9, 1, 10, 11, 12, 4, 13, 14, 15, 16, 17, 18, 19, 20, 8, 21, 22, 23, 24, 25, 26, 27, 28, 29, 3, 5, 30, 31, 32, 33, 34, 35, 36, 37, 38] (by decide +kernel) (by decide +kernel)
set_option maxRecDepth 20000 in
theorem gX3_leastChange_X3_leastValue : GoodIn wsX3_leastChange (va_wsS RX3 40 yX3_leastValue wsX3_leastValue) := goodIn_app (goodIn_of _ (by decide +kernel)) ggX3_leastChange_X3_leastValue
theorem dX3_leastChange_0 : decode cX3_leastChange 0 = .ok (.iconst 0, 1) := by decide +kernel
theorem dX3_leastChange_1 : decode cX3_leastChange 1 = .ok (.istore_n 2, 1) := by decide +kernel
theorem dX3_leastChange_2 : decode cX3_leastChange 2 = .ok (.iload_n 2, 1) := by decide +kernel
theorem dX3_leastChange_3 : decode cX3_leastChange 3 = .ok (.aload_n 0, 1) := by decide +kernel
theorem dX3_leastChange_4 : decode cX3_leastChange 4 = .ok (.getfield 15, 3) := by decide +kernel
theorem dX3_leastChange_7 : decode cX3_leastChange 7 = .ok (.if_icmp .ge 57, 3) := by decide +kernel
theorem dX3_leastChange_10 : decode cX3_leastChange 10 = .ok (.iconst 0, 1) := by decide +kernel
theorem dX3_leastChange_11 : decode cX3_leastChange 11 = .ok (.istore_n 3, 1) := by decide +kernel
theorem dX3_leastChange_12 : decode cX3_leastChange 12 = .ok (.iload_n 3, 1) := by decide +kernel
theorem dX3_leastChange_13 : decode cX3_leastChange 13 = .ok (.aload_n 0, 1) := by decide +kernel
theorem dX3_leastChange_14 : decode cX3_leastChange 14 = .ok (.getfield 15, 3) := by decide +kernel
theorem dX3_leastChange_17 : decode cX3_leastChange 17 = .ok (.if_icmp .ge 41, 3) := by decide +kernel
theorem dX3_leastChange_20 : decode cX3_leastChange 20 = .ok (.aload_n 0, 1) := by decide +kernel
theorem dX3_leastChange_21 : decode cX3_leastChange 21 = .ok (.iload_n 1, 1) := by decide +kernel
theorem dX3_leastChange_22 : decode cX3_leastChange 22 = .ok (.iload_n 2, 1) := by decide +kernel
theorem dX3_leastChange_23 : decode cX3_leastChange 23 = .ok (.iload_n 3, 1) := by decide +kernel
theorem dX3_leastChange_24 : decode cX3_leastChange 24 = .ok (.invokestatic 37, 3) := by decide +kernel
theorem dX3_leastChange_27 : decode cX3_leastChange 27 = .ok (.invokestatic 40, 3) := by decide +kernel
theorem dX3_leastChange_30 : decode cX3_leastChange 30 = .ok (.istore 4, 2) := by decide +kernel
theorem dX3_leastChange_32 : decode cX3_leastChange 32 = .ok (.iload 4, 2) := by decide +kernel
theorem dX3_leastChange_34 : decode cX3_leastChange 34 = .ok (.bipush (-9), 2) := by decide +kernel
theorem dX3_leastChange_36 : decode cX3_leastChange 36 = .ok (.if_icmp .eq 16, 3) := by decide +kernel
theorem dX3_leastChange_39 : decode cX3_leastChange 39 = .ok (.bipush 100, 2) := by decide +kernel
theorem dX3_leastChange_41 : decode cX3_leastChange 41 = .ok (.iload_n 2, 1) := by decide +kernel
theorem dX3_leastChange_42 : decode cX3_leastChange 42 = .ok (.imul, 1) := by decide +kernel
theorem dX3_leastChange_43 : decode cX3_leastChange 43 = .ok (.bipush 10, 2) := by decide +kernel
theorem dX3_leastChange_45 : decode cX3_leastChange 45 = .ok (.iload_n 3, 1) := by decide +kernel
theorem dX3_leastChange_46 : decode cX3_leastChange 46 = .ok (.imul, 1) := by decide +kernel
theorem dX3_leastChange_47 : decode cX3_leastChange 47 = .ok (.iadd, 1) := by decide +kernel
theorem dX3_leastChange_48 : decode cX3_leastChange 48 = .ok (.iload 4, 2) := by decide +kernel
theorem dX3_leastChange_50 : decode cX3_leastChange 50 = .ok (.iadd, 1) := by decide +kernel
theorem dX3_leastChange_51 : decode cX3_leastChange 51 = .ok (.ireturn, 1) := by decide +kernel
theorem dX3_leastChange_52 : decode cX3_leastChange 52 = .ok (.iinc 3 1, 3) := by decide +kernel
theorem dX3_leastChange_55 : decode cX3_leastChange 55 = .ok (.goto (-43), 3) := by decide +kernel
theorem dX3_leastChange_58 : decode cX3_leastChange 58 = .ok (.iinc 2 1, 3) := by decide +kernel
theorem dX3_leastChange_61 : decode cX3_leastChange 61 = .ok (.goto (-59), 3) := by decide +kernel
theorem dX3_leastChange_64 : decode cX3_leastChange 64 = .ok (.bipush (-9), 2) := by decide +kernel
theorem dX3_leastChange_66 : decode cX3_leastChange 66 = .ok (.ireturn, 1) := by decide +kernel
set_option maxRecDepth 20000 in
theorem ggX3_leastValue_X6_at : GoodIn wsX3_leastValue wsX6_at := goodIn_r _ [6, 7, 33, 34] (by decide +kernel) (by decide +kernel)
set_option maxRecDepth 20000 in
theorem gX3_leastValue_X6_at : GoodIn wsX3_leastValue (wsV RX3 44 RX6 yX6_at wsX6_at) := goodIn_app (goodIn_of _ (by decide +kernel)) ggX3_leastValue_X6_at
set_option maxRecDepth 20000 in
theorem ggX3_leastValue_X6_put : GoodIn wsX3_leastValue wsX6_put := goodIn_r _ [11, 7, 33, 34] (by decide +kernel) (by decide +kernel)
set_option maxRecDepth 20000 in
theorem gX3_leastValue_X6_put : GoodIn wsX3_leastValue (wsV RX3 47 RX6 yX6_put wsX6_put) := goodIn_app (goodIn_of _ (by decide +kernel)) ggX3_leastValue_X6_put
set_option maxRecDepth 20000 in
theorem ggX3_leastValue_X3_firstAgainst : GoodIn wsX3_leastValue wsX3_firstAgainst := goodIn_r _ [15, 1, 16, 17, 14, 18, 19, 20, 21, 5, 22, 7, 23, 24, 25, 26, 27, 28, 29, 30, 31, 32, 33, 34] (by decide +kernel) (by decide +kernel)
set_option maxRecDepth 20000 in
theorem gX3_leastValue_X3_firstAgainst : GoodIn wsX3_leastValue (va_wsS RX3 11 yX3_firstAgainst wsX3_firstAgainst) := goodIn_app (goodIn_of _ (by decide +kernel)) ggX3_leastValue_X3_firstAgainst
theorem dX3_leastValue_0 : decode cX3_leastValue 0 = .ok (.aload_n 0, 1) := by decide +kernel
theorem dX3_leastValue_1 : decode cX3_leastValue 1 = .ok (.iload_n 2, 1) := by decide +kernel
theorem dX3_leastValue_2 : decode cX3_leastValue 2 = .ok (.invokevirtual 44, 3) := by decide +kernel
theorem dX3_leastValue_5 : decode cX3_leastValue 5 = .ok (.istore_n 3, 1) := by decide +kernel
theorem dX3_leastValue_6 : decode cX3_leastValue 6 = .ok (.bipush (-9), 2) := by decide +kernel
theorem dX3_leastValue_8 : decode cX3_leastValue 8 = .ok (.istore 4, 2) := by decide +kernel
theorem dX3_leastValue_10 : decode cX3_leastValue 10 = .ok (.iconst 0, 1) := by decide +kernel
theorem dX3_leastValue_11 : decode cX3_leastValue 11 = .ok (.istore 5, 2) := by decide +kernel
theorem dX3_leastValue_13 : decode cX3_leastValue 13 = .ok (.iload 5, 2) := by decide +kernel
theorem dX3_leastValue_15 : decode cX3_leastValue 15 = .ok (.aload_n 0, 1) := by decide +kernel
theorem dX3_leastValue_16 : decode cX3_leastValue 16 = .ok (.getfield 15, 3) := by decide +kernel
theorem dX3_leastValue_19 : decode cX3_leastValue 19 = .ok (.if_icmp .ge 37, 3) := by decide +kernel
theorem dX3_leastValue_22 : decode cX3_leastValue 22 = .ok (.iload 4, 2) := by decide +kernel
theorem dX3_leastValue_24 : decode cX3_leastValue 24 = .ok (.bipush (-9), 2) := by decide +kernel
theorem dX3_leastValue_26 : decode cX3_leastValue 26 = .ok (.if_icmp .ne 30, 3) := by decide +kernel
theorem dX3_leastValue_29 : decode cX3_leastValue 29 = .ok (.aload_n 0, 1) := by decide +kernel
theorem dX3_leastValue_30 : decode cX3_leastValue 30 = .ok (.iload_n 2, 1) := by decide +kernel
theorem dX3_leastValue_31 : decode cX3_leastValue 31 = .ok (.iload 5, 2) := by decide +kernel
theorem dX3_leastValue_33 : decode cX3_leastValue 33 = .ok (.invokevirtual 47, 3) := by decide +kernel
theorem dX3_leastValue_36 : decode cX3_leastValue 36 = .ok (.aload_n 0, 1) := by decide +kernel
theorem dX3_leastValue_37 : decode cX3_leastValue 37 = .ok (.iload_n 1, 1) := by decide +kernel
theorem dX3_leastValue_38 : decode cX3_leastValue 38 = .ok (.invokestatic 11, 3) := by decide +kernel
theorem dX3_leastValue_41 : decode cX3_leastValue 41 = .ok (.bipush (-9), 2) := by decide +kernel
theorem dX3_leastValue_43 : decode cX3_leastValue 43 = .ok (.if_icmp .ne 7, 3) := by decide +kernel
theorem dX3_leastValue_46 : decode cX3_leastValue 46 = .ok (.iload 5, 2) := by decide +kernel
theorem dX3_leastValue_48 : decode cX3_leastValue 48 = .ok (.istore 4, 2) := by decide +kernel
theorem dX3_leastValue_50 : decode cX3_leastValue 50 = .ok (.iinc 5 1, 3) := by decide +kernel
theorem dX3_leastValue_53 : decode cX3_leastValue 53 = .ok (.goto (-40), 3) := by decide +kernel
theorem dX3_leastValue_56 : decode cX3_leastValue 56 = .ok (.aload_n 0, 1) := by decide +kernel
theorem dX3_leastValue_57 : decode cX3_leastValue 57 = .ok (.iload_n 2, 1) := by decide +kernel
theorem dX3_leastValue_58 : decode cX3_leastValue 58 = .ok (.iload_n 3, 1) := by decide +kernel
theorem dX3_leastValue_59 : decode cX3_leastValue 59 = .ok (.invokevirtual 47, 3) := by decide +kernel
theorem dX3_leastValue_62 : decode cX3_leastValue 62 = .ok (.iload 4, 2) := by decide +kernel
theorem dX3_leastValue_64 : decode cX3_leastValue 64 = .ok (.ireturn, 1) := by decide +kernel
set_option maxRecDepth 20000 in
theorem ggX4_howMany_X4_isInside : GoodIn wsX4_howMany wsX4_isInside := goodIn_r _ [5, 1, 6, 7, 4, 8, 9, 10, 11, 12, 13, 14, 40, 41] (by decide +kernel) (by decide +kernel)
set_option maxRecDepth 20000 in
theorem gX4_howMany_X4_isInside : GoodIn wsX4_howMany (va_wsS RX4 13 yX4_isInside wsX4_isInside) := goodIn_app (goodIn_of _ (by decide +kernel)) ggX4_howMany_X4_isInside
set_option maxRecDepth 20000 in
theorem ggX4_howMany_X4_isOnto : GoodIn wsX4_howMany wsX4_isOnto := goodIn_r _ [17, 1, 6, 7, 4, 8, 18, 19, 20, 12, 21, 14, 40, 41] (by decide +kernel) (by decide +kernel)
set_option maxRecDepth 20000 in
theorem gX4_howMany_X4_isOnto : GoodIn wsX4_howMany (va_wsS RX4 19 yX4_isOnto wsX4_isOnto) := goodIn_app (goodIn_of _ (by decide +kernel)) ggX4_howMany_X4_isOnto
set_option maxRecDepth 20000 in
theorem ggX4_howMany_X4_goesAlong : GoodIn wsX4_howMany wsX4_goesAlong := goodIn_r _ [24, 1, 25, 26, 27, 12, 28, 29, 30, 31, 32, 6, 7, 4, 8, 33, 34, 35, 36, 37, 38, 39, 40, 41] (by decide +kernel) (by decide +kernel)
set_option maxRecDepth 20000 in
theorem gX4_howMany_X4_goesAlong : GoodIn wsX4_howMany (va_wsS RX4 22 yX4_goesAlong wsX4_goesAlong) := goodIn_app (goodIn_of _ (by decide +kernel)) ggX4_howMany_X4_goesAlong
theorem dX4_howMany_0 : decode cX4_howMany 0 = .ok (.iconst 0, 1) := by decide +kernel
theorem dX4_howMany_1 : decode cX4_howMany 1 = .ok (.istore_n 2, 1) := by decide +kernel
theorem dX4_howMany_2 : decode cX4_howMany 2 = .ok (.iconst 0, 1) := by decide +kernel
theorem dX4_howMany_3 : decode cX4_howMany 3 = .ok (.istore_n 3, 1) := by decide +kernel
theorem dX4_howMany_4 : decode cX4_howMany 4 = .ok (.iload_n 3, 1) := by decide +kernel
theorem dX4_howMany_5 : decode cX4_howMany 5 = .ok (.iconst 1, 1) := by decide +kernel
theorem dX4_howMany_6 : decode cX4_howMany 6 = .ok (.iconst 2, 1) := by decide +kernel
theorem dX4_howMany_7 : decode cX4_howMany 7 = .ok (.aload_n 0, 1) := by decide +kernel
theorem dX4_howMany_8 : decode cX4_howMany 8 = .ok (.getfield 7, 3) := by decide +kernel
theorem dX4_howMany_11 : decode cX4_howMany 11 = .ok (.imul, 1) := by decide +kernel
theorem dX4_howMany_12 : decode cX4_howMany 12 = .ok (.ishl, 1) := by decide +kernel
theorem dX4_howMany_13 : decode cX4_howMany 13 = .ok (.if_icmp .ge 40, 3) := by decide +kernel
theorem dX4_howMany_16 : decode cX4_howMany 16 = .ok (.aload_n 0, 1) := by decide +kernel
theorem dX4_howMany_17 : decode cX4_howMany 17 = .ok (.iload_n 3, 1) := by decide +kernel
theorem dX4_howMany_18 : decode cX4_howMany 18 = .ok (.invokestatic 13, 3) := by decide +kernel
theorem dX4_howMany_21 : decode cX4_howMany 21 = .ok (.ifCond .eq 26, 3) := by decide +kernel
theorem dX4_howMany_24 : decode cX4_howMany 24 = .ok (.iload_n 1, 1) := by decide +kernel
theorem dX4_howMany_25 : decode cX4_howMany 25 = .ok (.ifCond .eq 11, 3) := by decide +kernel
theorem dX4_howMany_28 : decode cX4_howMany 28 = .ok (.aload_n 0, 1) := by decide +kernel
theorem dX4_howMany_29 : decode cX4_howMany 29 = .ok (.iload_n 3, 1) := by decide +kernel
theorem dX4_howMany_30 : decode cX4_howMany 30 = .ok (.invokestatic 19, 3) := by decide +kernel
theorem dX4_howMany_33 : decode cX4_howMany 33 = .ok (.ifCond .eq 14, 3) := by decide +kernel
theorem dX4_howMany_36 : decode cX4_howMany 36 = .ok (.aload_n 0, 1) := by decide +kernel
theorem dX4_howMany_37 : decode cX4_howMany 37 = .ok (.iload_n 3, 1) := by decide +kernel
theorem dX4_howMany_38 : decode cX4_howMany 38 = .ok (.invokestatic 22, 3) := by decide +kernel
theorem dX4_howMany_41 : decode cX4_howMany 41 = .ok (.ifCond .eq 6, 3) := by decide +kernel
theorem dX4_howMany_44 : decode cX4_howMany 44 = .ok (.iinc 2 1, 3) := by decide +kernel
theorem dX4_howMany_47 : decode cX4_howMany 47 = .ok (.iinc 3 1, 3) := by decide +kernel
theorem dX4_howMany_50 : decode cX4_howMany 50 = .ok (.goto (-46), 3) := by decide +kernel
theorem dX4_howMany_53 : decode cX4_howMany 53 = .ok (.iload_n 2, 1) := by decide +kernel
theorem dX4_howMany_54 : decode cX4_howMany 54 = .ok (.ireturn, 1) := by decide +kernel
theorem dX4_of_0 : decode cX4_of 0 = .ok (.iload_n 0, 1) := by decide +kernel
theorem dX4_of_1 : decode cX4_of 1 = .ok (.iconst 2, 1) := by decide +kernel
theorem dX4_of_2 : decode cX4_of 2 = .ok (.iload_n 1, 1) := by decide +kernel
theorem dX4_of_3 : decode cX4_of 3 = .ok (.imul, 1) := by decide +kernel
theorem dX4_of_4 : decode cX4_of 4 = .ok (.ishr, 1) := by decide +kernel
theorem dX4_of_5 : decode cX4_of 5 = .ok (.iconst 3, 1) := by decide +kernel
theorem dX4_of_6 : decode cX4_of 6 = .ok (.iand, 1) := by decide +kernel
theorem dX4_of_7 : decode cX4_of 7 = .ok (.ireturn, 1) := by decide +kernel
set_option maxRecDepth 20000 in
theorem ggX4_isInside_X4_of : GoodIn wsX4_isInside wsX4_of := goodIn_r _ [5] (by decide +kernel) (by decide +kernel)
set_option maxRecDepth 20000 in
theorem gX4_isInside_X4_of : GoodIn wsX4_isInside (va_wsS RX4 25 yX4_of wsX4_of) := goodIn_app (goodIn_of _ (by decide +kernel)) ggX4_isInside_X4_of
set_option maxRecDepth 20000 in
theorem ggX4_isInside_X6_has : GoodIn wsX4_isInside wsX6_has := goodIn_r _ [10, 11, 12, 13] (by decide +kernel) (by decide +kernel)
set_option maxRecDepth 20000 in
theorem gX4_isInside_X6_has : GoodIn wsX4_isInside (wsV RX4 29 RX6 yX6_has wsX6_has) := goodIn_app (goodIn_of _ (by decide +kernel)) ggX4_isInside_X6_has
theorem dX4_isInside_0 : decode cX4_isInside 0 = .ok (.iconst 0, 1) := by decide +kernel
theorem dX4_isInside_1 : decode cX4_isInside 1 = .ok (.istore_n 2, 1) := by decide +kernel
theorem dX4_isInside_2 : decode cX4_isInside 2 = .ok (.iload_n 2, 1) := by decide +kernel
theorem dX4_isInside_3 : decode cX4_isInside 3 = .ok (.aload_n 0, 1) := by decide +kernel
theorem dX4_isInside_4 : decode cX4_isInside 4 = .ok (.getfield 7, 3) := by decide +kernel
theorem dX4_isInside_7 : decode cX4_isInside 7 = .ok (.if_icmp .ge 23, 3) := by decide +kernel
theorem dX4_isInside_10 : decode cX4_isInside 10 = .ok (.aload_n 0, 1) := by decide +kernel
theorem dX4_isInside_11 : decode cX4_isInside 11 = .ok (.iload_n 1, 1) := by decide +kernel
theorem dX4_isInside_12 : decode cX4_isInside 12 = .ok (.iload_n 2, 1) := by decide +kernel
theorem dX4_isInside_13 : decode cX4_isInside 13 = .ok (.invokestatic 25, 3) := by decide +kernel
theorem dX4_isInside_16 : decode cX4_isInside 16 = .ok (.invokevirtual 29, 3) := by decide +kernel
theorem dX4_isInside_19 : decode cX4_isInside 19 = .ok (.ifCond .ne 5, 3) := by decide +kernel
theorem dX4_isInside_22 : decode cX4_isInside 22 = .ok (.iconst 0, 1) := by decide +kernel
theorem dX4_isInside_23 : decode cX4_isInside 23 = .ok (.ireturn, 1) := by decide +kernel
theorem dX4_isInside_24 : decode cX4_isInside 24 = .ok (.iinc 2 1, 3) := by decide +kernel
theorem dX4_isInside_27 : decode cX4_isInside 27 = .ok (.goto (-25), 3) := by decide +kernel
theorem dX4_isInside_30 : decode cX4_isInside 30 = .ok (.iconst 1, 1) := by decide +kernel
theorem dX4_isInside_31 : decode cX4_isInside 31 = .ok (.ireturn, 1) := by decide +kernel
set_option maxRecDepth 20000 in
theorem ggX4_isOnto_X4_of : GoodIn wsX4_isOnto wsX4_of := goodIn_r _ [5] (by decide +kernel) (by decide +kernel)
set_option maxRecDepth 20000 in
theorem gX4_isOnto_X4_of : GoodIn wsX4_isOnto (va_wsS RX4 25 yX4_of wsX4_of) := goodIn_app (goodIn_of _ (by decide +kernel)) ggX4_isOnto_X4_of
set_option maxRecDepth 20000 in
theorem ggX4_isOnto_X6_allElements : GoodIn wsX4_isOnto wsX6_allElements := goodIn_r _ [10, 11, 12, 13] (by decide +kernel) (by decide +kernel)
set_option maxRecDepth 20000 in
theorem gX4_isOnto_X6_allElements : GoodIn wsX4_isOnto (wsV RX4 33 RX6 yX6_allElements wsX6_allElements) := goodIn_app (goodIn_of _ (by decide +kernel)) ggX4_isOnto_X6_allElements
theorem dX4_isOnto_0 : decode cX4_isOnto 0 = .ok (.iconst 0, 1) := by decide +kernel
theorem dX4_isOnto_1 : decode cX4_isOnto 1 = .ok (.istore_n 2, 1) := by decide +kernel
theorem dX4_isOnto_2 : decode cX4_isOnto 2 = .ok (.iconst 0, 1) := by decide +kernel
theorem dX4_isOnto_3 : decode cX4_isOnto 3 = .ok (.istore_n 3, 1) := by decide +kernel
theorem dX4_isOnto_4 : decode cX4_isOnto 4 = .ok (.iload_n 3, 1) := by decide +kernel
theorem dX4_isOnto_5 : decode cX4_isOnto 5 = .ok (.aload_n 0, 1) := by decide +kernel
theorem dX4_isOnto_6 : decode cX4_isOnto 6 = .ok (.getfield 7, 3) := by decide +kernel
theorem dX4_isOnto_9 : decode cX4_isOnto 9 = .ok (.if_icmp .ge 19, 3) := by decide +kernel
theorem dX4_isOnto_12 : decode cX4_isOnto 12 = .ok (.iload_n 2, 1) := by decide +kernel
theorem dX4_isOnto_13 : decode cX4_isOnto 13 = .ok (.iconst 1, 1) := by decide +kernel
theorem dX4_isOnto_14 : decode cX4_isOnto 14 = .ok (.iload_n 1, 1) := by decide +kernel
theorem dX4_isOnto_15 : decode cX4_isOnto 15 = .ok (.iload_n 3, 1) := by decide +kernel
theorem dX4_isOnto_16 : decode cX4_isOnto 16 = .ok (.invokestatic 25, 3) := by decide +kernel
theorem dX4_isOnto_19 : decode cX4_isOnto 19 = .ok (.ishl, 1) := by decide +kernel
theorem dX4_isOnto_20 : decode cX4_isOnto 20 = .ok (.ior, 1) := by decide +kernel
theorem dX4_isOnto_21 : decode cX4_isOnto 21 = .ok (.istore_n 2, 1) := by decide +kernel
theorem dX4_isOnto_22 : decode cX4_isOnto 22 = .ok (.iinc 3 1, 3) := by decide +kernel
theorem dX4_isOnto_25 : decode cX4_isOnto 25 = .ok (.goto (-21), 3) := by decide +kernel
theorem dX4_isOnto_28 : decode cX4_isOnto 28 = .ok (.iload_n 2, 1) := by decide +kernel
theorem dX4_isOnto_29 : decode cX4_isOnto 29 = .ok (.aload_n 0, 1) := by decide +kernel
theorem dX4_isOnto_30 : decode cX4_isOnto 30 = .ok (.invokevirtual 33, 3) := by decide +kernel
theorem dX4_isOnto_33 : decode cX4_isOnto 33 = .ok (.if_icmp .ne 7, 3) := by decide +kernel
theorem dX4_isOnto_36 : decode cX4_isOnto 36 = .ok (.iconst 1, 1) := by decide +kernel
theorem dX4_isOnto_37 : decode cX4_isOnto 37 = .ok (.goto 4, 3) := by decide +kernel
theorem dX4_isOnto_40 : decode cX4_isOnto 40 = .ok (.iconst 0, 1) := by decide +kernel
theorem dX4_isOnto_41 : decode cX4_isOnto 41 = .ok (.ireturn, 1) := by decide +kernel
set_option maxRecDepth 20000 in
theorem ggX4_goesAlong_X6_one : GoodIn wsX4_goesAlong wsX6_one := goodIn_r _ [6, 7, 8, 9, 5, 10, 22, 23] (by decide +kernel) (by decide +kernel)
set_option maxRecDepth 20000 in
theorem gX4_goesAlong_X6_one : GoodIn wsX4_goesAlong (wsV RX4 37 RX6 yX6_one wsX6_one) := goodIn_app (goodIn_of _ (by decide +kernel)) ggX4_goesAlong_X6_one
set_option maxRecDepth 20000 in
theorem ggX4_goesAlong_X4_of : GoodIn wsX4_goesAlong wsX4_of := goodIn_r _ [14] (by decide +kernel) (by decide +kernel)
set_option maxRecDepth 20000 in
theorem gX4_goesAlong_X4_of : GoodIn wsX4_goesAlong (va_wsS RX4 25 yX4_of wsX4_of) := goodIn_app (goodIn_of _ (by decide +kernel)) ggX4_goesAlong_X4_of
set_option maxRecDepth 20000 in
theorem ggX4_goesAlong_X6_two : GoodIn wsX4_goesAlong wsX6_two := goodIn_r _ [18, 7, 19, 20, 5, 21, 22, 23] (by decide +kernel) (by decide +kernel)
set_option maxRecDepth 20000 in
theorem gX4_goesAlong_X6_two : GoodIn wsX4_goesAlong (wsV RX4 41 RX6 yX6_two wsX6_two) := goodIn_app (goodIn_of _ (by decide +kernel)) ggX4_goesAlong_X6_two
theorem dX4_goesAlong_0 : decode cX4_goesAlong 0 = .ok (.iconst 0, 1) := by decide +kernel
theorem dX4_goesAlong_1 : decode cX4_goesAlong 1 = .ok (.istore_n 2, 1) := by decide +kernel
theorem dX4_goesAlong_2 : decode cX4_goesAlong 2 = .ok (.iload_n 2, 1) := by decide +kernel
theorem dX4_goesAlong_3 : decode cX4_goesAlong 3 = .ok (.aload_n 0, 1) := by decide +kernel
theorem dX4_goesAlong_4 : decode cX4_goesAlong 4 = .ok (.getfield 7, 3) := by decide +kernel
theorem dX4_goesAlong_7 : decode cX4_goesAlong 7 = .ok (.if_icmp .ge 77, 3) := by decide +kernel
theorem dX4_goesAlong_10 : decode cX4_goesAlong 10 = .ok (.iload_n 1, 1) := by decide +kernel
theorem dX4_goesAlong_11 : decode cX4_goesAlong 11 = .ok (.aload_n 0, 1) := by decide +kernel
theorem dX4_goesAlong_12 : decode cX4_goesAlong 12 = .ok (.iload_n 2, 1) := by decide +kernel
theorem dX4_goesAlong_13 : decode cX4_goesAlong 13 = .ok (.invokevirtual 37, 3) := by decide +kernel
theorem dX4_goesAlong_16 : decode cX4_goesAlong 16 = .ok (.invokestatic 25, 3) := by decide +kernel
theorem dX4_goesAlong_19 : decode cX4_goesAlong 19 = .ok (.aload_n 0, 1) := by decide +kernel
theorem dX4_goesAlong_20 : decode cX4_goesAlong 20 = .ok (.iload_n 1, 1) := by decide +kernel
theorem dX4_goesAlong_21 : decode cX4_goesAlong 21 = .ok (.iload_n 2, 1) := by decide +kernel
theorem dX4_goesAlong_22 : decode cX4_goesAlong 22 = .ok (.invokestatic 25, 3) := by decide +kernel
theorem dX4_goesAlong_25 : decode cX4_goesAlong 25 = .ok (.invokevirtual 37, 3) := by decide +kernel
theorem dX4_goesAlong_28 : decode cX4_goesAlong 28 = .ok (.if_icmp .eq 5, 3) := by decide +kernel
theorem dX4_goesAlong_31 : decode cX4_goesAlong 31 = .ok (.iconst 0, 1) := by decide +kernel
theorem dX4_goesAlong_32 : decode cX4_goesAlong 32 = .ok (.ireturn, 1) := by decide +kernel
theorem dX4_goesAlong_33 : decode cX4_goesAlong 33 = .ok (.iconst 0, 1) := by decide +kernel
theorem dX4_goesAlong_34 : decode cX4_goesAlong 34 = .ok (.istore_n 3, 1) := by decide +kernel
theorem dX4_goesAlong_35 : decode cX4_goesAlong 35 = .ok (.iload_n 3, 1) := by decide +kernel
theorem dX4_goesAlong_36 : decode cX4_goesAlong 36 = .ok (.aload_n 0, 1) := by decide +kernel
theorem dX4_goesAlong_37 : decode cX4_goesAlong 37 = .ok (.getfield 7, 3) := by decide +kernel
theorem dX4_goesAlong_40 : decode cX4_goesAlong 40 = .ok (.if_icmp .ge 38, 3) := by decide +kernel
theorem dX4_goesAlong_43 : decode cX4_goesAlong 43 = .ok (.iload_n 1, 1) := by decide +kernel
theorem dX4_goesAlong_44 : decode cX4_goesAlong 44 = .ok (.aload_n 0, 1) := by decide +kernel
theorem dX4_goesAlong_45 : decode cX4_goesAlong 45 = .ok (.iload_n 2, 1) := by decide +kernel
theorem dX4_goesAlong_46 : decode cX4_goesAlong 46 = .ok (.iload_n 3, 1) := by decide +kernel
theorem dX4_goesAlong_47 : decode cX4_goesAlong 47 = .ok (.invokevirtual 41, 3) := by decide +kernel
theorem dX4_goesAlong_50 : decode cX4_goesAlong 50 = .ok (.invokestatic 25, 3) := by decide +kernel
theorem dX4_goesAlong_53 : decode cX4_goesAlong 53 = .ok (.aload_n 0, 1) := by decide +kernel
theorem dX4_goesAlong_54 : decode cX4_goesAlong 54 = .ok (.iload_n 1, 1) := by decide +kernel
theorem dX4_goesAlong_55 : decode cX4_goesAlong 55 = .ok (.iload_n 2, 1) := by decide +kernel
theorem dX4_goesAlong_56 : decode cX4_goesAlong 56 = .ok (.invokestatic 25, 3) := by decide +kernel
theorem dX4_goesAlong_59 : decode cX4_goesAlong 59 = .ok (.iload_n 1, 1) := by decide +kernel
theorem dX4_goesAlong_60 : decode cX4_goesAlong 60 = .ok (.iload_n 3, 1) := by decide +kernel
theorem dX4_goesAlong_61 : decode cX4_goesAlong 61 = .ok (.invokestatic 25, 3) := by decide +kernel
theorem dX4_goesAlong_64 : decode cX4_goesAlong 64 = .ok (.invokevirtual 41, 3) := by decide +kernel
theorem dX4_goesAlong_67 : decode cX4_goesAlong 67 = .ok (.if_icmp .eq 5, 3) := by decide +kernel
theorem dX4_goesAlong_70 : decode cX4_goesAlong 70 = .ok (.iconst 0, 1) := by decide +kernel
theorem dX4_goesAlong_71 : decode cX4_goesAlong 71 = .ok (.ireturn, 1) := by decide +kernel
theorem dX4_goesAlong_72 : decode cX4_goesAlong 72 = .ok (.iinc 3 1, 3) := by decide +kernel
theorem dX4_goesAlong_75 : decode cX4_goesAlong 75 = .ok (.goto (-40), 3) := by decide +kernel
theorem dX4_goesAlong_78 : decode cX4_goesAlong 78 = .ok (.iinc 2 1, 3) := by decide +kernel
theorem dX4_goesAlong_81 : decode cX4_goesAlong 81 = .ok (.goto (-79), 3) := by decide +kernel
theorem dX4_goesAlong_84 : decode cX4_goesAlong 84 = .ok (.iconst 1, 1) := by decide +kernel
theorem dX4_goesAlong_85 : decode cX4_goesAlong 85 = .ok (.ireturn, 1) := by decide +kernel
set_option maxRecDepth 20000 in
theorem ggX5_init_X6_init : GoodIn wsX5_init wsX6_init := goodIn_r _ [9, 10, 2, 3, 11, 12, 13, 14] (by decide +kernel) (by decide +kernel)
set_option maxRecDepth 20000 in
theorem gX5_init_X6_init_n9 : GoodIn wsX5_init (wsX6_init) := ggX5_init_X6_init
theorem dX5_init_0 : decode cX5_init 0 = .ok (.aload_n 0, 1) := by decide +kernel
theorem dX5_init_1 : decode cX5_init 1 = .ok (.invokespecial 1, 3) := by decide +kernel
theorem dX5_init_4 : decode cX5_init 4 = .ok (.aload_n 0, 1) := by decide +kernel
theorem dX5_init_5 : decode cX5_init 5 = .ok (.new 7, 3) := by decide +kernel
theorem dX5_init_8 : decode cX5_init 8 = .ok (.dup, 1) := by decide +kernel
theorem dX5_init_9 : decode cX5_init 9 = .ok (.invokespecial 9, 3) := by decide +kernel
theorem dX5_init_12 : decode cX5_init 12 = .ok (.putfield 10, 3) := by decide +kernel
theorem dX5_init_15 : decode cX5_init 15 = .ok (.return_, 1) := by decide +kernel
