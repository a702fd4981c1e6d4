set_option maxRecDepth 20000 in
theorem ggX5_faultOf_X6_startOver : GoodIn wsX5_faultOf wsX6_startOver := goodIn_r _ [8, 9, 10, 11, 12, 7, 13, 14, 15, 16, 70, 71] (by decide +kernel) (by decide +kernel)
set_option maxRecDepth 20000 in
theorem gX5_faultOf_X6_startOver : GoodIn wsX5_faultOf (wsV RX5 16 RX6 yX6_startOver wsX6_startOver) := goodIn_app (goodIn_of _ (by decide +kernel)) ggX5_faultOf_X6_startOver
set_option maxRecDepth 20000 in
theorem ggX5_faultOf_X5_takes : GoodIn wsX5_faultOf wsX5_takes := goodIn_r _ [21, 3, 22, 23, 24, 20, 25, 2, 26, 27, 28, 29, 30, 31, 32, 33, 34, 1, 35, 36, 37, 38, 39, 40, 41, 42, 43, 4, 5, 6, 7, 8, 9, 10, 11, 12, 13, 14, 15, 16, 44, 45, 46, 47, 48, 49, 50, 51, 52, 53, 54, 55, 56, 57, 58, 59, 60, 61, 62, 63, 64, 65, 66, 67, 68, 69, 70, 71] (by decide +kernel) (by decide +kernel)
set_option maxRecDepth 20000 in
theorem gX5_faultOf_X5_takes : GoodIn wsX5_faultOf (wsV RX5 27 RX5 yX5_takes wsX5_takes) := goodIn_app (goodIn_of _ (by decide +kernel)) ggX5_faultOf_X5_takes
theorem dX5_faultOf_0 : decode cX5_faultOf 0 = .ok (.aload_n 0, 1) := by decide +kernel
theorem dX5_faultOf_1 : decode cX5_faultOf 1 = .ok (.getfield 10, 3) := by decide +kernel
theorem dX5_faultOf_4 : decode cX5_faultOf 4 = .ok (.iconst 2, 1) := by decide +kernel
theorem dX5_faultOf_5 : decode cX5_faultOf 5 = .ok (.invokevirtual 16, 3) := by decide +kernel
theorem dX5_faultOf_8 : decode cX5_faultOf 8 = .ok (.aload_n 0, 1) := by decide +kernel
theorem dX5_faultOf_9 : decode cX5_faultOf 9 = .ok (.iconst 0, 1) := by decide +kernel
theorem dX5_faultOf_10 : decode cX5_faultOf 10 = .ok (.putfield 20, 3) := by decide +kernel
theorem dX5_faultOf_13 : decode cX5_faultOf 13 = .ok (.aload_n 0, 1) := by decide +kernel
theorem dX5_faultOf_14 : decode cX5_faultOf 14 = .ok (.iconst 0, 1) := by decide +kernel
theorem dX5_faultOf_15 : decode cX5_faultOf 15 = .ok (.putfield 24, 3) := by decide +kernel
theorem dX5_faultOf_18 : decode cX5_faultOf 18 = .ok (.iconst 0, 1) := by decide +kernel
theorem dX5_faultOf_19 : decode cX5_faultOf 19 = .ok (.istore_n 3, 1) := by decide +kernel
theorem dX5_faultOf_20 : decode cX5_faultOf 20 = .ok (.iload_n 3, 1) := by decide +kernel
theorem dX5_faultOf_21 : decode cX5_faultOf 21 = .ok (.iload_n 2, 1) := by decide +kernel
theorem dX5_faultOf_22 : decode cX5_faultOf 22 = .ok (.if_icmp .ge 35, 3) := by decide +kernel
theorem dX5_faultOf_25 : decode cX5_faultOf 25 = .ok (.iload_n 3, 1) := by decide +kernel
theorem dX5_faultOf_26 : decode cX5_faultOf 26 = .ok (.aload_n 1, 1) := by decide +kernel
theorem dX5_faultOf_27 : decode cX5_faultOf 27 = .ok (.arraylength, 1) := by decide +kernel
theorem dX5_faultOf_28 : decode cX5_faultOf 28 = .ok (.if_icmp .ge 29, 3) := by decide +kernel
theorem dX5_faultOf_31 : decode cX5_faultOf 31 = .ok (.aload_n 1, 1) := by decide +kernel
theorem dX5_faultOf_32 : decode cX5_faultOf 32 = .ok (.iload_n 3, 1) := by decide +kernel
theorem dX5_faultOf_33 : decode cX5_faultOf 33 = .ok (.iaload, 1) := by decide +kernel
theorem dX5_faultOf_34 : decode cX5_faultOf 34 = .ok (.bipush 32, 2) := by decide +kernel
theorem dX5_faultOf_36 : decode cX5_faultOf 36 = .ok (.if_icmp .eq 15, 3) := by decide +kernel
theorem dX5_faultOf_39 : decode cX5_faultOf 39 = .ok (.aload_n 0, 1) := by decide +kernel
theorem dX5_faultOf_40 : decode cX5_faultOf 40 = .ok (.aload_n 1, 1) := by decide +kernel
theorem dX5_faultOf_41 : decode cX5_faultOf 41 = .ok (.iload_n 3, 1) := by decide +kernel
theorem dX5_faultOf_42 : decode cX5_faultOf 42 = .ok (.iaload, 1) := by decide +kernel
theorem dX5_faultOf_43 : decode cX5_faultOf 43 = .ok (.invokevirtual 27, 3) := by decide +kernel
theorem dX5_faultOf_46 : decode cX5_faultOf 46 = .ok (.ifCond .ne 5, 3) := by decide +kernel
theorem dX5_faultOf_49 : decode cX5_faultOf 49 = .ok (.iload_n 3, 1) := by decide +kernel
theorem dX5_faultOf_50 : decode cX5_faultOf 50 = .ok (.ireturn, 1) := by decide +kernel
theorem dX5_faultOf_51 : decode cX5_faultOf 51 = .ok (.iinc 3 1, 3) := by decide +kernel
theorem dX5_faultOf_54 : decode cX5_faultOf 54 = .ok (.goto (-34), 3) := by decide +kernel
theorem dX5_faultOf_57 : decode cX5_faultOf 57 = .ok (.aload_n 0, 1) := by decide +kernel
theorem dX5_faultOf_58 : decode cX5_faultOf 58 = .ok (.getfield 24, 3) := by decide +kernel
theorem dX5_faultOf_61 : decode cX5_faultOf 61 = .ok (.ifCond .ne 7, 3) := by decide +kernel
theorem dX5_faultOf_64 : decode cX5_faultOf 64 = .ok (.iconst (-1), 1) := by decide +kernel
theorem dX5_faultOf_65 : decode cX5_faultOf 65 = .ok (.goto 4, 3) := by decide +kernel
theorem dX5_faultOf_68 : decode cX5_faultOf 68 = .ok (.iload_n 2, 1) := by decide +kernel
theorem dX5_faultOf_69 : decode cX5_faultOf 69 = .ok (.ireturn, 1) := by decide +kernel
set_option maxRecDepth 20000 in
theorem ggX5_takes_X5_opens : GoodIn wsX5_takes wsX5_opens := goodIn_r _ [6, 7, 1, 8, 62, 63, 64, 65] (by decide +kernel) (by decide +kernel)
set_option maxRecDepth 20000 in
theorem gX5_takes_X5_opens : GoodIn wsX5_takes (wsV RX5 31 RX5 yX5_opens wsX5_opens) := goodIn_app (goodIn_of _ (by decide +kernel)) ggX5_takes_X5_opens
set_option maxRecDepth 20000 in
theorem ggX5_takes_X5_ends : GoodIn wsX5_takes wsX5_ends := goodIn_r _ [12, 8, 7, 1, 13, 14, 15, 5, 16, 17, 18, 62, 63, 64, 65, 66, 67] (by decide +kernel) (by decide +kernel)
set_option maxRecDepth 20000 in
theorem gX5_takes_X5_ends : GoodIn wsX5_takes (wsV RX5 34 RX5 yX5_ends wsX5_ends) := goodIn_app (goodIn_of _ (by decide +kernel)) ggX5_takes_X5_ends
set_option maxRecDepth 20000 in
theorem ggX5_takes_X5_takesFigure : GoodIn wsX5_takes wsX5_takesFigure := goodIn_r _ [22, 8, 1, 13, 14, 15, 5, 16, 17, 18, 23, 24, 25, 26, 27, 28, 29, 30, 31, 32, 33, 34, 35, 36, 37, 38, 39, 40, 41, 42, 43, 44, 45, 46, 47, 48, 49, 50, 51, 52, 53, 54, 55, 56, 57, 58, 59, 60, 61, 62, 63, 64, 65, 66, 67] (by decide +kernel) (by decide +kernel)
set_option maxRecDepth 20000 in
theorem gX5_takes_X5_takesFigure : GoodIn wsX5_takes (wsV RX5 38 RX5 yX5_takesFigure wsX5_takesFigure) := goodIn_app (goodIn_of _ (by decide +kernel)) ggX5_takes_X5_takesFigure
theorem dX5_takes_0 : decode cX5_takes 0 = .ok (.aload_n 0, 1) := by decide +kernel
theorem dX5_takes_1 : decode cX5_takes 1 = .ok (.getfield 24, 3) := by decide +kernel
theorem dX5_takes_4 : decode cX5_takes 4 = .ok (.ifCond .ne 9, 3) := by decide +kernel
theorem dX5_takes_7 : decode cX5_takes 7 = .ok (.aload_n 0, 1) := by decide +kernel
theorem dX5_takes_8 : decode cX5_takes 8 = .ok (.iload_n 1, 1) := by decide +kernel
theorem dX5_takes_9 : decode cX5_takes 9 = .ok (.invokevirtual 31, 3) := by decide +kernel
theorem dX5_takes_12 : decode cX5_takes 12 = .ok (.ireturn, 1) := by decide +kernel
theorem dX5_takes_13 : decode cX5_takes 13 = .ok (.iload_n 1, 1) := by decide +kernel
theorem dX5_takes_14 : decode cX5_takes 14 = .ok (.bipush 59, 2) := by decide +kernel
theorem dX5_takes_16 : decode cX5_takes 16 = .ok (.if_icmp .ne 8, 3) := by decide +kernel
theorem dX5_takes_19 : decode cX5_takes 19 = .ok (.aload_n 0, 1) := by decide +kernel
theorem dX5_takes_20 : decode cX5_takes 20 = .ok (.invokevirtual 34, 3) := by decide +kernel
theorem dX5_takes_23 : decode cX5_takes 23 = .ok (.ireturn, 1) := by decide +kernel
theorem dX5_takes_24 : decode cX5_takes 24 = .ok (.iload_n 1, 1) := by decide +kernel
theorem dX5_takes_25 : decode cX5_takes 25 = .ok (.bipush 48, 2) := by decide +kernel
theorem dX5_takes_27 : decode cX5_takes 27 = .ok (.if_icmp .lt 24, 3) := by decide +kernel
theorem dX5_takes_30 : decode cX5_takes 30 = .ok (.iload_n 1, 1) := by decide +kernel
theorem dX5_takes_31 : decode cX5_takes 31 = .ok (.bipush 57, 2) := by decide +kernel
theorem dX5_takes_33 : decode cX5_takes 33 = .ok (.if_icmp .gt 18, 3) := by decide +kernel
theorem dX5_takes_36 : decode cX5_takes 36 = .ok (.aload_n 0, 1) := by decide +kernel
theorem dX5_takes_37 : decode cX5_takes 37 = .ok (.iload_n 1, 1) := by decide +kernel
theorem dX5_takes_38 : decode cX5_takes 38 = .ok (.bipush 48, 2) := by decide +kernel
theorem dX5_takes_40 : decode cX5_takes 40 = .ok (.isub, 1) := by decide +kernel
theorem dX5_takes_41 : decode cX5_takes 41 = .ok (.invokevirtual 38, 3) := by decide +kernel
theorem dX5_takes_44 : decode cX5_takes 44 = .ok (.ifCond .eq 7, 3) := by decide +kernel
theorem dX5_takes_47 : decode cX5_takes 47 = .ok (.iconst 1, 1) := by decide +kernel
theorem dX5_takes_48 : decode cX5_takes 48 = .ok (.goto 4, 3) := by decide +kernel
theorem dX5_takes_51 : decode cX5_takes 51 = .ok (.iconst 0, 1) := by decide +kernel
theorem dX5_takes_52 : decode cX5_takes 52 = .ok (.ireturn, 1) := by decide +kernel
theorem dX5_opens_0 : decode cX5_opens 0 = .ok (.iload_n 1, 1) := by decide +kernel
theorem dX5_opens_1 : decode cX5_opens 1 = .ok (.bipush 102, 2) := by decide +kernel
theorem dX5_opens_3 : decode cX5_opens 3 = .ok (.if_icmp .eq 22, 3) := by decide +kernel
theorem dX5_opens_6 : decode cX5_opens 6 = .ok (.iload_n 1, 1) := by decide +kernel
theorem dX5_opens_7 : decode cX5_opens 7 = .ok (.bipush 103, 2) := by decide +kernel
theorem dX5_opens_9 : decode cX5_opens 9 = .ok (.if_icmp .eq 16, 3) := by decide +kernel
theorem dX5_opens_12 : decode cX5_opens 12 = .ok (.iload_n 1, 1) := by decide +kernel
theorem dX5_opens_13 : decode cX5_opens 13 = .ok (.bipush 110, 2) := by decide +kernel
theorem dX5_opens_15 : decode cX5_opens 15 = .ok (.if_icmp .ne 14, 3) := by decide +kernel
theorem dX5_opens_18 : decode cX5_opens 18 = .ok (.aload_n 0, 1) := by decide +kernel
theorem dX5_opens_19 : decode cX5_opens 19 = .ok (.getfield 20, 3) := by decide +kernel
theorem dX5_opens_22 : decode cX5_opens 22 = .ok (.ifCond .ne 7, 3) := by decide +kernel
theorem dX5_opens_25 : decode cX5_opens 25 = .ok (.iconst 1, 1) := by decide +kernel
theorem dX5_opens_26 : decode cX5_opens 26 = .ok (.goto 4, 3) := by decide +kernel
theorem dX5_opens_29 : decode cX5_opens 29 = .ok (.iconst 0, 1) := by decide +kernel
theorem dX5_opens_30 : decode cX5_opens 30 = .ok (.istore_n 2, 1) := by decide +kernel
theorem dX5_opens_31 : decode cX5_opens 31 = .ok (.iload_n 2, 1) := by decide +kernel
theorem dX5_opens_32 : decode cX5_opens 32 = .ok (.ifCond .eq 13, 3) := by decide +kernel
theorem dX5_opens_35 : decode cX5_opens 35 = .ok (.aload_n 0, 1) := by decide +kernel
theorem dX5_opens_36 : decode cX5_opens 36 = .ok (.iload_n 1, 1) := by decide +kernel
theorem dX5_opens_37 : decode cX5_opens 37 = .ok (.putfield 24, 3) := by decide +kernel
theorem dX5_opens_40 : decode cX5_opens 40 = .ok (.aload_n 0, 1) := by decide +kernel
theorem dX5_opens_41 : decode cX5_opens 41 = .ok (.iconst 0, 1) := by decide +kernel
theorem dX5_opens_42 : decode cX5_opens 42 = .ok (.putfield 41, 3) := by decide +kernel
theorem dX5_opens_45 : decode cX5_opens 45 = .ok (.iload_n 2, 1) := by decide +kernel
theorem dX5_opens_46 : decode cX5_opens 46 = .ok (.ireturn, 1) := by decide +kernel
set_option maxRecDepth 20000 in
theorem ggX5_ends_X5_figuresDue : GoodIn wsX5_ends wsX5_figuresDue := goodIn_r _ [8, 3, 9, 10, 11, 12, 13, 14, 15, 16] (by decide +kernel) (by decide +kernel)
set_option maxRecDepth 20000 in
theorem gX5_ends_X5_figuresDue : GoodIn wsX5_ends (wsV RX5 44 RX5 yX5_figuresDue wsX5_figuresDue) := goodIn_app (goodIn_of _ (by decide +kernel)) ggX5_ends_X5_figuresDue
theorem dX5_ends_0 : decode cX5_ends 0 = .ok (.aload_n 0, 1) := by decide +kernel
theorem dX5_ends_1 : decode cX5_ends 1 = .ok (.getfield 41, 3) := by decide +kernel
theorem dX5_ends_4 : decode cX5_ends 4 = .ok (.aload_n 0, 1) := by decide +kernel
theorem dX5_ends_5 : decode cX5_ends 5 = .ok (.invokevirtual 44, 3) := by decide +kernel
theorem dX5_ends_8 : decode cX5_ends 8 = .ok (.if_icmp .ge 5, 3) := by decide +kernel
theorem dX5_ends_11 : decode cX5_ends 11 = .ok (.iconst 0, 1) := by decide +kernel
theorem dX5_ends_12 : decode cX5_ends 12 = .ok (.ireturn, 1) := by decide +kernel
theorem dX5_ends_13 : decode cX5_ends 13 = .ok (.aload_n 0, 1) := by decide +kernel
theorem dX5_ends_14 : decode cX5_ends 14 = .ok (.dup, 1) := by decide +kernel
theorem dX5_ends_15 : decode cX5_ends 15 = .ok (.getfield 20, 3) := by decide +kernel
theorem dX5_ends_18 : decode cX5_ends 18 = .ok (.iconst 1, 1) := by decide +kernel
theorem dX5_ends_19 : decode cX5_ends 19 = .ok (.iadd, 1) := by decide +kernel
theorem dX5_ends_20 : decode cX5_ends 20 = .ok (.putfield 20, 3) := by decide +kernel
theorem dX5_ends_23 : decode cX5_ends 23 = .ok (.aload_n 0, 1) := by decide +kernel
theorem dX5_ends_24 : decode cX5_ends 24 = .ok (.iconst 0, 1) := by decide +kernel
theorem dX5_ends_25 : decode cX5_ends 25 = .ok (.putfield 24, 3) := by decide +kernel
theorem dX5_ends_28 : decode cX5_ends 28 = .ok (.iconst 1, 1) := by decide +kernel
theorem dX5_ends_29 : decode cX5_ends 29 = .ok (.ireturn, 1) := by decide +kernel
theorem dX5_figuresDue_0 : decode cX5_figuresDue 0 = .ok (.aload_n 0, 1) := by decide +kernel
theorem dX5_figuresDue_1 : decode cX5_figuresDue 1 = .ok (.getfield 24, 3) := by decide +kernel
theorem dX5_figuresDue_4 : decode cX5_figuresDue 4 = .ok (.lookupswitch 52 #[(102, 28), (103, 44)], 28) := by decide +kernel
theorem dX5_figuresDue_32 : decode cX5_figuresDue 32 = .ok (.aload_n 0, 1) := by decide +kernel
theorem dX5_figuresDue_33 : decode cX5_figuresDue 33 = .ok (.getfield 10, 3) := by decide +kernel
theorem dX5_figuresDue_36 : decode cX5_figuresDue 36 = .ok (.getfield 48, 3) := by decide +kernel
theorem dX5_figuresDue_39 : decode cX5_figuresDue 39 = .ok (.aload_n 0, 1) := by decide +kernel
theorem dX5_figuresDue_40 : decode cX5_figuresDue 40 = .ok (.getfield 10, 3) := by decide +kernel
theorem dX5_figuresDue_43 : decode cX5_figuresDue 43 = .ok (.getfield 48, 3) := by decide +kernel
theorem dX5_figuresDue_46 : decode cX5_figuresDue 46 = .ok (.imul, 1) := by decide +kernel
theorem dX5_figuresDue_47 : decode cX5_figuresDue 47 = .ok (.ireturn, 1) := by decide +kernel
theorem dX5_figuresDue_48 : decode cX5_figuresDue 48 = .ok (.aload_n 0, 1) := by decide +kernel
theorem dX5_figuresDue_49 : decode cX5_figuresDue 49 = .ok (.getfield 10, 3) := by decide +kernel
theorem dX5_figuresDue_52 : decode cX5_figuresDue 52 = .ok (.getfield 48, 3) := by decide +kernel
theorem dX5_figuresDue_55 : decode cX5_figuresDue 55 = .ok (.ireturn, 1) := by decide +kernel
theorem dX5_figuresDue_56 : decode cX5_figuresDue 56 = .ok (.iconst 1, 1) := by decide +kernel
theorem dX5_figuresDue_57 : decode cX5_figuresDue 57 = .ok (.ireturn, 1) := by decide +kernel
set_option maxRecDepth 20000 in
theorem ggX5_takesFigure_X5_figuresDue : GoodIn wsX5_takesFigure wsX5_figuresDue := goodIn_r _ [7, 2, 8, 9, 49, 50, 51, 52, 53, 54] (by decide +kernel) (by decide +kernel)
set_option maxRecDepth 20000 in
theorem gX5_takesFigure_X5_figuresDue : GoodIn wsX5_takesFigure (wsV RX5 44 RX5 yX5_figuresDue wsX5_figuresDue) := goodIn_app (goodIn_of _ (by decide +kernel)) ggX5_takesFigure_X5_figuresDue
set_option maxRecDepth 20000 in
theorem ggX5_takesFigure_X5_takesSize : GoodIn wsX5_takesFigure wsX5_takesSize := goodIn_r _ [13, 8, 14, 15, 16, 17, 18, 19, 20, 21, 22, 23, 24, 25, 26, 49, 50, 51, 52, 53, 54] (by decide +kernel) (by decide +kernel)
set_option maxRecDepth 20000 in
theorem gX5_takesFigure_X5_takesSize : GoodIn wsX5_takesFigure (wsV RX5 51 RX5 yX5_takesSize wsX5_takesSize) := goodIn_app (goodIn_of _ (by decide +kernel)) ggX5_takesFigure_X5_takesSize
set_option maxRecDepth 20000 in
theorem ggX5_takesFigure_X5_takesValue : GoodIn wsX5_takesFigure wsX5_takesValue := goodIn_r _ [30, 8, 2, 1, 31, 32, 33, 17, 34, 19, 35, 25, 26, 36, 37, 38, 6, 39, 9, 40, 41, 42, 43, 44, 22, 23, 45, 46, 47, 48, 20, 49, 50, 51, 52, 53, 54] (by decide +kernel) (by decide +kernel)
set_option maxRecDepth 20000 in
theorem gX5_takesFigure_X5_takesValue : GoodIn wsX5_takesFigure (wsV RX5 54 RX5 yX5_takesValue wsX5_takesValue) := goodIn_app (goodIn_of _ (by decide +kernel)) ggX5_takesFigure_X5_takesValue
theorem dX5_takesFigure_0 : decode cX5_takesFigure 0 = .ok (.aload_n 0, 1) := by decide +kernel
theorem dX5_takesFigure_1 : decode cX5_takesFigure 1 = .ok (.getfield 41, 3) := by decide +kernel
theorem dX5_takesFigure_4 : decode cX5_takesFigure 4 = .ok (.aload_n 0, 1) := by decide +kernel
theorem dX5_takesFigure_5 : decode cX5_takesFigure 5 = .ok (.invokevirtual 44, 3) := by decide +kernel
theorem dX5_takesFigure_8 : decode cX5_takesFigure 8 = .ok (.if_icmp .lt 5, 3) := by decide +kernel
theorem dX5_takesFigure_11 : decode cX5_takesFigure 11 = .ok (.iconst 0, 1) := by decide +kernel
theorem dX5_takesFigure_12 : decode cX5_takesFigure 12 = .ok (.ireturn, 1) := by decide +kernel
theorem dX5_takesFigure_13 : decode cX5_takesFigure 13 = .ok (.aload_n 0, 1) := by decide +kernel
theorem dX5_takesFigure_14 : decode cX5_takesFigure 14 = .ok (.getfield 24, 3) := by decide +kernel
theorem dX5_takesFigure_17 : decode cX5_takesFigure 17 = .ok (.bipush 110, 2) := by decide +kernel
theorem dX5_takesFigure_19 : decode cX5_takesFigure 19 = .ok (.if_icmp .ne 11, 3) := by decide +kernel
theorem dX5_takesFigure_22 : decode cX5_takesFigure 22 = .ok (.aload_n 0, 1) := by decide +kernel
theorem dX5_takesFigure_23 : decode cX5_takesFigure 23 = .ok (.iload_n 1, 1) := by decide +kernel
theorem dX5_takesFigure_24 : decode cX5_takesFigure 24 = .ok (.invokevirtual 51, 3) := by decide +kernel
theorem dX5_takesFigure_27 : decode cX5_takesFigure 27 = .ok (.goto 8, 3) := by decide +kernel
theorem dX5_takesFigure_30 : decode cX5_takesFigure 30 = .ok (.aload_n 0, 1) := by decide +kernel
theorem dX5_takesFigure_31 : decode cX5_takesFigure 31 = .ok (.iload_n 1, 1) := by decide +kernel
theorem dX5_takesFigure_32 : decode cX5_takesFigure 32 = .ok (.invokevirtual 54, 3) := by decide +kernel
theorem dX5_takesFigure_35 : decode cX5_takesFigure 35 = .ok (.istore_n 2, 1) := by decide +kernel
theorem dX5_takesFigure_36 : decode cX5_takesFigure 36 = .ok (.iload_n 2, 1) := by decide +kernel
theorem dX5_takesFigure_37 : decode cX5_takesFigure 37 = .ok (.ifCond .eq 13, 3) := by decide +kernel
theorem dX5_takesFigure_40 : decode cX5_takesFigure 40 = .ok (.aload_n 0, 1) := by decide +kernel
theorem dX5_takesFigure_41 : decode cX5_takesFigure 41 = .ok (.dup, 1) := by decide +kernel
theorem dX5_takesFigure_42 : decode cX5_takesFigure 42 = .ok (.getfield 41, 3) := by decide +kernel
theorem dX5_takesFigure_45 : decode cX5_takesFigure 45 = .ok (.iconst 1, 1) := by decide +kernel
theorem dX5_takesFigure_46 : decode cX5_takesFigure 46 = .ok (.iadd, 1) := by decide +kernel
theorem dX5_takesFigure_47 : decode cX5_takesFigure 47 = .ok (.putfield 41, 3) := by decide +kernel
theorem dX5_takesFigure_50 : decode cX5_takesFigure 50 = .ok (.iload_n 2, 1) := by decide +kernel
theorem dX5_takesFigure_51 : decode cX5_takesFigure 51 = .ok (.ireturn, 1) := by decide +kernel
set_option maxRecDepth 20000 in
theorem ggX5_takesSize_X6_startOver : GoodIn wsX5_takesSize wsX6_startOver := goodIn_r _ [6, 7, 8, 9, 10, 5, 11, 12, 13, 14, 19, 20] (by decide +kernel) (by decide +kernel)
set_option maxRecDepth 20000 in
theorem gX5_takesSize_X6_startOver : GoodIn wsX5_takesSize (wsV RX5 16 RX6 yX6_startOver wsX6_startOver) := goodIn_app (goodIn_of _ (by decide +kernel)) ggX5_takesSize_X6_startOver
theorem dX5_takesSize_0 : decode cX5_takesSize 0 = .ok (.iload_n 1, 1) := by decide +kernel
theorem dX5_takesSize_1 : decode cX5_takesSize 1 = .ok (.iconst 1, 1) := by decide +kernel
theorem dX5_takesSize_2 : decode cX5_takesSize 2 = .ok (.if_icmp .lt 8, 3) := by decide +kernel
theorem dX5_takesSize_5 : decode cX5_takesSize 5 = .ok (.iload_n 1, 1) := by decide +kernel
theorem dX5_takesSize_6 : decode cX5_takesSize 6 = .ok (.iconst 4, 1) := by decide +kernel
theorem dX5_takesSize_7 : decode cX5_takesSize 7 = .ok (.if_icmp .le 5, 3) := by decide +kernel
theorem dX5_takesSize_10 : decode cX5_takesSize 10 = .ok (.iconst 0, 1) := by decide +kernel
theorem dX5_takesSize_11 : decode cX5_takesSize 11 = .ok (.ireturn, 1) := by decide +kernel
theorem dX5_takesSize_12 : decode cX5_takesSize 12 = .ok (.aload_n 0, 1) := by decide +kernel
theorem dX5_takesSize_13 : decode cX5_takesSize 13 = .ok (.getfield 10, 3) := by decide +kernel
theorem dX5_takesSize_16 : decode cX5_takesSize 16 = .ok (.iload_n 1, 1) := by decide +kernel
theorem dX5_takesSize_17 : decode cX5_takesSize 17 = .ok (.invokevirtual 16, 3) := by decide +kernel
theorem dX5_takesSize_20 : decode cX5_takesSize 20 = .ok (.iconst 1, 1) := by decide +kernel
theorem dX5_takesSize_21 : decode cX5_takesSize 21 = .ok (.ireturn, 1) := by decide +kernel
set_option maxRecDepth 20000 in
theorem ggX5_takesValue_X6_has : GoodIn wsX5_takesValue wsX6_has := goodIn_r _ [8, 9, 35, 36] (by decide +kernel) (by decide +kernel)
set_option maxRecDepth 20000 in
theorem gX5_takesValue_X6_has : GoodIn wsX5_takesValue (wsV RX5 57 RX6 yX6_has wsX6_has) := goodIn_app (goodIn_of _ (by decide +kernel)) ggX5_takesValue_X6_has
set_option maxRecDepth 20000 in
theorem ggX5_takesValue_X6_placeOfOne : GoodIn wsX5_takesValue wsX6_placeOfOne := goodIn_r _ [12] (by decide +kernel) (by decide +kernel)
set_option maxRecDepth 20000 in
theorem gX5_takesValue_X6_placeOfOne : GoodIn wsX5_takesValue (va_wsS RX5 60 yX6_placeOfOne wsX6_placeOfOne) := goodIn_app (goodIn_of _ (by decide +kernel)) ggX5_takesValue_X6_placeOfOne
set_option maxRecDepth 20000 in
theorem ggX5_takesValue_X5_placeOfFigure : GoodIn wsX5_takesValue wsX5_placeOfFigure := goodIn_r _ [17, 1, 18, 19, 20, 21, 22, 3, 23, 24, 7, 25, 31, 32, 33, 34, 35, 36] (by decide +kernel) (by decide +kernel)
set_option maxRecDepth 20000 in
theorem gX5_takesValue_X5_placeOfFigure : GoodIn wsX5_takesValue (wsV RX5 64 RX5 yX5_placeOfFigure wsX5_placeOfFigure) := goodIn_app (goodIn_of _ (by decide +kernel)) ggX5_takesValue_X5_placeOfFigure
set_option maxRecDepth 20000 in
theorem ggX5_takesValue_X6_put : GoodIn wsX5_takesValue wsX6_put := goodIn_r _ [29, 30, 35, 36] (by decide +kernel) (by decide +kernel)
set_option maxRecDepth 20000 in
theorem gX5_takesValue_X6_put : GoodIn wsX5_takesValue (wsV RX5 67 RX6 yX6_put wsX6_put) := goodIn_app (goodIn_of _ (by decide +kernel)) ggX5_takesValue_X6_put
theorem dX5_takesValue_0 : decode cX5_takesValue 0 = .ok (.aload_n 0, 1) := by decide +kernel
theorem dX5_takesValue_1 : decode cX5_takesValue 1 = .ok (.getfield 10, 3) := by decide +kernel
theorem dX5_takesValue_4 : decode cX5_takesValue 4 = .ok (.iload_n 1, 1) := by decide +kernel
theorem dX5_takesValue_5 : decode cX5_takesValue 5 = .ok (.invokevirtual 57, 3) := by decide +kernel
theorem dX5_takesValue_8 : decode cX5_takesValue 8 = .ok (.ifCond .ne 5, 3) := by decide +kernel
theorem dX5_takesValue_11 : decode cX5_takesValue 11 = .ok (.iconst 0, 1) := by decide +kernel
theorem dX5_takesValue_12 : decode cX5_takesValue 12 = .ok (.ireturn, 1) := by decide +kernel
theorem dX5_takesValue_13 : decode cX5_takesValue 13 = .ok (.aload_n 0, 1) := by decide +kernel
theorem dX5_takesValue_14 : decode cX5_takesValue 14 = .ok (.getfield 10, 3) := by decide +kernel
theorem dX5_takesValue_17 : decode cX5_takesValue 17 = .ok (.aload_n 0, 1) := by decide +kernel
theorem dX5_takesValue_18 : decode cX5_takesValue 18 = .ok (.getfield 24, 3) := by decide +kernel
theorem dX5_takesValue_21 : decode cX5_takesValue 21 = .ok (.bipush 103, 2) := by decide +kernel
theorem dX5_takesValue_23 : decode cX5_takesValue 23 = .ok (.if_icmp .ne 13, 3) := by decide +kernel
theorem dX5_takesValue_26 : decode cX5_takesValue 26 = .ok (.aload_n 0, 1) := by decide +kernel
theorem dX5_takesValue_27 : decode cX5_takesValue 27 = .ok (.getfield 41, 3) := by decide +kernel
theorem dX5_takesValue_30 : decode cX5_takesValue 30 = .ok (.invokestatic 60, 3) := by decide +kernel
theorem dX5_takesValue_33 : decode cX5_takesValue 33 = .ok (.goto 7, 3) := by decide +kernel
theorem dX5_takesValue_36 : decode cX5_takesValue 36 = .ok (.aload_n 0, 1) := by decide +kernel
theorem dX5_takesValue_37 : decode cX5_takesValue 37 = .ok (.invokevirtual 64, 3) := by decide +kernel
theorem dX5_takesValue_40 : decode cX5_takesValue 40 = .ok (.iload_n 1, 1) := by decide +kernel
theorem dX5_takesValue_41 : decode cX5_takesValue 41 = .ok (.invokevirtual 67, 3) := by decide +kernel
theorem dX5_takesValue_44 : decode cX5_takesValue 44 = .ok (.iconst 1, 1) := by decide +kernel
theorem dX5_takesValue_45 : decode cX5_takesValue 45 = .ok (.ireturn, 1) := by decide +kernel
set_option maxRecDepth 20000 in
theorem ggX5_placeOfFigure_X6_placeOfTwo : GoodIn wsX5_placeOfFigure wsX6_placeOfTwo := goodIn_r _ [11] (by decide +kernel) (by decide +kernel)
set_option maxRecDepth 20000 in
theorem gX5_placeOfFigure_X6_placeOfTwo : GoodIn wsX5_placeOfFigure (va_wsS RX5 77 yX6_placeOfTwo wsX6_placeOfTwo) := goodIn_app (goodIn_of _ (by decide +kernel)) ggX5_placeOfFigure_X6_placeOfTwo
theorem dX5_placeOfFigure_0 : decode cX5_placeOfFigure 0 = .ok (.iconst 1, 1) := by decide +kernel
theorem dX5_placeOfFigure_1 : decode cX5_placeOfFigure 1 = .ok (.aload_n 0, 1) := by decide +kernel
theorem dX5_placeOfFigure_2 : decode cX5_placeOfFigure 2 = .ok (.getfield 10, 3) := by decide +kernel
theorem dX5_placeOfFigure_5 : decode cX5_placeOfFigure 5 = .ok (.getfield 48, 3) := by decide +kernel
theorem dX5_placeOfFigure_8 : decode cX5_placeOfFigure 8 = .ok (.invokestatic 71, 3) := by decide +kernel
theorem dX5_placeOfFigure_11 : decode cX5_placeOfFigure 11 = .ok (.istore_n 1, 1) := by decide +kernel
theorem dX5_placeOfFigure_12 : decode cX5_placeOfFigure 12 = .ok (.aload_n 0, 1) := by decide +kernel
theorem dX5_placeOfFigure_13 : decode cX5_placeOfFigure 13 = .ok (.getfield 41, 3) := by decide +kernel
theorem dX5_placeOfFigure_16 : decode cX5_placeOfFigure 16 = .ok (.iload_n 1, 1) := by decide +kernel
theorem dX5_placeOfFigure_17 : decode cX5_placeOfFigure 17 = .ok (.idiv, 1) := by decide +kernel
theorem dX5_placeOfFigure_18 : decode cX5_placeOfFigure 18 = .ok (.aload_n 0, 1) := by decide +kernel
theorem dX5_placeOfFigure_19 : decode cX5_placeOfFigure 19 = .ok (.getfield 41, 3) := by decide +kernel
theorem dX5_placeOfFigure_22 : decode cX5_placeOfFigure 22 = .ok (.iload_n 1, 1) := by decide +kernel
theorem dX5_placeOfFigure_23 : decode cX5_placeOfFigure 23 = .ok (.irem, 1) := by decide +kernel
theorem dX5_placeOfFigure_24 : decode cX5_placeOfFigure 24 = .ok (.invokestatic 77, 3) := by decide +kernel
theorem dX5_placeOfFigure_27 : decode cX5_placeOfFigure 27 = .ok (.ireturn, 1) := by decide +kernel
theorem dX6_init_0 : decode cX6_init 0 = .ok (.aload_n 0, 1) := by decide +kernel
theorem dX6_init_1 : decode cX6_init 1 = .ok (.invokespecial 3, 3) := by decide +kernel
theorem dX6_init_4 : decode cX6_init 4 = .ok (.aload_n 0, 1) := by decide +kernel
theorem dX6_init_5 : decode cX6_init 5 = .ok (.bipush 20, 2) := by decide +kernel
theorem dX6_init_7 : decode cX6_init 7 = .ok (.newarray .int, 2) := by decide +kernel
theorem dX6_init_9 : decode cX6_init 9 = .ok (.putfield 9, 3) := by decide +kernel
theorem dX6_init_12 : decode cX6_init 12 = .ok (.return_, 1) := by decide +kernel
theorem dX6_placeOfTwo_0 : decode cX6_placeOfTwo 0 = .ok (.iload_n 0, 1) := by decide +kernel
theorem dX6_placeOfTwo_1 : decode cX6_placeOfTwo 1 = .ok (.iconst 3, 1) := by decide +kernel
theorem dX6_placeOfTwo_2 : decode cX6_placeOfTwo 2 = .ok (.iand, 1) := by decide +kernel
theorem dX6_placeOfTwo_3 : decode cX6_placeOfTwo 3 = .ok (.iconst 2, 1) := by decide +kernel
theorem dX6_placeOfTwo_4 : decode cX6_placeOfTwo 4 = .ok (.ishl, 1) := by decide +kernel
theorem dX6_placeOfTwo_5 : decode cX6_placeOfTwo 5 = .ok (.iload_n 1, 1) := by decide +kernel
theorem dX6_placeOfTwo_6 : decode cX6_placeOfTwo 6 = .ok (.iconst 3, 1) := by decide +kernel
theorem dX6_placeOfTwo_7 : decode cX6_placeOfTwo 7 = .ok (.iand, 1) := by decide +kernel
theorem dX6_placeOfTwo_8 : decode cX6_placeOfTwo 8 = .ok (.ior, 1) := by decide +kernel
theorem dX6_placeOfTwo_9 : decode cX6_placeOfTwo 9 = .ok (.ireturn, 1) := by decide +kernel
theorem dX6_placeOfOne_0 : decode cX6_placeOfOne 0 = .ok (.bipush 16, 2) := by decide +kernel
theorem dX6_placeOfOne_2 : decode cX6_placeOfOne 2 = .ok (.iload_n 0, 1) := by decide +kernel
theorem dX6_placeOfOne_3 : decode cX6_placeOfOne 3 = .ok (.iconst 3, 1) := by decide +kernel
theorem dX6_placeOfOne_4 : decode cX6_placeOfOne 4 = .ok (.iand, 1) := by decide +kernel
theorem dX6_placeOfOne_5 : decode cX6_placeOfOne 5 = .ok (.ior, 1) := by decide +kernel
theorem dX6_placeOfOne_6 : decode cX6_placeOfOne 6 = .ok (.ireturn, 1) := by decide +kernel
set_option maxRecDepth 20000 in
theorem ggX6_startOver_X6_placeOfTwo : GoodIn wsX6_startOver wsX6_placeOfTwo := goodIn_r _ [6] (by decide +kernel) (by decide +kernel)
set_option maxRecDepth 20000 in
theorem gX6_startOver_X6_placeOfTwo : GoodIn wsX6_startOver (va_wsS RX6 17 yX6_placeOfTwo wsX6_placeOfTwo) := goodIn_app (goodIn_of _ (by decide +kernel)) ggX6_startOver_X6_placeOfTwo
set_option maxRecDepth 20000 in
theorem ggX6_startOver_X6_placeOfOne : GoodIn wsX6_startOver wsX6_placeOfOne := goodIn_r _ [9] (by decide +kernel) (by decide +kernel)
set_option maxRecDepth 20000 in
theorem gX6_startOver_X6_placeOfOne : GoodIn wsX6_startOver (va_wsS RX6 21 yX6_placeOfOne wsX6_placeOfOne) := goodIn_app (goodIn_of _ (by decide +kernel)) ggX6_startOver_X6_placeOfOne
theorem dX6_startOver_0 : decode cX6_startOver 0 = .ok (.aload_n 0, 1) := by decide +kernel
theorem dX6_startOver_1 : decode cX6_startOver 1 = .ok (.iload_n 1, 1) := by decide +kernel
theorem dX6_startOver_2 : decode cX6_startOver 2 = .ok (.putfield 13, 3) := by decide +kernel
theorem dX6_startOver_5 : decode cX6_startOver 5 = .ok (.iconst 0, 1) := by decide +kernel
theorem dX6_startOver_6 : decode cX6_startOver 6 = .ok (.istore_n 2, 1) := by decide +kernel
theorem dX6_startOver_7 : decode cX6_startOver 7 = .ok (.iload_n 2, 1) := by decide +kernel
theorem dX6_startOver_8 : decode cX6_startOver 8 = .ok (.iconst 4, 1) := by decide +kernel
theorem dX6_startOver_9 : decode cX6_startOver 9 = .ok (.if_icmp .ge 43, 3) := by decide +kernel
theorem dX6_startOver_12 : decode cX6_startOver 12 = .ok (.iconst 0, 1) := by decide +kernel
theorem dX6_startOver_13 : decode cX6_startOver 13 = .ok (.istore_n 3, 1) := by decide +kernel
theorem dX6_startOver_14 : decode cX6_startOver 14 = .ok (.iload_n 3, 1) := by decide +kernel
theorem dX6_startOver_15 : decode cX6_startOver 15 = .ok (.iconst 4, 1) := by decide +kernel
theorem dX6_startOver_16 : decode cX6_startOver 16 = .ok (.if_icmp .ge 20, 3) := by decide +kernel
theorem dX6_startOver_19 : decode cX6_startOver 19 = .ok (.aload_n 0, 1) := by decide +kernel
theorem dX6_startOver_20 : decode cX6_startOver 20 = .ok (.getfield 9, 3) := by decide +kernel
theorem dX6_startOver_23 : decode cX6_startOver 23 = .ok (.iload_n 2, 1) := by decide +kernel
theorem dX6_startOver_24 : decode cX6_startOver 24 = .ok (.iload_n 3, 1) := by decide +kernel
theorem dX6_startOver_25 : decode cX6_startOver 25 = .ok (.invokestatic 17, 3) := by decide +kernel
theorem dX6_startOver_28 : decode cX6_startOver 28 = .ok (.iload_n 2, 1) := by decide +kernel
theorem dX6_startOver_29 : decode cX6_startOver 29 = .ok (.iastore, 1) := by decide +kernel
theorem dX6_startOver_30 : decode cX6_startOver 30 = .ok (.iinc 3 1, 3) := by decide +kernel
theorem dX6_startOver_33 : decode cX6_startOver 33 = .ok (.goto (-19), 3) := by decide +kernel
theorem dX6_startOver_36 : decode cX6_startOver 36 = .ok (.aload_n 0, 1) := by decide +kernel
theorem dX6_startOver_37 : decode cX6_startOver 37 = .ok (.getfield 9, 3) := by decide +kernel
theorem dX6_startOver_40 : decode cX6_startOver 40 = .ok (.iload_n 2, 1) := by decide +kernel
theorem dX6_startOver_41 : decode cX6_startOver 41 = .ok (.invokestatic 21, 3) := by decide +kernel
theorem dX6_startOver_44 : decode cX6_startOver 44 = .ok (.iload_n 2, 1) := by decide +kernel
theorem dX6_startOver_45 : decode cX6_startOver 45 = .ok (.iastore, 1) := by decide +kernel
theorem dX6_startOver_46 : decode cX6_startOver 46 = .ok (.iinc 2 1, 3) := by decide +kernel
theorem dX6_startOver_49 : decode cX6_startOver 49 = .ok (.goto (-42), 3) := by decide +kernel
theorem dX6_startOver_52 : decode cX6_startOver 52 = .ok (.return_, 1) := by decide +kernel
theorem dX6_has_0 : decode cX6_has 0 = .ok (.iload_n 1, 1) := by decide +kernel
theorem dX6_has_1 : decode cX6_has 1 = .ok (.ifCond .lt 15, 3) := by decide +kernel
theorem dX6_has_4 : decode cX6_has 4 = .ok (.iload_n 1, 1) := by decide +kernel
theorem dX6_has_5 : decode cX6_has 5 = .ok (.aload_n 0, 1) := by decide +kernel
theorem dX6_has_6 : decode cX6_has 6 = .ok (.getfield 13, 3) := by decide +kernel
theorem dX6_has_9 : decode cX6_has 9 = .ok (.if_icmp .ge 7, 3) := by decide +kernel
theorem dX6_has_12 : decode cX6_has 12 = .ok (.iconst 1, 1) := by decide +kernel
theorem dX6_has_13 : decode cX6_has 13 = .ok (.goto 4, 3) := by decide +kernel
theorem dX6_has_16 : decode cX6_has 16 = .ok (.iconst 0, 1) := by decide +kernel
theorem dX6_has_17 : decode cX6_has 17 = .ok (.ireturn, 1) := by decide +kernel
theorem dX6_allElements_0 : decode cX6_allElements 0 = .ok (.iconst 1, 1) := by decide +kernel
theorem dX6_allElements_1 : decode cX6_allElements 1 = .ok (.aload_n 0, 1) := by decide +kernel
theorem dX6_allElements_2 : decode cX6_allElements 2 = .ok (.getfield 13, 3) := by decide +kernel
theorem dX6_allElements_5 : decode cX6_allElements 5 = .ok (.ishl, 1) := by decide +kernel
theorem dX6_allElements_6 : decode cX6_allElements 6 = .ok (.iconst 1, 1) := by decide +kernel
theorem dX6_allElements_7 : decode cX6_allElements 7 = .ok (.isub, 1) := by decide +kernel
theorem dX6_allElements_8 : decode cX6_allElements 8 = .ok (.ireturn, 1) := by decide +kernel
set_option maxRecDepth 20000 in
theorem ggX6_two_X6_placeOfTwo : GoodIn wsX6_two wsX6_placeOfTwo := goodIn_r _ [5] (by decide +kernel) (by decide +kernel)
set_option maxRecDepth 20000 in
theorem gX6_two_X6_placeOfTwo : GoodIn wsX6_two (va_wsS RX6 17 yX6_placeOfTwo wsX6_placeOfTwo) := goodIn_app (goodIn_of _ (by decide +kernel)) ggX6_two_X6_placeOfTwo
theorem dX6_two_0 : decode cX6_two 0 = .ok (.aload_n 0, 1) := by decide +kernel
theorem dX6_two_1 : decode cX6_two 1 = .ok (.getfield 9, 3) := by decide +kernel
theorem dX6_two_4 : decode cX6_two 4 = .ok (.iload_n 1, 1) := by decide +kernel
theorem dX6_two_5 : decode cX6_two 5 = .ok (.iload_n 2, 1) := by decide +kernel
theorem dX6_two_6 : decode cX6_two 6 = .ok (.invokestatic 17, 3) := by decide +kernel
theorem dX6_two_9 : decode cX6_two 9 = .ok (.iaload, 1) := by decide +kernel
theorem dX6_two_10 : decode cX6_two 10 = .ok (.ireturn, 1) := by decide +kernel
set_option maxRecDepth 20000 in
theorem ggX6_one_X6_placeOfOne : GoodIn wsX6_one wsX6_placeOfOne := goodIn_r _ [5] (by decide +kernel) (by decide +kernel)
set_option maxRecDepth 20000 in
theorem gX6_one_X6_placeOfOne : GoodIn wsX6_one (va_wsS RX6 21 yX6_placeOfOne wsX6_placeOfOne) := goodIn_app (goodIn_of _ (by decide +kernel)) ggX6_one_X6_placeOfOne
theorem dX6_one_0 : decode cX6_one 0 = .ok (.aload_n 0, 1) := by decide +kernel
theorem dX6_one_1 : decode cX6_one 1 = .ok (.getfield 9, 3) := by decide +kernel
theorem dX6_one_4 : decode cX6_one 4 = .ok (.iload_n 1, 1) := by decide +kernel
theorem dX6_one_5 : decode cX6_one 5 = .ok (.invokestatic 21, 3) := by decide +kernel
theorem dX6_one_8 : decode cX6_one 8 = .ok (.iaload, 1) := by decide +kernel
theorem dX6_one_9 : decode cX6_one 9 = .ok (.ireturn, 1) := by decide +kernel
theorem dX6_at_0 : decode cX6_at 0 = .ok (.iload_n 1, 1) := by decide +kernel
theorem dX6_at_1 : decode cX6_at 1 = .ok (.ifCond .lt 18, 3) := by decide +kernel
theorem dX6_at_4 : decode cX6_at 4 = .ok (.iload_n 1, 1) := by decide +kernel
theorem dX6_at_5 : decode cX6_at 5 = .ok (.bipush 20, 2) := by decide +kernel
theorem dX6_at_7 : decode cX6_at 7 = .ok (.if_icmp .ge 12, 3) := by decide +kernel
theorem dX6_at_10 : decode cX6_at 10 = .ok (.aload_n 0, 1) := by decide +kernel
theorem dX6_at_11 : decode cX6_at 11 = .ok (.getfield 9, 3) := by decide +kernel
theorem dX6_at_14 : decode cX6_at 14 = .ok (.iload_n 1, 1) := by decide +kernel
theorem dX6_at_15 : decode cX6_at 15 = .ok (.iaload, 1) := by decide +kernel
theorem dX6_at_16 : decode cX6_at 16 = .ok (.goto 4, 3) := by decide +kernel
theorem dX6_at_19 : decode cX6_at 19 = .ok (.iconst 0, 1) := by decide +kernel
theorem dX6_at_20 : decode cX6_at 20 = .ok (.ireturn, 1) := by decide +kernel
theorem dX6_put_0 : decode cX6_put 0 = .ok (.iload_n 1, 1) := by decide +kernel
theorem dX6_put_1 : decode cX6_put 1 = .ok (.ifCond .lt 16, 3) := by decide +kernel
theorem dX6_put_4 : decode cX6_put 4 = .ok (.iload_n 1, 1) := by decide +kernel
theorem dX6_put_5 : decode cX6_put 5 = .ok (.bipush 20, 2) := by decide +kernel
theorem dX6_put_7 : decode cX6_put 7 = .ok (.if_icmp .ge 10, 3) := by decide +kernel
theorem dX6_put_10 : decode cX6_put 10 = .ok (.aload_n 0, 1) := by decide +kernel
theorem dX6_put_11 : decode cX6_put 11 = .ok (.getfield 9, 3) := by decide +kernel
theorem dX6_put_14 : decode cX6_put 14 = .ok (.iload_n 1, 1) := by decide +kernel
theorem dX6_put_15 : decode cX6_put 15 = .ok (.iload_n 2, 1) := by decide +kernel
theorem dX6_put_16 : decode cX6_put 16 = .ok (.iastore, 1) := by decide +kernel
theorem dX6_put_17 : decode cX6_put 17 = .ok (.return_, 1) := by decide +kernel
theorem dX6_copyFrom_0 : decode cX6_copyFrom 0 = .ok (.aload_n 0, 1) := by decide +kernel
theorem dX6_copyFrom_1 : decode cX6_copyFrom 1 = .ok (.aload_n 1, 1) := by decide +kernel
theorem dX6_copyFrom_2 : decode cX6_copyFrom 2 = .ok (.getfield 13, 3) := by decide +kernel
theorem dX6_copyFrom_5 : decode cX6_copyFrom 5 = .ok (.putfield 13, 3) := by decide +kernel
theorem dX6_copyFrom_8 : decode cX6_copyFrom 8 = .ok (.aload_n 1, 1) := by decide +kernel
theorem dX6_copyFrom_9 : decode cX6_copyFrom 9 = .ok (.getfield 9, 3) := by decide +kernel
theorem dX6_copyFrom_12 : decode cX6_copyFrom 12 = .ok (.iconst 0, 1) := by decide +kernel
theorem dX6_copyFrom_13 : decode cX6_copyFrom 13 = .ok (.aload_n 0, 1) := by decide +kernel
theorem dX6_copyFrom_14 : decode cX6_copyFrom 14 = .ok (.getfield 9, 3) := by decide +kernel
theorem dX6_copyFrom_17 : decode cX6_copyFrom 17 = .ok (.iconst 0, 1) := by decide +kernel
theorem dX6_copyFrom_18 : decode cX6_copyFrom 18 = .ok (.bipush 20, 2) := by decide +kernel
theorem dX6_copyFrom_20 : decode cX6_copyFrom 20 = .ok (.invokestatic 25, 3) := by decide +kernel
theorem dX6_copyFrom_23 : decode cX6_copyFrom 23 = .ok (.return_, 1) := by decide +kernel
theorem dX7_init_0 : decode cX7_init 0 = .ok (.aload_n 0, 1) := by decide +kernel
theorem dX7_init_1 : decode cX7_init 1 = .ok (.invokespecial 3, 3) := by decide +kernel
theorem dX7_init_4 : decode cX7_init 4 = .ok (.aload_n 0, 1) := by decide +kernel
theorem dX7_init_5 : decode cX7_init 5 = .ok (.sipush 200, 3) := by decide +kernel
theorem dX7_init_8 : decode cX7_init 8 = .ok (.newarray .long, 2) := by decide +kernel
theorem dX7_init_10 : decode cX7_init 10 = .ok (.putfield 9, 3) := by decide +kernel
theorem dX7_init_13 : decode cX7_init 13 = .ok (.aload_n 0, 1) := by decide +kernel
theorem dX7_init_14 : decode cX7_init 14 = .ok (.sipush 512, 3) := by decide +kernel
theorem dX7_init_17 : decode cX7_init 17 = .ok (.newarray .int, 2) := by decide +kernel
theorem dX7_init_19 : decode cX7_init 19 = .ok (.putfield 13, 3) := by decide +kernel
theorem dX7_init_22 : decode cX7_init 22 = .ok (.aload_n 0, 1) := by decide +kernel
theorem dX7_init_23 : decode cX7_init 23 = .ok (.iconst 4, 1) := by decide +kernel
theorem dX7_init_24 : decode cX7_init 24 = .ok (.newarray .int, 2) := by decide +kernel
theorem dX7_init_26 : decode cX7_init 26 = .ok (.putfield 19, 3) := by decide +kernel
theorem dX7_init_29 : decode cX7_init 29 = .ok (.aload_n 0, 1) := by decide +kernel
theorem dX7_init_30 : decode cX7_init 30 = .ok (.iconst 4, 1) := by decide +kernel
theorem dX7_init_31 : decode cX7_init 31 = .ok (.newarray .int, 2) := by decide +kernel
theorem dX7_init_33 : decode cX7_init 33 = .ok (.putfield 22, 3) := by decide +kernel
theorem dX7_init_36 : decode cX7_init 36 = .ok (.return_, 1) := by decide +kernel
set_option maxRecDepth 20000 in
theorem ggX7_makeFree_X7_startOver : GoodIn wsX7_makeFree wsX7_startOver := goodIn_r _ [8, 9, 10, 11, 12, 13, 14, 3, 15, 16, 17, 18, 19, 90, 91, 92, 93, 94, 95, 96, 97, 98, 99, 100, 101] (by decide +kernel) (by decide +kernel)
set_option maxRecDepth 20000 in
theorem gX7_makeFree_X7_startOver : GoodIn wsX7_makeFree (wsV RX7 25 RX7 yX7_startOver wsX7_startOver) := goodIn_app (goodIn_of _ (by decide +kernel)) ggX7_makeFree_X7_startOver
set_option maxRecDepth 20000 in
theorem ggX7_makeFree_X7_addWay : GoodIn wsX7_makeFree wsX7_addWay := goodIn_r _ [23, 12, 13, 14, 3, 15, 24, 25, 26, 7, 27, 28, 29, 30, 90, 91, 92, 93, 94, 95, 96, 97, 98, 99, 100, 101] (by decide +kernel) (by decide +kernel)
set_option maxRecDepth 20000 in
theorem gX7_makeFree_X7_addWay : GoodIn wsX7_makeFree (wsV RX7 32 RX7 yX7_addWay wsX7_addWay) := goodIn_app (goodIn_of _ (by decide +kernel)) ggX7_makeFree_X7_addWay
set_option maxRecDepth 20000 in
theorem ggX7_makeFree_X7_grow : GoodIn wsX7_makeFree wsX7_grow := goodIn_r _ [34, 12, 13, 14, 9, 11, 3, 35, 10, 36, 37, 38, 7, 39, 40, 41, 42, 43, 44, 45, 46, 47, 48, 49, 50, 51, 52, 53, 54, 55, 56, 57, 1, 58, 59, 60, 61, 62, 63, 15, 64, 65, 66, 67, 68, 69, 70, 71, 72, 73, 74, 75, 76, 77, 78, 79, 80, 81, 82, 83, 28, 29, 30, 84, 85, 86, 87, 90, 91, 92, 93, 94, 95, 96, 97, 98, 99, 100, 101, 88, 89] (by decide +kernel) (by decide +kernel)
set_option maxRecDepth 20000 in
theorem gX7_makeFree_X7_grow : GoodIn wsX7_makeFree (wsV RX7 42 RX7 yX7_grow wsX7_grow) := goodIn_app (goodIn_of _ (by decide +kernel)) ggX7_makeFree_X7_grow
theorem dX7_makeFree_0 : decode cX7_makeFree 0 = .ok (.aload_n 0, 1) := by decide +kernel
theorem dX7_makeFree_1 : decode cX7_makeFree 1 = .ok (.invokevirtual 25, 3) := by decide +kernel
theorem dX7_makeFree_4 : decode cX7_makeFree 4 = .ok (.iconst 0, 1) := by decide +kernel
theorem dX7_makeFree_5 : decode cX7_makeFree 5 = .ok (.istore_n 3, 1) := by decide +kernel
theorem dX7_makeFree_6 : decode cX7_makeFree 6 = .ok (.iload_n 3, 1) := by decide +kernel
theorem dX7_makeFree_7 : decode cX7_makeFree 7 = .ok (.aload_n 1, 1) := by decide +kernel
theorem dX7_makeFree_8 : decode cX7_makeFree 8 = .ok (.getfield 28, 3) := by decide +kernel
theorem dX7_makeFree_11 : decode cX7_makeFree 11 = .ok (.if_icmp .ge 36, 3) := by decide +kernel
theorem dX7_makeFree_14 : decode cX7_makeFree 14 = .ok (.iconst 0, 1) := by decide +kernel
theorem dX7_makeFree_15 : decode cX7_makeFree 15 = .ok (.istore 4, 2) := by decide +kernel
theorem dX7_makeFree_17 : decode cX7_makeFree 17 = .ok (.iload 4, 2) := by decide +kernel
theorem dX7_makeFree_19 : decode cX7_makeFree 19 = .ok (.aload_n 1, 1) := by decide +kernel
theorem dX7_makeFree_20 : decode cX7_makeFree 20 = .ok (.getfield 28, 3) := by decide +kernel
theorem dX7_makeFree_23 : decode cX7_makeFree 23 = .ok (.if_icmp .ge 18, 3) := by decide +kernel
theorem dX7_makeFree_26 : decode cX7_makeFree 26 = .ok (.aload_n 0, 1) := by decide +kernel
theorem dX7_makeFree_27 : decode cX7_makeFree 27 = .ok (.iload_n 3, 1) := by decide +kernel
theorem dX7_makeFree_28 : decode cX7_makeFree 28 = .ok (.iload 4, 2) := by decide +kernel
theorem dX7_makeFree_30 : decode cX7_makeFree 30 = .ok (.iconst 0, 1) := by decide +kernel
theorem dX7_makeFree_31 : decode cX7_makeFree 31 = .ok (.iconst 0, 1) := by decide +kernel
theorem dX7_makeFree_32 : decode cX7_makeFree 32 = .ok (.invokevirtual 32, 3) := by decide +kernel
theorem dX7_makeFree_35 : decode cX7_makeFree 35 = .ok (.iinc 4 1, 3) := by decide +kernel
theorem dX7_makeFree_38 : decode cX7_makeFree 38 = .ok (.goto (-21), 3) := by decide +kernel
theorem dX7_makeFree_41 : decode cX7_makeFree 41 = .ok (.iinc 3 1, 3) := by decide +kernel
theorem dX7_makeFree_44 : decode cX7_makeFree 44 = .ok (.goto (-38), 3) := by decide +kernel
theorem dX7_makeFree_47 : decode cX7_makeFree 47 = .ok (.aload_n 0, 1) := by decide +kernel
theorem dX7_makeFree_48 : decode cX7_makeFree 48 = .ok (.ldc2_w 36, 3) := by decide +kernel
theorem dX7_makeFree_51 : decode cX7_makeFree 51 = .ok (.putfield 38, 3) := by decide +kernel
theorem dX7_makeFree_54 : decode cX7_makeFree 54 = .ok (.aload_n 0, 1) := by decide +kernel
theorem dX7_makeFree_55 : decode cX7_makeFree 55 = .ok (.aload_n 1, 1) := by decide +kernel
theorem dX7_makeFree_56 : decode cX7_makeFree 56 = .ok (.iload_n 2, 1) := by decide +kernel
theorem dX7_makeFree_57 : decode cX7_makeFree 57 = .ok (.invokevirtual 42, 3) := by decide +kernel
theorem dX7_makeFree_60 : decode cX7_makeFree 60 = .ok (.ireturn, 1) := by decide +kernel
set_option maxRecDepth 20000 in
theorem ggX7_seekMaltsev_X7_startOver : GoodIn wsX7_seekMaltsev wsX7_startOver := goodIn_r _ [6, 7, 8, 9, 10, 11, 12, 13, 14, 15, 16, 17, 18, 89, 90, 91, 92, 93, 94, 95, 96, 97, 98, 99, 100] (by decide +kernel) (by decide +kernel)
set_option maxRecDepth 20000 in
theorem gX7_seekMaltsev_X7_startOver : GoodIn wsX7_seekMaltsev (wsV RX7 25 RX7 yX7_startOver wsX7_startOver) := goodIn_app (goodIn_of _ (by decide +kernel)) ggX7_seekMaltsev_X7_startOver
set_option maxRecDepth 20000 in
theorem ggX7_seekMaltsev_X7_addWay : GoodIn wsX7_seekMaltsev wsX7_addWay := goodIn_r _ [22, 10, 11, 12, 13, 14, 23, 24, 25, 5, 26, 27, 28, 29, 89, 90, 91, 92, 93, 94, 95, 96, 97, 98, 99, 100] (by decide +kernel) (by decide +kernel)
set_option maxRecDepth 20000 in
theorem gX7_seekMaltsev_X7_addWay : GoodIn wsX7_seekMaltsev (wsV RX7 32 RX7 yX7_addWay wsX7_addWay) := goodIn_app (goodIn_of _ (by decide +kernel)) ggX7_seekMaltsev_X7_addWay
set_option maxRecDepth 20000 in
theorem ggX7_seekMaltsev_X7_grow : GoodIn wsX7_seekMaltsev wsX7_grow := goodIn_r _ [33, 10, 11, 12, 7, 9, 13, 34, 8, 35, 36, 37, 5, 38, 39, 40, 41, 42, 43, 44, 45, 46, 47, 48, 49, 50, 51, 52, 53, 54, 55, 56, 1, 57, 58, 59, 60, 61, 62, 14, 63, 64, 65, 66, 67, 68, 69, 70, 71, 72, 73, 74, 75, 76, 77, 78, 79, 80, 81, 82, 27, 28, 29, 83, 84, 85, 86, 89, 90, 91, 92, 93, 94, 95, 96, 97, 98, 99, 100, 87, 88] (by decide +kernel) (by decide +kernel)
set_option maxRecDepth 20000 in
theorem gX7_seekMaltsev_X7_grow : GoodIn wsX7_seekMaltsev (wsV RX7 42 RX7 yX7_grow wsX7_grow) := goodIn_app (goodIn_of _ (by decide +kernel)) ggX7_seekMaltsev_X7_grow
theorem dX7_seekMaltsev_0 : decode cX7_seekMaltsev 0 = .ok (.aload_n 0, 1) := by decide +kernel
theorem dX7_seekMaltsev_1 : decode cX7_seekMaltsev 1 = .ok (.invokevirtual 25, 3) := by decide +kernel
theorem dX7_seekMaltsev_4 : decode cX7_seekMaltsev 4 = .ok (.iconst 0, 1) := by decide +kernel
theorem dX7_seekMaltsev_5 : decode cX7_seekMaltsev 5 = .ok (.istore_n 2, 1) := by decide +kernel
theorem dX7_seekMaltsev_6 : decode cX7_seekMaltsev 6 = .ok (.iload_n 2, 1) := by decide +kernel
theorem dX7_seekMaltsev_7 : decode cX7_seekMaltsev 7 = .ok (.aload_n 1, 1) := by decide +kernel
theorem dX7_seekMaltsev_8 : decode cX7_seekMaltsev 8 = .ok (.getfield 28, 3) := by decide +kernel
theorem dX7_seekMaltsev_11 : decode cX7_seekMaltsev 11 = .ok (.if_icmp .ge 41, 3) := by decide +kernel
theorem dX7_seekMaltsev_14 : decode cX7_seekMaltsev 14 = .ok (.iconst 0, 1) := by decide +kernel
theorem dX7_seekMaltsev_15 : decode cX7_seekMaltsev 15 = .ok (.istore_n 3, 1) := by decide +kernel
theorem dX7_seekMaltsev_16 : decode cX7_seekMaltsev 16 = .ok (.iload_n 3, 1) := by decide +kernel
theorem dX7_seekMaltsev_17 : decode cX7_seekMaltsev 17 = .ok (.aload_n 1, 1) := by decide +kernel
theorem dX7_seekMaltsev_18 : decode cX7_seekMaltsev 18 = .ok (.getfield 28, 3) := by decide +kernel
theorem dX7_seekMaltsev_21 : decode cX7_seekMaltsev 21 = .ok (.if_icmp .ge 25, 3) := by decide +kernel
theorem dX7_seekMaltsev_24 : decode cX7_seekMaltsev 24 = .ok (.aload_n 0, 1) := by decide +kernel
theorem dX7_seekMaltsev_25 : decode cX7_seekMaltsev 25 = .ok (.iload_n 2, 1) := by decide +kernel
theorem dX7_seekMaltsev_26 : decode cX7_seekMaltsev 26 = .ok (.iload_n 3, 1) := by decide +kernel
theorem dX7_seekMaltsev_27 : decode cX7_seekMaltsev 27 = .ok (.iload_n 3, 1) := by decide +kernel
theorem dX7_seekMaltsev_28 : decode cX7_seekMaltsev 28 = .ok (.iload_n 2, 1) := by decide +kernel
theorem dX7_seekMaltsev_29 : decode cX7_seekMaltsev 29 = .ok (.invokevirtual 32, 3) := by decide +kernel
theorem dX7_seekMaltsev_32 : decode cX7_seekMaltsev 32 = .ok (.aload_n 0, 1) := by decide +kernel
theorem dX7_seekMaltsev_33 : decode cX7_seekMaltsev 33 = .ok (.iload_n 2, 1) := by decide +kernel
theorem dX7_seekMaltsev_34 : decode cX7_seekMaltsev 34 = .ok (.iload_n 2, 1) := by decide +kernel
theorem dX7_seekMaltsev_35 : decode cX7_seekMaltsev 35 = .ok (.iload_n 3, 1) := by decide +kernel
theorem dX7_seekMaltsev_36 : decode cX7_seekMaltsev 36 = .ok (.iload_n 3, 1) := by decide +kernel
theorem dX7_seekMaltsev_37 : decode cX7_seekMaltsev 37 = .ok (.invokevirtual 32, 3) := by decide +kernel
theorem dX7_seekMaltsev_40 : decode cX7_seekMaltsev 40 = .ok (.iinc 3 1, 3) := by decide +kernel
theorem dX7_seekMaltsev_43 : decode cX7_seekMaltsev 43 = .ok (.goto (-27), 3) := by decide +kernel
theorem dX7_seekMaltsev_46 : decode cX7_seekMaltsev 46 = .ok (.iinc 2 1, 3) := by decide +kernel
theorem dX7_seekMaltsev_49 : decode cX7_seekMaltsev 49 = .ok (.goto (-43), 3) := by decide +kernel
theorem dX7_seekMaltsev_52 : decode cX7_seekMaltsev 52 = .ok (.aload_n 0, 1) := by decide +kernel
theorem dX7_seekMaltsev_53 : decode cX7_seekMaltsev 53 = .ok (.aload_n 1, 1) := by decide +kernel
theorem dX7_seekMaltsev_54 : decode cX7_seekMaltsev 54 = .ok (.iconst 3, 1) := by decide +kernel
theorem dX7_seekMaltsev_55 : decode cX7_seekMaltsev 55 = .ok (.invokevirtual 42, 3) := by decide +kernel
theorem dX7_seekMaltsev_58 : decode cX7_seekMaltsev 58 = .ok (.ireturn, 1) := by decide +kernel
set_option maxRecDepth 20000 in
theorem ggX7_seekMajority_X7_startOver : GoodIn wsX7_seekMajority wsX7_startOver := goodIn_r _ [6, 7, 8, 9, 10, 11, 12, 13, 14, 15, 16, 17, 18, 89, 90, 91, 92, 93, 94, 95, 96, 97, 98, 99, 100] (by decide +kernel) (by decide +kernel)
set_option maxRecDepth 20000 in
theorem gX7_seekMajority_X7_startOver : GoodIn wsX7_seekMajority (wsV RX7 25 RX7 yX7_startOver wsX7_startOver) := goodIn_app (goodIn_of _ (by decide +kernel)) ggX7_seekMajority_X7_startOver
set_option maxRecDepth 20000 in
theorem ggX7_seekMajority_X7_addWay : GoodIn wsX7_seekMajority wsX7_addWay := goodIn_r _ [22, 10, 11, 12, 13, 14, 23, 24, 25, 5, 26, 27, 28, 29, 89, 90, 91, 92, 93, 94, 95, 96, 97, 98, 99, 100] (by decide +kernel) (by decide +kernel)
set_option maxRecDepth 20000 in
theorem gX7_seekMajority_X7_addWay : GoodIn wsX7_seekMajority (wsV RX7 32 RX7 yX7_addWay wsX7_addWay) := goodIn_app (goodIn_of _ (by decide +kernel)) ggX7_seekMajority_X7_addWay
set_option maxRecDepth 20000 in
theorem ggX7_seekMajority_X7_grow : GoodIn wsX7_seekMajority wsX7_grow := goodIn_r _ [33, 10, 11, 12, 7, 9, 13, 34, 8, 35, 36, 37, 5, 38, 39, 40, 41, 42, 43, 44, 45, 46, 47, 48, 49, 50, 51, 52, 53, 54, 55, 56, 1, 57, 58, 59, 60, 61, 62, 14, 63, 64, 65, 66, 67, 68, 69, 70, 71, 72, 73, 74, 75, 76, 77, 78, 79, 80, 81, 82, 27, 28, 29, 83, 84, 85, 86, 89, 90, 91, 92, 93, 94, 95, 96, 97, 98, 99, 100, 87, 88] (by decide +kernel) (by decide +kernel)
set_option maxRecDepth 20000 in
theorem gX7_seekMajority_X7_grow : GoodIn wsX7_seekMajority (wsV RX7 42 RX7 yX7_grow wsX7_grow) := goodIn_app (goodIn_of _ (by decide +kernel)) ggX7_seekMajority_X7_grow
theorem dX7_seekMajority_0 : decode cX7_seekMajority 0 = .ok (.aload_n 0, 1) := by decide +kernel
theorem dX7_seekMajority_1 : decode cX7_seekMajority 1 = .ok (.invokevirtual 25, 3) := by decide +kernel
theorem dX7_seekMajority_4 : decode cX7_seekMajority 4 = .ok (.iconst 0, 1) := by decide +kernel
theorem dX7_seekMajority_5 : decode cX7_seekMajority 5 = .ok (.istore_n 2, 1) := by decide +kernel
theorem dX7_seekMajority_6 : decode cX7_seekMajority 6 = .ok (.iload_n 2, 1) := by decide +kernel
theorem dX7_seekMajority_7 : decode cX7_seekMajority 7 = .ok (.aload_n 1, 1) := by decide +kernel
theorem dX7_seekMajority_8 : decode cX7_seekMajority 8 = .ok (.getfield 28, 3) := by decide +kernel
theorem dX7_seekMajority_11 : decode cX7_seekMajority 11 = .ok (.if_icmp .ge 49, 3) := by decide +kernel
theorem dX7_seekMajority_14 : decode cX7_seekMajority 14 = .ok (.iconst 0, 1) := by decide +kernel
theorem dX7_seekMajority_15 : decode cX7_seekMajority 15 = .ok (.istore_n 3, 1) := by decide +kernel
theorem dX7_seekMajority_16 : decode cX7_seekMajority 16 = .ok (.iload_n 3, 1) := by decide +kernel
theorem dX7_seekMajority_17 : decode cX7_seekMajority 17 = .ok (.aload_n 1, 1) := by decide +kernel
theorem dX7_seekMajority_18 : decode cX7_seekMajority 18 = .ok (.getfield 28, 3) := by decide +kernel
theorem dX7_seekMajority_21 : decode cX7_seekMajority 21 = .ok (.if_icmp .ge 33, 3) := by decide +kernel
theorem dX7_seekMajority_24 : decode cX7_seekMajority 24 = .ok (.aload_n 0, 1) := by decide +kernel
theorem dX7_seekMajority_25 : decode cX7_seekMajority 25 = .ok (.iload_n 2, 1) := by decide +kernel
theorem dX7_seekMajority_26 : decode cX7_seekMajority 26 = .ok (.iload_n 2, 1) := by decide +kernel
theorem dX7_seekMajority_27 : decode cX7_seekMajority 27 = .ok (.iload_n 3, 1) := by decide +kernel
theorem dX7_seekMajority_28 : decode cX7_seekMajority 28 = .ok (.iload_n 2, 1) := by decide +kernel
theorem dX7_seekMajority_29 : decode cX7_seekMajority 29 = .ok (.invokevirtual 32, 3) := by decide +kernel
theorem dX7_seekMajority_32 : decode cX7_seekMajority 32 = .ok (.aload_n 0, 1) := by decide +kernel
theorem dX7_seekMajority_33 : decode cX7_seekMajority 33 = .ok (.iload_n 2, 1) := by decide +kernel
theorem dX7_seekMajority_34 : decode cX7_seekMajority 34 = .ok (.iload_n 3, 1) := by decide +kernel
theorem dX7_seekMajority_35 : decode cX7_seekMajority 35 = .ok (.iload_n 2, 1) := by decide +kernel
theorem dX7_seekMajority_36 : decode cX7_seekMajority 36 = .ok (.iload_n 2, 1) := by decide +kernel
theorem dX7_seekMajority_37 : decode cX7_seekMajority 37 = .ok (.invokevirtual 32, 3) := by decide +kernel
theorem dX7_seekMajority_40 : decode cX7_seekMajority 40 = .ok (.aload_n 0, 1) := by decide +kernel
theorem dX7_seekMajority_41 : decode cX7_seekMajority 41 = .ok (.iload_n 3, 1) := by decide +kernel
theorem dX7_seekMajority_42 : decode cX7_seekMajority 42 = .ok (.iload_n 2, 1) := by decide +kernel
theorem dX7_seekMajority_43 : decode cX7_seekMajority 43 = .ok (.iload_n 2, 1) := by decide +kernel
theorem dX7_seekMajority_44 : decode cX7_seekMajority 44 = .ok (.iload_n 2, 1) := by decide +kernel
theorem dX7_seekMajority_45 : decode cX7_seekMajority 45 = .ok (.invokevirtual 32, 3) := by decide +kernel
theorem dX7_seekMajority_48 : decode cX7_seekMajority 48 = .ok (.iinc 3 1, 3) := by decide +kernel
theorem dX7_seekMajority_51 : decode cX7_seekMajority 51 = .ok (.goto (-35), 3) := by decide +kernel
theorem dX7_seekMajority_54 : decode cX7_seekMajority 54 = .ok (.iinc 2 1, 3) := by decide +kernel
theorem dX7_seekMajority_57 : decode cX7_seekMajority 57 = .ok (.goto (-51), 3) := by decide +kernel
theorem dX7_seekMajority_60 : decode cX7_seekMajority 60 = .ok (.aload_n 0, 1) := by decide +kernel
theorem dX7_seekMajority_61 : decode cX7_seekMajority 61 = .ok (.aload_n 1, 1) := by decide +kernel
theorem dX7_seekMajority_62 : decode cX7_seekMajority 62 = .ok (.iconst 3, 1) := by decide +kernel
theorem dX7_seekMajority_63 : decode cX7_seekMajority 63 = .ok (.invokevirtual 42, 3) := by decide +kernel
theorem dX7_seekMajority_66 : decode cX7_seekMajority 66 = .ok (.ireturn, 1) := by decide +kernel
set_option maxRecDepth 20000 in
theorem ggX7_startOver_J7_fill_53178 : GoodIn wsX7_startOver wsJ7_fill_53178 := goodIn_r _ [12] (by decide +kernel) (by decide +kernel)
set_option maxRecDepth 20000 in
theorem gX7_startOver_J7_fill_53178 : GoodIn wsX7_startOver (va_wsS RX7 52 yJ7_fill_53178 wsJ7_fill_53178) := goodIn_app (goodIn_of _ (by decide +kernel)) ggX7_startOver_J7_fill_53178
theorem dX7_startOver_0 : decode cX7_startOver 0 = .ok (.aload_n 0, 1) := by decide +kernel
theorem dX7_startOver_1 : decode cX7_startOver 1 = .ok (.iconst 0, 1) := by decide +kernel
theorem dX7_startOver_2 : decode cX7_startOver 2 = .ok (.putfield 46, 3) := by decide +kernel
theorem dX7_startOver_5 : decode cX7_startOver 5 = .ok (.aload_n 0, 1) := by decide +kernel
theorem dX7_startOver_6 : decode cX7_startOver 6 = .ok (.iconst 0, 1) := by decide +kernel
theorem dX7_startOver_7 : decode cX7_startOver 7 = .ok (.putfield 49, 3) := by decide +kernel
theorem dX7_startOver_10 : decode cX7_startOver 10 = .ok (.aload_n 0, 1) := by decide +kernel
theorem dX7_startOver_11 : decode cX7_startOver 11 = .ok (.getfield 13, 3) := by decide +kernel
theorem dX7_startOver_14 : decode cX7_startOver 14 = .ok (.iconst 0, 1) := by decide +kernel
theorem dX7_startOver_15 : decode cX7_startOver 15 = .ok (.invokestatic 52, 3) := by decide +kernel
theorem dX7_startOver_18 : decode cX7_startOver 18 = .ok (.aload_n 0, 1) := by decide +kernel
theorem dX7_startOver_19 : decode cX7_startOver 19 = .ok (.lconst 0, 1) := by decide +kernel
theorem dX7_startOver_20 : decode cX7_startOver 20 = .ok (.putfield 58, 3) := by decide +kernel
theorem dX7_startOver_23 : decode cX7_startOver 23 = .ok (.aload_n 0, 1) := by decide +kernel
theorem dX7_startOver_24 : decode cX7_startOver 24 = .ok (.lconst 0, 1) := by decide +kernel
theorem dX7_startOver_25 : decode cX7_startOver 25 = .ok (.putfield 61, 3) := by decide +kernel
theorem dX7_startOver_28 : decode cX7_startOver 28 = .ok (.aload_n 0, 1) := by decide +kernel
theorem dX7_startOver_29 : decode cX7_startOver 29 = .ok (.lconst 0, 1) := by decide +kernel
theorem dX7_startOver_30 : decode cX7_startOver 30 = .ok (.putfield 64, 3) := by decide +kernel
theorem dX7_startOver_33 : decode cX7_startOver 33 = .ok (.aload_n 0, 1) := by decide +kernel
theorem dX7_startOver_34 : decode cX7_startOver 34 = .ok (.lconst 0, 1) := by decide +kernel
theorem dX7_startOver_35 : decode cX7_startOver 35 = .ok (.putfield 38, 3) := by decide +kernel
theorem dX7_startOver_38 : decode cX7_startOver 38 = .ok (.aload_n 0, 1) := by decide +kernel
theorem dX7_startOver_39 : decode cX7_startOver 39 = .ok (.iconst 0, 1) := by decide +kernel
theorem dX7_startOver_40 : decode cX7_startOver 40 = .ok (.putfield 67, 3) := by decide +kernel
theorem dX7_startOver_43 : decode cX7_startOver 43 = .ok (.return_, 1) := by decide +kernel
set_option maxRecDepth 20000 in
theorem ggX7_addWay_X7_valueHere : GoodIn wsX7_addWay wsX7_valueHere := goodIn_r _ [10, 5, 11, 12, 9, 13, 14, 15, 16, 17, 18, 19, 20, 21, 22, 23, 24, 25] (by decide +kernel) (by decide +kernel)
set_option maxRecDepth 20000 in
theorem gX7_addWay_X7_valueHere : GoodIn wsX7_addWay (wsV RX7 70 RX7 yX7_valueHere wsX7_valueHere) := goodIn_app (goodIn_of _ (by decide +kernel)) ggX7_addWay_X7_valueHere
theorem dX7_addWay_0 : decode cX7_addWay 0 = .ok (.aload_n 0, 1) := by decide +kernel
theorem dX7_addWay_1 : decode cX7_addWay 1 = .ok (.dup, 1) := by decide +kernel
theorem dX7_addWay_2 : decode cX7_addWay 2 = .ok (.getfield 58, 3) := by decide +kernel
theorem dX7_addWay_5 : decode cX7_addWay 5 = .ok (.aload_n 0, 1) := by decide +kernel
theorem dX7_addWay_6 : decode cX7_addWay 6 = .ok (.iload_n 1, 1) := by decide +kernel
theorem dX7_addWay_7 : decode cX7_addWay 7 = .ok (.invokevirtual 70, 3) := by decide +kernel
theorem dX7_addWay_10 : decode cX7_addWay 10 = .ok (.lor, 1) := by decide +kernel
theorem dX7_addWay_11 : decode cX7_addWay 11 = .ok (.putfield 58, 3) := by decide +kernel
theorem dX7_addWay_14 : decode cX7_addWay 14 = .ok (.aload_n 0, 1) := by decide +kernel
theorem dX7_addWay_15 : decode cX7_addWay 15 = .ok (.dup, 1) := by decide +kernel
theorem dX7_addWay_16 : decode cX7_addWay 16 = .ok (.getfield 61, 3) := by decide +kernel
theorem dX7_addWay_19 : decode cX7_addWay 19 = .ok (.aload_n 0, 1) := by decide +kernel
theorem dX7_addWay_20 : decode cX7_addWay 20 = .ok (.iload_n 2, 1) := by decide +kernel
theorem dX7_addWay_21 : decode cX7_addWay 21 = .ok (.invokevirtual 70, 3) := by decide +kernel
theorem dX7_addWay_24 : decode cX7_addWay 24 = .ok (.lor, 1) := by decide +kernel
theorem dX7_addWay_25 : decode cX7_addWay 25 = .ok (.putfield 61, 3) := by decide +kernel
theorem dX7_addWay_28 : decode cX7_addWay 28 = .ok (.aload_n 0, 1) := by decide +kernel
theorem dX7_addWay_29 : decode cX7_addWay 29 = .ok (.dup, 1) := by decide +kernel
theorem dX7_addWay_30 : decode cX7_addWay 30 = .ok (.getfield 64, 3) := by decide +kernel
theorem dX7_addWay_33 : decode cX7_addWay 33 = .ok (.aload_n 0, 1) := by decide +kernel
theorem dX7_addWay_34 : decode cX7_addWay 34 = .ok (.iload_n 3, 1) := by decide +kernel
theorem dX7_addWay_35 : decode cX7_addWay 35 = .ok (.invokevirtual 70, 3) := by decide +kernel
theorem dX7_addWay_38 : decode cX7_addWay 38 = .ok (.lor, 1) := by decide +kernel
theorem dX7_addWay_39 : decode cX7_addWay 39 = .ok (.putfield 64, 3) := by decide +kernel
theorem dX7_addWay_42 : decode cX7_addWay 42 = .ok (.aload_n 0, 1) := by decide +kernel
theorem dX7_addWay_43 : decode cX7_addWay 43 = .ok (.dup, 1) := by decide +kernel
theorem dX7_addWay_44 : decode cX7_addWay 44 = .ok (.getfield 38, 3) := by decide +kernel
theorem dX7_addWay_47 : decode cX7_addWay 47 = .ok (.aload_n 0, 1) := by decide +kernel
theorem dX7_addWay_48 : decode cX7_addWay 48 = .ok (.iload 4, 2) := by decide +kernel
theorem dX7_addWay_50 : decode cX7_addWay 50 = .ok (.invokevirtual 70, 3) := by decide +kernel
theorem dX7_addWay_53 : decode cX7_addWay 53 = .ok (.lor, 1) := by decide +kernel
theorem dX7_addWay_54 : decode cX7_addWay 54 = .ok (.putfield 38, 3) := by decide +kernel
theorem dX7_addWay_57 : decode cX7_addWay 57 = .ok (.aload_n 0, 1) := by decide +kernel
theorem dX7_addWay_58 : decode cX7_addWay 58 = .ok (.dup, 1) := by decide +kernel
theorem dX7_addWay_59 : decode cX7_addWay 59 = .ok (.getfield 67, 3) := by decide +kernel
theorem dX7_addWay_62 : decode cX7_addWay 62 = .ok (.iconst 1, 1) := by decide +kernel
theorem dX7_addWay_63 : decode cX7_addWay 63 = .ok (.iadd, 1) := by decide +kernel
theorem dX7_addWay_64 : decode cX7_addWay 64 = .ok (.putfield 67, 3) := by decide +kernel
theorem dX7_addWay_67 : decode cX7_addWay 67 = .ok (.return_, 1) := by decide +kernel
set_option maxRecDepth 20000 in
theorem ggX7_valueHere_X7_joined : GoodIn wsX7_valueHere wsX7_joined := goodIn_r _ [5] (by decide +kernel) (by decide +kernel)
set_option maxRecDepth 20000 in
theorem gX7_valueHere_X7_joined : GoodIn wsX7_valueHere (va_wsS RX7 74 yX7_joined wsX7_joined) := goodIn_app (goodIn_of _ (by decide +kernel)) ggX7_valueHere_X7_joined
theorem dX7_valueHere_0 : decode cX7_valueHere 0 = .ok (.iload_n 1, 1) := by decide +kernel
theorem dX7_valueHere_1 : decode cX7_valueHere 1 = .ok (.iconst 1, 1) := by decide +kernel
theorem dX7_valueHere_2 : decode cX7_valueHere 2 = .ok (.iand, 1) := by decide +kernel
theorem dX7_valueHere_3 : decode cX7_valueHere 3 = .ok (.aload_n 0, 1) := by decide +kernel
theorem dX7_valueHere_4 : decode cX7_valueHere 4 = .ok (.getfield 67, 3) := by decide +kernel
theorem dX7_valueHere_7 : decode cX7_valueHere 7 = .ok (.ishl, 1) := by decide +kernel
theorem dX7_valueHere_8 : decode cX7_valueHere 8 = .ok (.iload_n 1, 1) := by decide +kernel
theorem dX7_valueHere_9 : decode cX7_valueHere 9 = .ok (.iconst 1, 1) := by decide +kernel
theorem dX7_valueHere_10 : decode cX7_valueHere 10 = .ok (.ishr, 1) := by decide +kernel
theorem dX7_valueHere_11 : decode cX7_valueHere 11 = .ok (.iconst 1, 1) := by decide +kernel
theorem dX7_valueHere_12 : decode cX7_valueHere 12 = .ok (.iand, 1) := by decide +kernel
theorem dX7_valueHere_13 : decode cX7_valueHere 13 = .ok (.aload_n 0, 1) := by decide +kernel
theorem dX7_valueHere_14 : decode cX7_valueHere 14 = .ok (.getfield 67, 3) := by decide +kernel
theorem dX7_valueHere_17 : decode cX7_valueHere 17 = .ok (.ishl, 1) := by decide +kernel
theorem dX7_valueHere_18 : decode cX7_valueHere 18 = .ok (.invokestatic 74, 3) := by decide +kernel
theorem dX7_valueHere_21 : decode cX7_valueHere 21 = .ok (.lreturn, 1) := by decide +kernel
set_option maxRecDepth 20000 in
theorem ggX7_grow_X7_add : GoodIn wsX7_grow wsX7_add := goodIn_r _ [13, 5, 4, 14, 15, 16, 17, 12, 18, 19, 67, 68, 69, 70, 71, 72, 73, 74, 75, 76, 77, 78] (by decide +kernel) (by decide +kernel)
set_option maxRecDepth 20000 in
theorem gX7_grow_X7_add : GoodIn wsX7_grow (wsV RX7 78 RX7 yX7_add wsX7_add) := goodIn_app (goodIn_of _ (by decide +kernel)) ggX7_grow_X7_add
set_option maxRecDepth 20000 in
theorem ggX7_grow_X7_slotOf : GoodIn wsX7_grow wsX7_slotOf := goodIn_r _ [18, 19, 5, 14, 67, 68, 69, 70, 71, 72, 73, 74, 75, 76, 77, 78] (by decide +kernel) (by decide +kernel)
set_option maxRecDepth 20000 in
theorem gX7_grow_X7_slotOf : GoodIn wsX7_grow (wsV RX7 82 RX7 yX7_slotOf wsX7_slotOf) := goodIn_app (goodIn_of _ (by decide +kernel)) ggX7_grow_X7_slotOf
set_option maxRecDepth 20000 in
theorem ggX7_grow_X7_makeRound : GoodIn wsX7_grow wsX7_makeRound := goodIn_r _ [23, 4, 24, 25, 26, 27, 14, 28, 29, 30, 12, 31, 32, 33, 34, 35, 36, 37, 38, 39, 40, 41, 42, 43, 44, 45, 46, 47, 48, 49, 50, 51, 52, 53, 54, 55, 56, 57, 58, 59, 60, 61, 62, 9, 10, 11, 13, 5, 15, 16, 17, 18, 19, 63, 64, 65, 66, 67, 68, 69, 70, 71, 72, 73, 74, 75, 76, 77, 78, 79, 80] (by decide +kernel) (by decide +kernel)
set_option maxRecDepth 20000 in
theorem gX7_grow_X7_makeRound : GoodIn wsX7_grow (wsV RX7 90 RX7 yX7_makeRound wsX7_makeRound) := goodIn_app (goodIn_of _ (by decide +kernel)) ggX7_grow_X7_makeRound
theorem dX7_grow_0 : decode cX7_grow 0 = .ok (.aload_n 0, 1) := by decide +kernel
theorem dX7_grow_1 : decode cX7_grow 1 = .ok (.aload_n 0, 1) := by decide +kernel
theorem dX7_grow_2 : decode cX7_grow 2 = .ok (.getfield 58, 3) := by decide +kernel
theorem dX7_grow_5 : decode cX7_grow 5 = .ok (.invokevirtual 78, 3) := by decide +kernel
theorem dX7_grow_8 : decode cX7_grow 8 = .ok (.pop, 1) := by decide +kernel
theorem dX7_grow_9 : decode cX7_grow 9 = .ok (.iload_n 2, 1) := by decide +kernel
theorem dX7_grow_10 : decode cX7_grow 10 = .ok (.iconst 1, 1) := by decide +kernel
theorem dX7_grow_11 : decode cX7_grow 11 = .ok (.if_icmp .le 12, 3) := by decide +kernel
theorem dX7_grow_14 : decode cX7_grow 14 = .ok (.aload_n 0, 1) := by decide +kernel
theorem dX7_grow_15 : decode cX7_grow 15 = .ok (.aload_n 0, 1) := by decide +kernel
theorem dX7_grow_16 : decode cX7_grow 16 = .ok (.getfield 61, 3) := by decide +kernel
theorem dX7_grow_19 : decode cX7_grow 19 = .ok (.invokevirtual 78, 3) := by decide +kernel
theorem dX7_grow_22 : decode cX7_grow 22 = .ok (.pop, 1) := by decide +kernel
theorem dX7_grow_23 : decode cX7_grow 23 = .ok (.iload_n 2, 1) := by decide +kernel
theorem dX7_grow_24 : decode cX7_grow 24 = .ok (.iconst 2, 1) := by decide +kernel
theorem dX7_grow_25 : decode cX7_grow 25 = .ok (.if_icmp .le 12, 3) := by decide +kernel
theorem dX7_grow_28 : decode cX7_grow 28 = .ok (.aload_n 0, 1) := by decide +kernel
theorem dX7_grow_29 : decode cX7_grow 29 = .ok (.aload_n 0, 1) := by decide +kernel
theorem dX7_grow_30 : decode cX7_grow 30 = .ok (.getfield 64, 3) := by decide +kernel
theorem dX7_grow_33 : decode cX7_grow 33 = .ok (.invokevirtual 78, 3) := by decide +kernel
theorem dX7_grow_36 : decode cX7_grow 36 = .ok (.pop, 1) := by decide +kernel
theorem dX7_grow_37 : decode cX7_grow 37 = .ok (.iconst 0, 1) := by decide +kernel
theorem dX7_grow_38 : decode cX7_grow 38 = .ok (.istore_n 3, 1) := by decide +kernel
theorem dX7_grow_39 : decode cX7_grow 39 = .ok (.iconst 0, 1) := by decide +kernel
theorem dX7_grow_40 : decode cX7_grow 40 = .ok (.istore 4, 2) := by decide +kernel
theorem dX7_grow_42 : decode cX7_grow 42 = .ok (.iload 4, 2) := by decide +kernel
theorem dX7_grow_44 : decode cX7_grow 44 = .ok (.sipush 200, 3) := by decide +kernel
theorem dX7_grow_47 : decode cX7_grow 47 = .ok (.if_icmp .gt 92, 3) := by decide +kernel
theorem dX7_grow_50 : decode cX7_grow 50 = .ok (.aload_n 0, 1) := by decide +kernel
theorem dX7_grow_51 : decode cX7_grow 51 = .ok (.getfield 46, 3) := by decide +kernel
theorem dX7_grow_54 : decode cX7_grow 54 = .ok (.istore 5, 2) := by decide +kernel
theorem dX7_grow_56 : decode cX7_grow 56 = .ok (.aload_n 0, 1) := by decide +kernel
theorem dX7_grow_57 : decode cX7_grow 57 = .ok (.aload_n 0, 1) := by decide +kernel
theorem dX7_grow_58 : decode cX7_grow 58 = .ok (.getfield 13, 3) := by decide +kernel
theorem dX7_grow_61 : decode cX7_grow 61 = .ok (.aload_n 0, 1) := by decide +kernel
theorem dX7_grow_62 : decode cX7_grow 62 = .ok (.aload_n 0, 1) := by decide +kernel
theorem dX7_grow_63 : decode cX7_grow 63 = .ok (.getfield 38, 3) := by decide +kernel
theorem dX7_grow_66 : decode cX7_grow 66 = .ok (.invokevirtual 82, 3) := by decide +kernel
theorem dX7_grow_69 : decode cX7_grow 69 = .ok (.iaload, 1) := by decide +kernel
theorem dX7_grow_70 : decode cX7_grow 70 = .ok (.ifCond .eq 7, 3) := by decide +kernel
theorem dX7_grow_73 : decode cX7_grow 73 = .ok (.iconst 1, 1) := by decide +kernel
theorem dX7_grow_74 : decode cX7_grow 74 = .ok (.goto 4, 3) := by decide +kernel
theorem dX7_grow_77 : decode cX7_grow 77 = .ok (.iconst 0, 1) := by decide +kernel
theorem dX7_grow_78 : decode cX7_grow 78 = .ok (.putfield 86, 3) := by decide +kernel
theorem dX7_grow_81 : decode cX7_grow 81 = .ok (.aload_n 0, 1) := by decide +kernel
theorem dX7_grow_82 : decode cX7_grow 82 = .ok (.getfield 86, 3) := by decide +kernel
theorem dX7_grow_85 : decode cX7_grow 85 = .ok (.ifCond .ne 9, 3) := by decide +kernel
theorem dX7_grow_88 : decode cX7_grow 88 = .ok (.iload 5, 2) := by decide +kernel
theorem dX7_grow_90 : decode cX7_grow 90 = .ok (.iload_n 3, 1) := by decide +kernel
theorem dX7_grow_91 : decode cX7_grow 91 = .ok (.if_icmp .ne 5, 3) := by decide +kernel
theorem dX7_grow_94 : decode cX7_grow 94 = .ok (.iconst 1, 1) := by decide +kernel
theorem dX7_grow_95 : decode cX7_grow 95 = .ok (.ireturn, 1) := by decide +kernel
theorem dX7_grow_96 : decode cX7_grow 96 = .ok (.aload_n 0, 1) := by decide +kernel
theorem dX7_grow_97 : decode cX7_grow 97 = .ok (.aload_n 1, 1) := by decide +kernel
theorem dX7_grow_98 : decode cX7_grow 98 = .ok (.iload_n 3, 1) := by decide +kernel
theorem dX7_grow_99 : decode cX7_grow 99 = .ok (.invokevirtual 90, 3) := by decide +kernel
theorem dX7_grow_102 : decode cX7_grow 102 = .ok (.ifCond .ne 5, 3) := by decide +kernel
theorem dX7_grow_105 : decode cX7_grow 105 = .ok (.iconst 0, 1) := by decide +kernel
theorem dX7_grow_106 : decode cX7_grow 106 = .ok (.ireturn, 1) := by decide +kernel
theorem dX7_grow_107 : decode cX7_grow 107 = .ok (.aload_n 0, 1) := by decide +kernel
theorem dX7_grow_108 : decode cX7_grow 108 = .ok (.dup, 1) := by decide +kernel
theorem dX7_grow_109 : decode cX7_grow 109 = .ok (.getfield 49, 3) := by decide +kernel
theorem dX7_grow_112 : decode cX7_grow 112 = .ok (.aload_n 0, 1) := by decide +kernel
theorem dX7_grow_113 : decode cX7_grow 113 = .ok (.getfield 46, 3) := by decide +kernel
theorem dX7_grow_116 : decode cX7_grow 116 = .ok (.iload 5, 2) := by decide +kernel
theorem dX7_grow_118 : decode cX7_grow 118 = .ok (.if_icmp .le 7, 3) := by decide +kernel
theorem dX7_grow_121 : decode cX7_grow 121 = .ok (.iconst 1, 1) := by decide +kernel
theorem dX7_grow_122 : decode cX7_grow 122 = .ok (.goto 4, 3) := by decide +kernel
theorem dX7_grow_125 : decode cX7_grow 125 = .ok (.iconst 0, 1) := by decide +kernel
theorem dX7_grow_126 : decode cX7_grow 126 = .ok (.iadd, 1) := by decide +kernel
theorem dX7_grow_127 : decode cX7_grow 127 = .ok (.putfield 49, 3) := by decide +kernel
theorem dX7_grow_130 : decode cX7_grow 130 = .ok (.iload 5, 2) := by decide +kernel
theorem dX7_grow_132 : decode cX7_grow 132 = .ok (.istore_n 3, 1) := by decide +kernel
theorem dX7_grow_133 : decode cX7_grow 133 = .ok (.iinc 4 1, 3) := by decide +kernel
theorem dX7_grow_136 : decode cX7_grow 136 = .ok (.goto (-94), 3) := by decide +kernel
theorem dX7_grow_139 : decode cX7_grow 139 = .ok (.iconst 1, 1) := by decide +kernel
theorem dX7_grow_140 : decode cX7_grow 140 = .ok (.ireturn, 1) := by decide +kernel
set_option maxRecDepth 20000 in
theorem ggX7_makeRound_X7_layBehind : GoodIn wsX7_makeRound wsX7_layBehind := goodIn_r _ [11, 12, 13, 14, 15, 16, 17, 10, 18, 19, 20, 21, 22, 23, 24, 25, 26, 27, 28, 69, 70, 57, 58, 59, 60, 61, 62, 63, 64, 65, 66, 67, 68] (by decide +kernel) (by decide +kernel)
set_option maxRecDepth 20000 in
theorem gX7_makeRound_X7_layBehind : GoodIn wsX7_makeRound (wsV RX7 99 RX7 yX7_layBehind wsX7_layBehind) := goodIn_app (goodIn_of _ (by decide +kernel)) ggX7_makeRound_X7_layBehind
set_option maxRecDepth 20000 in
theorem ggX7_makeRound_X7_ofOne : GoodIn wsX7_makeRound wsX7_ofOne := goodIn_r _ [32, 12, 15, 16, 17, 10, 18, 19, 33, 34, 35, 23, 36, 25, 37, 38, 39, 40, 41, 42, 69, 70, 57, 58, 59, 60, 61, 62, 63, 64, 65, 66, 67, 68] (by decide +kernel) (by decide +kernel)
set_option maxRecDepth 20000 in
theorem gX7_makeRound_X7_ofOne : GoodIn wsX7_makeRound (wsV RX7 103 RX7 yX7_ofOne wsX7_ofOne) := goodIn_app (goodIn_of _ (by decide +kernel)) ggX7_makeRound_X7_ofOne
set_option maxRecDepth 20000 in
theorem ggX7_makeRound_X7_add : GoodIn wsX7_makeRound wsX7_add := goodIn_r _ [46, 47, 1, 6, 48, 49, 50, 10, 51, 52, 57, 58, 59, 60, 61, 62, 63, 64, 65, 66, 67, 68] (by decide +kernel) (by decide +kernel)
set_option maxRecDepth 20000 in
theorem gX7_makeRound_X7_add : GoodIn wsX7_makeRound (wsV RX7 78 RX7 yX7_add wsX7_add) := goodIn_app (goodIn_of _ (by decide +kernel)) ggX7_makeRound_X7_add
set_option maxRecDepth 20000 in
theorem ggX7_makeRound_X7_ofTwo : GoodIn wsX7_makeRound wsX7_ofTwo := goodIn_r _ [56, 13, 14, 40, 41, 10, 42, 57, 58, 59, 60, 61, 62, 63, 64, 65, 66, 67, 68] (by decide +kernel) (by decide +kernel)
set_option maxRecDepth 20000 in
theorem gX7_makeRound_X7_ofTwo : GoodIn wsX7_makeRound (wsV RX7 107 RX7 yX7_ofTwo wsX7_ofTwo) := goodIn_app (goodIn_of _ (by decide +kernel)) ggX7_makeRound_X7_ofTwo
theorem dX7_makeRound_0 : decode cX7_makeRound 0 = .ok (.aload_n 0, 1) := by decide +kernel
theorem dX7_makeRound_1 : decode cX7_makeRound 1 = .ok (.getfield 46, 3) := by decide +kernel
theorem dX7_makeRound_4 : decode cX7_makeRound 4 = .ok (.sipush 200, 3) := by decide +kernel
theorem dX7_makeRound_7 : decode cX7_makeRound 7 = .ok (.invokestatic 93, 3) := by decide +kernel
theorem dX7_makeRound_10 : decode cX7_makeRound 10 = .ok (.istore_n 3, 1) := by decide +kernel
theorem dX7_makeRound_11 : decode cX7_makeRound 11 = .ok (.iconst 0, 1) := by decide +kernel
theorem dX7_makeRound_12 : decode cX7_makeRound 12 = .ok (.istore 4, 2) := by decide +kernel
theorem dX7_makeRound_14 : decode cX7_makeRound 14 = .ok (.iload 4, 2) := by decide +kernel
theorem dX7_makeRound_16 : decode cX7_makeRound 16 = .ok (.iload_n 3, 1) := by decide +kernel
theorem dX7_makeRound_17 : decode cX7_makeRound 17 = .ok (.if_icmp .ge 93, 3) := by decide +kernel
theorem dX7_makeRound_20 : decode cX7_makeRound 20 = .ok (.aload_n 0, 1) := by decide +kernel
theorem dX7_makeRound_21 : decode cX7_makeRound 21 = .ok (.aload_n 1, 1) := by decide +kernel
theorem dX7_makeRound_22 : decode cX7_makeRound 22 = .ok (.aload_n 0, 1) := by decide +kernel
theorem dX7_makeRound_23 : decode cX7_makeRound 23 = .ok (.getfield 9, 3) := by decide +kernel
theorem dX7_makeRound_26 : decode cX7_makeRound 26 = .ok (.iload 4, 2) := by decide +kernel
theorem dX7_makeRound_28 : decode cX7_makeRound 28 = .ok (.laload, 1) := by decide +kernel
theorem dX7_makeRound_29 : decode cX7_makeRound 29 = .ok (.invokevirtual 99, 3) := by decide +kernel
theorem dX7_makeRound_32 : decode cX7_makeRound 32 = .ok (.iload 4, 2) := by decide +kernel
theorem dX7_makeRound_34 : decode cX7_makeRound 34 = .ok (.iload_n 2, 1) := by decide +kernel
theorem dX7_makeRound_35 : decode cX7_makeRound 35 = .ok (.if_icmp .lt 24, 3) := by decide +kernel
theorem dX7_makeRound_38 : decode cX7_makeRound 38 = .ok (.aload_n 0, 1) := by decide +kernel
theorem dX7_makeRound_39 : decode cX7_makeRound 39 = .ok (.aload_n 0, 1) := by decide +kernel
theorem dX7_makeRound_40 : decode cX7_makeRound 40 = .ok (.aload_n 1, 1) := by decide +kernel
theorem dX7_makeRound_41 : decode cX7_makeRound 41 = .ok (.aload_n 0, 1) := by decide +kernel
theorem dX7_makeRound_42 : decode cX7_makeRound 42 = .ok (.getfield 9, 3) := by decide +kernel
theorem dX7_makeRound_45 : decode cX7_makeRound 45 = .ok (.iload 4, 2) := by decide +kernel
theorem dX7_makeRound_47 : decode cX7_makeRound 47 = .ok (.laload, 1) := by decide +kernel
theorem dX7_makeRound_48 : decode cX7_makeRound 48 = .ok (.invokevirtual 103, 3) := by decide +kernel
theorem dX7_makeRound_51 : decode cX7_makeRound 51 = .ok (.invokevirtual 78, 3) := by decide +kernel
theorem dX7_makeRound_54 : decode cX7_makeRound 54 = .ok (.ifCond .ne 5, 3) := by decide +kernel
theorem dX7_makeRound_57 : decode cX7_makeRound 57 = .ok (.iconst 0, 1) := by decide +kernel
theorem dX7_makeRound_58 : decode cX7_makeRound 58 = .ok (.ireturn, 1) := by decide +kernel
theorem dX7_makeRound_59 : decode cX7_makeRound 59 = .ok (.iload 4, 2) := by decide +kernel
theorem dX7_makeRound_61 : decode cX7_makeRound 61 = .ok (.iload_n 2, 1) := by decide +kernel
theorem dX7_makeRound_62 : decode cX7_makeRound 62 = .ok (.if_icmp .ge 7, 3) := by decide +kernel
theorem dX7_makeRound_65 : decode cX7_makeRound 65 = .ok (.iload_n 2, 1) := by decide +kernel
theorem dX7_makeRound_66 : decode cX7_makeRound 66 = .ok (.goto 4, 3) := by decide +kernel
theorem dX7_makeRound_69 : decode cX7_makeRound 69 = .ok (.iconst 0, 1) := by decide +kernel
theorem dX7_makeRound_70 : decode cX7_makeRound 70 = .ok (.istore 5, 2) := by decide +kernel
theorem dX7_makeRound_72 : decode cX7_makeRound 72 = .ok (.iload 5, 2) := by decide +kernel
theorem dX7_makeRound_74 : decode cX7_makeRound 74 = .ok (.iload_n 3, 1) := by decide +kernel
theorem dX7_makeRound_75 : decode cX7_makeRound 75 = .ok (.if_icmp .ge 29, 3) := by decide +kernel
theorem dX7_makeRound_78 : decode cX7_makeRound 78 = .ok (.aload_n 0, 1) := by decide +kernel
theorem dX7_makeRound_79 : decode cX7_makeRound 79 = .ok (.aload_n 0, 1) := by decide +kernel
theorem dX7_makeRound_80 : decode cX7_makeRound 80 = .ok (.aload_n 0, 1) := by decide +kernel
theorem dX7_makeRound_81 : decode cX7_makeRound 81 = .ok (.getfield 9, 3) := by decide +kernel
theorem dX7_makeRound_84 : decode cX7_makeRound 84 = .ok (.iload 5, 2) := by decide +kernel
theorem dX7_makeRound_86 : decode cX7_makeRound 86 = .ok (.laload, 1) := by decide +kernel
theorem dX7_makeRound_87 : decode cX7_makeRound 87 = .ok (.invokevirtual 107, 3) := by decide +kernel
theorem dX7_makeRound_90 : decode cX7_makeRound 90 = .ok (.invokevirtual 78, 3) := by decide +kernel
theorem dX7_makeRound_93 : decode cX7_makeRound 93 = .ok (.ifCond .ne 5, 3) := by decide +kernel
theorem dX7_makeRound_96 : decode cX7_makeRound 96 = .ok (.iconst 0, 1) := by decide +kernel
theorem dX7_makeRound_97 : decode cX7_makeRound 97 = .ok (.ireturn, 1) := by decide +kernel
theorem dX7_makeRound_98 : decode cX7_makeRound 98 = .ok (.iinc 5 1, 3) := by decide +kernel
theorem dX7_makeRound_101 : decode cX7_makeRound 101 = .ok (.goto (-29), 3) := by decide +kernel
theorem dX7_makeRound_104 : decode cX7_makeRound 104 = .ok (.iinc 4 1, 3) := by decide +kernel
theorem dX7_makeRound_107 : decode cX7_makeRound 107 = .ok (.goto (-93), 3) := by decide +kernel
theorem dX7_makeRound_110 : decode cX7_makeRound 110 = .ok (.iconst 1, 1) := by decide +kernel
theorem dX7_makeRound_111 : decode cX7_makeRound 111 = .ok (.ireturn, 1) := by decide +kernel
set_option maxRecDepth 20000 in
theorem ggX7_layBehind_X7_whereIs : GoodIn wsX7_layBehind wsX7_whereIs := goodIn_r _ [8, 9, 21, 22, 23, 24, 25, 26, 27, 28, 29, 30, 31, 32] (by decide +kernel) (by decide +kernel)
set_option maxRecDepth 20000 in
theorem gX7_layBehind_X7_whereIs : GoodIn wsX7_layBehind (wsV RX7 111 RX7 yX7_whereIs wsX7_whereIs) := goodIn_app (goodIn_of _ (by decide +kernel)) ggX7_layBehind_X7_whereIs
set_option maxRecDepth 20000 in
theorem ggX7_layBehind_X6_two : GoodIn wsX7_layBehind wsX6_two := goodIn_r _ [14, 15, 16, 17, 13, 18, 19, 20] (by decide +kernel) (by decide +kernel)
set_option maxRecDepth 20000 in
theorem gX7_layBehind_X6_two : GoodIn wsX7_layBehind (wsV RX7 115 RX6 yX6_two wsX6_two) := goodIn_app (goodIn_of _ (by decide +kernel)) ggX7_layBehind_X6_two
theorem dX7_layBehind_0 : decode cX7_layBehind 0 = .ok (.iconst 0, 1) := by decide +kernel
theorem dX7_layBehind_1 : decode cX7_layBehind 1 = .ok (.istore 4, 2) := by decide +kernel
theorem dX7_layBehind_3 : decode cX7_layBehind 3 = .ok (.iload 4, 2) := by decide +kernel
theorem dX7_layBehind_5 : decode cX7_layBehind 5 = .ok (.iconst 4, 1) := by decide +kernel
theorem dX7_layBehind_6 : decode cX7_layBehind 6 = .ok (.if_icmp .ge 108, 3) := by decide +kernel
theorem dX7_layBehind_9 : decode cX7_layBehind 9 = .ok (.iconst 0, 1) := by decide +kernel
theorem dX7_layBehind_10 : decode cX7_layBehind 10 = .ok (.istore 5, 2) := by decide +kernel
theorem dX7_layBehind_12 : decode cX7_layBehind 12 = .ok (.iconst 0, 1) := by decide +kernel
theorem dX7_layBehind_13 : decode cX7_layBehind 13 = .ok (.istore 6, 2) := by decide +kernel
theorem dX7_layBehind_15 : decode cX7_layBehind 15 = .ok (.iconst 0, 1) := by decide +kernel
theorem dX7_layBehind_16 : decode cX7_layBehind 16 = .ok (.istore 7, 2) := by decide +kernel
theorem dX7_layBehind_18 : decode cX7_layBehind 18 = .ok (.iload 7, 2) := by decide +kernel
theorem dX7_layBehind_20 : decode cX7_layBehind 20 = .ok (.aload_n 1, 1) := by decide +kernel
theorem dX7_layBehind_21 : decode cX7_layBehind 21 = .ok (.getfield 28, 3) := by decide +kernel
theorem dX7_layBehind_24 : decode cX7_layBehind 24 = .ok (.if_icmp .ge 66, 3) := by decide +kernel
theorem dX7_layBehind_27 : decode cX7_layBehind 27 = .ok (.aload_n 0, 1) := by decide +kernel
theorem dX7_layBehind_28 : decode cX7_layBehind 28 = .ok (.lload_n 2, 1) := by decide +kernel
theorem dX7_layBehind_29 : decode cX7_layBehind 29 = .ok (.iload 7, 2) := by decide +kernel
theorem dX7_layBehind_31 : decode cX7_layBehind 31 = .ok (.invokevirtual 111, 3) := by decide +kernel
theorem dX7_layBehind_34 : decode cX7_layBehind 34 = .ok (.istore 8, 2) := by decide +kernel
theorem dX7_layBehind_36 : decode cX7_layBehind 36 = .ok (.iload 5, 2) := by decide +kernel
theorem dX7_layBehind_38 : decode cX7_layBehind 38 = .ok (.aload_n 1, 1) := by decide +kernel
theorem dX7_layBehind_39 : decode cX7_layBehind 39 = .ok (.iload 7, 2) := by decide +kernel
theorem dX7_layBehind_41 : decode cX7_layBehind 41 = .ok (.iload 4, 2) := by decide +kernel
theorem dX7_layBehind_43 : decode cX7_layBehind 43 = .ok (.invokevirtual 115, 3) := by decide +kernel
theorem dX7_layBehind_46 : decode cX7_layBehind 46 = .ok (.iconst 1, 1) := by decide +kernel
theorem dX7_layBehind_47 : decode cX7_layBehind 47 = .ok (.iand, 1) := by decide +kernel
theorem dX7_layBehind_48 : decode cX7_layBehind 48 = .ok (.ifCond .eq 8, 3) := by decide +kernel
theorem dX7_layBehind_51 : decode cX7_layBehind 51 = .ok (.iload 8, 2) := by decide +kernel
theorem dX7_layBehind_53 : decode cX7_layBehind 53 = .ok (.goto 4, 3) := by decide +kernel
theorem dX7_layBehind_56 : decode cX7_layBehind 56 = .ok (.iconst 0, 1) := by decide +kernel
theorem dX7_layBehind_57 : decode cX7_layBehind 57 = .ok (.ior, 1) := by decide +kernel
theorem dX7_layBehind_58 : decode cX7_layBehind 58 = .ok (.istore 5, 2) := by decide +kernel
theorem dX7_layBehind_60 : decode cX7_layBehind 60 = .ok (.iload 6, 2) := by decide +kernel
theorem dX7_layBehind_62 : decode cX7_layBehind 62 = .ok (.aload_n 1, 1) := by decide +kernel
theorem dX7_layBehind_63 : decode cX7_layBehind 63 = .ok (.iload 7, 2) := by decide +kernel
theorem dX7_layBehind_65 : decode cX7_layBehind 65 = .ok (.iload 4, 2) := by decide +kernel
theorem dX7_layBehind_67 : decode cX7_layBehind 67 = .ok (.invokevirtual 115, 3) := by decide +kernel
theorem dX7_layBehind_70 : decode cX7_layBehind 70 = .ok (.iconst 2, 1) := by decide +kernel
theorem dX7_layBehind_71 : decode cX7_layBehind 71 = .ok (.iand, 1) := by decide +kernel
theorem dX7_layBehind_72 : decode cX7_layBehind 72 = .ok (.ifCond .eq 8, 3) := by decide +kernel
theorem dX7_layBehind_75 : decode cX7_layBehind 75 = .ok (.iload 8, 2) := by decide +kernel
theorem dX7_layBehind_77 : decode cX7_layBehind 77 = .ok (.goto 4, 3) := by decide +kernel
theorem dX7_layBehind_80 : decode cX7_layBehind 80 = .ok (.iconst 0, 1) := by decide +kernel
theorem dX7_layBehind_81 : decode cX7_layBehind 81 = .ok (.ior, 1) := by decide +kernel
theorem dX7_layBehind_82 : decode cX7_layBehind 82 = .ok (.istore 6, 2) := by decide +kernel
theorem dX7_layBehind_84 : decode cX7_layBehind 84 = .ok (.iinc 7 1, 3) := by decide +kernel
theorem dX7_layBehind_87 : decode cX7_layBehind 87 = .ok (.goto (-69), 3) := by decide +kernel
theorem dX7_layBehind_90 : decode cX7_layBehind 90 = .ok (.aload_n 0, 1) := by decide +kernel
theorem dX7_layBehind_91 : decode cX7_layBehind 91 = .ok (.getfield 19, 3) := by decide +kernel
theorem dX7_layBehind_94 : decode cX7_layBehind 94 = .ok (.iload 4, 2) := by decide +kernel
theorem dX7_layBehind_96 : decode cX7_layBehind 96 = .ok (.iload 5, 2) := by decide +kernel
theorem dX7_layBehind_98 : decode cX7_layBehind 98 = .ok (.iastore, 1) := by decide +kernel
theorem dX7_layBehind_99 : decode cX7_layBehind 99 = .ok (.aload_n 0, 1) := by decide +kernel
theorem dX7_layBehind_100 : decode cX7_layBehind 100 = .ok (.getfield 22, 3) := by decide +kernel
theorem dX7_layBehind_103 : decode cX7_layBehind 103 = .ok (.iload 4, 2) := by decide +kernel
theorem dX7_layBehind_105 : decode cX7_layBehind 105 = .ok (.iload 6, 2) := by decide +kernel
theorem dX7_layBehind_107 : decode cX7_layBehind 107 = .ok (.iastore, 1) := by decide +kernel
theorem dX7_layBehind_108 : decode cX7_layBehind 108 = .ok (.iinc 4 1, 3) := by decide +kernel
theorem dX7_layBehind_111 : decode cX7_layBehind 111 = .ok (.goto (-108), 3) := by decide +kernel
theorem dX7_layBehind_114 : decode cX7_layBehind 114 = .ok (.return_, 1) := by decide +kernel
set_option maxRecDepth 20000 in
theorem ggX7_ofTwo_X7_joined : GoodIn wsX7_ofTwo wsX7_joined := goodIn_r _ [6] (by decide +kernel) (by decide +kernel)
set_option maxRecDepth 20000 in
theorem gX7_ofTwo_X7_joined : GoodIn wsX7_ofTwo (va_wsS RX7 74 yX7_joined wsX7_joined) := goodIn_app (goodIn_of _ (by decide +kernel)) ggX7_ofTwo_X7_joined
theorem dX7_ofTwo_0 : decode cX7_ofTwo 0 = .ok (.lload_n 1, 1) := by decide +kernel
theorem dX7_ofTwo_1 : decode cX7_ofTwo 1 = .ok (.l2i, 1) := by decide +kernel
theorem dX7_ofTwo_2 : decode cX7_ofTwo 2 = .ok (.istore_n 3, 1) := by decide +kernel
theorem dX7_ofTwo_3 : decode cX7_ofTwo 3 = .ok (.lload_n 1, 1) := by decide +kernel
theorem dX7_ofTwo_4 : decode cX7_ofTwo 4 = .ok (.bipush 32, 2) := by decide +kernel
theorem dX7_ofTwo_6 : decode cX7_ofTwo 6 = .ok (.lushr, 1) := by decide +kernel
theorem dX7_ofTwo_7 : decode cX7_ofTwo 7 = .ok (.l2i, 1) := by decide +kernel
theorem dX7_ofTwo_8 : decode cX7_ofTwo 8 = .ok (.istore 4, 2) := by decide +kernel
theorem dX7_ofTwo_10 : decode cX7_ofTwo 10 = .ok (.iload_n 3, 1) := by decide +kernel
theorem dX7_ofTwo_11 : decode cX7_ofTwo 11 = .ok (.iconst (-1), 1) := by decide +kernel
theorem dX7_ofTwo_12 : decode cX7_ofTwo 12 = .ok (.ixor, 1) := by decide +kernel
theorem dX7_ofTwo_13 : decode cX7_ofTwo 13 = .ok (.iload 4, 2) := by decide +kernel
theorem dX7_ofTwo_15 : decode cX7_ofTwo 15 = .ok (.iconst (-1), 1) := by decide +kernel
theorem dX7_ofTwo_16 : decode cX7_ofTwo 16 = .ok (.ixor, 1) := by decide +kernel
theorem dX7_ofTwo_17 : decode cX7_ofTwo 17 = .ok (.iand, 1) := by decide +kernel
theorem dX7_ofTwo_18 : decode cX7_ofTwo 18 = .ok (.istore 5, 2) := by decide +kernel
theorem dX7_ofTwo_20 : decode cX7_ofTwo 20 = .ok (.iload_n 3, 1) := by decide +kernel
theorem dX7_ofTwo_21 : decode cX7_ofTwo 21 = .ok (.iload 4, 2) := by decide +kernel
theorem dX7_ofTwo_23 : decode cX7_ofTwo 23 = .ok (.iconst (-1), 1) := by decide +kernel
theorem dX7_ofTwo_24 : decode cX7_ofTwo 24 = .ok (.ixor, 1) := by decide +kernel
theorem dX7_ofTwo_25 : decode cX7_ofTwo 25 = .ok (.iand, 1) := by decide +kernel
theorem dX7_ofTwo_26 : decode cX7_ofTwo 26 = .ok (.istore 6, 2) := by decide +kernel
theorem dX7_ofTwo_28 : decode cX7_ofTwo 28 = .ok (.iload_n 3, 1) := by decide +kernel
theorem dX7_ofTwo_29 : decode cX7_ofTwo 29 = .ok (.iconst (-1), 1) := by decide +kernel
theorem dX7_ofTwo_30 : decode cX7_ofTwo 30 = .ok (.ixor, 1) := by decide +kernel
theorem dX7_ofTwo_31 : decode cX7_ofTwo 31 = .ok (.iload 4, 2) := by decide +kernel
theorem dX7_ofTwo_33 : decode cX7_ofTwo 33 = .ok (.iand, 1) := by decide +kernel
theorem dX7_ofTwo_34 : decode cX7_ofTwo 34 = .ok (.istore 7, 2) := by decide +kernel
theorem dX7_ofTwo_36 : decode cX7_ofTwo 36 = .ok (.iload_n 3, 1) := by decide +kernel
theorem dX7_ofTwo_37 : decode cX7_ofTwo 37 = .ok (.iload 4, 2) := by decide +kernel
theorem dX7_ofTwo_39 : decode cX7_ofTwo 39 = .ok (.iand, 1) := by decide +kernel
theorem dX7_ofTwo_40 : decode cX7_ofTwo 40 = .ok (.istore 8, 2) := by decide +kernel
theorem dX7_ofTwo_42 : decode cX7_ofTwo 42 = .ok (.iload 5, 2) := by decide +kernel
theorem dX7_ofTwo_44 : decode cX7_ofTwo 44 = .ok (.aload_n 0, 1) := by decide +kernel
theorem dX7_ofTwo_45 : decode cX7_ofTwo 45 = .ok (.getfield 19, 3) := by decide +kernel
theorem dX7_ofTwo_48 : decode cX7_ofTwo 48 = .ok (.iconst 0, 1) := by decide +kernel
theorem dX7_ofTwo_49 : decode cX7_ofTwo 49 = .ok (.iaload, 1) := by decide +kernel
theorem dX7_ofTwo_50 : decode cX7_ofTwo 50 = .ok (.iand, 1) := by decide +kernel
theorem dX7_ofTwo_51 : decode cX7_ofTwo 51 = .ok (.iload 6, 2) := by decide +kernel
theorem dX7_ofTwo_53 : decode cX7_ofTwo 53 = .ok (.aload_n 0, 1) := by decide +kernel
theorem dX7_ofTwo_54 : decode cX7_ofTwo 54 = .ok (.getfield 19, 3) := by decide +kernel
theorem dX7_ofTwo_57 : decode cX7_ofTwo 57 = .ok (.iconst 1, 1) := by decide +kernel
theorem dX7_ofTwo_58 : decode cX7_ofTwo 58 = .ok (.iaload, 1) := by decide +kernel
theorem dX7_ofTwo_59 : decode cX7_ofTwo 59 = .ok (.iand, 1) := by decide +kernel
theorem dX7_ofTwo_60 : decode cX7_ofTwo 60 = .ok (.ior, 1) := by decide +kernel
theorem dX7_ofTwo_61 : decode cX7_ofTwo 61 = .ok (.iload 7, 2) := by decide +kernel
theorem dX7_ofTwo_63 : decode cX7_ofTwo 63 = .ok (.aload_n 0, 1) := by decide +kernel
theorem dX7_ofTwo_64 : decode cX7_ofTwo 64 = .ok (.getfield 19, 3) := by decide +kernel
theorem dX7_ofTwo_67 : decode cX7_ofTwo 67 = .ok (.iconst 2, 1) := by decide +kernel
theorem dX7_ofTwo_68 : decode cX7_ofTwo 68 = .ok (.iaload, 1) := by decide +kernel
theorem dX7_ofTwo_69 : decode cX7_ofTwo 69 = .ok (.iand, 1) := by decide +kernel
theorem dX7_ofTwo_70 : decode cX7_ofTwo 70 = .ok (.ior, 1) := by decide +kernel
theorem dX7_ofTwo_71 : decode cX7_ofTwo 71 = .ok (.iload 8, 2) := by decide +kernel
theorem dX7_ofTwo_73 : decode cX7_ofTwo 73 = .ok (.aload_n 0, 1) := by decide +kernel
theorem dX7_ofTwo_74 : decode cX7_ofTwo 74 = .ok (.getfield 19, 3) := by decide +kernel
theorem dX7_ofTwo_77 : decode cX7_ofTwo 77 = .ok (.iconst 3, 1) := by decide +kernel
theorem dX7_ofTwo_78 : decode cX7_ofTwo 78 = .ok (.iaload, 1) := by decide +kernel
theorem dX7_ofTwo_79 : decode cX7_ofTwo 79 = .ok (.iand, 1) := by decide +kernel
theorem dX7_ofTwo_80 : decode cX7_ofTwo 80 = .ok (.ior, 1) := by decide +kernel
theorem dX7_ofTwo_81 : decode cX7_ofTwo 81 = .ok (.iload 5, 2) := by decide +kernel
theorem dX7_ofTwo_83 : decode cX7_ofTwo 83 = .ok (.aload_n 0, 1) := by decide +kernel
theorem dX7_ofTwo_84 : decode cX7_ofTwo 84 = .ok (.getfield 22, 3) := by decide +kernel
theorem dX7_ofTwo_87 : decode cX7_ofTwo 87 = .ok (.iconst 0, 1) := by decide +kernel
theorem dX7_ofTwo_88 : decode cX7_ofTwo 88 = .ok (.iaload, 1) := by decide +kernel
theorem dX7_ofTwo_89 : decode cX7_ofTwo 89 = .ok (.iand, 1) := by decide +kernel
theorem dX7_ofTwo_90 : decode cX7_ofTwo 90 = .ok (.iload 6, 2) := by decide +kernel
theorem dX7_ofTwo_92 : decode cX7_ofTwo 92 = .ok (.aload_n 0, 1) := by decide +kernel
theorem dX7_ofTwo_93 : decode cX7_ofTwo 93 = .ok (.getfield 22, 3) := by decide +kernel
theorem dX7_ofTwo_96 : decode cX7_ofTwo 96 = .ok (.iconst 1, 1) := by decide +kernel
theorem dX7_ofTwo_97 : decode cX7_ofTwo 97 = .ok (.iaload, 1) := by decide +kernel
theorem dX7_ofTwo_98 : decode cX7_ofTwo 98 = .ok (.iand, 1) := by decide +kernel
theorem dX7_ofTwo_99 : decode cX7_ofTwo 99 = .ok (.ior, 1) := by decide +kernel
theorem dX7_ofTwo_100 : decode cX7_ofTwo 100 = .ok (.iload 7, 2) := by decide +kernel
theorem dX7_ofTwo_102 : decode cX7_ofTwo 102 = .ok (.aload_n 0, 1) := by decide +kernel
theorem dX7_ofTwo_103 : decode cX7_ofTwo 103 = .ok (.getfield 22, 3) := by decide +kernel
theorem dX7_ofTwo_106 : decode cX7_ofTwo 106 = .ok (.iconst 2, 1) := by decide +kernel
theorem dX7_ofTwo_107 : decode cX7_ofTwo 107 = .ok (.iaload, 1) := by decide +kernel
theorem dX7_ofTwo_108 : decode cX7_ofTwo 108 = .ok (.iand, 1) := by decide +kernel
theorem dX7_ofTwo_109 : decode cX7_ofTwo 109 = .ok (.ior, 1) := by decide +kernel
theorem dX7_ofTwo_110 : decode cX7_ofTwo 110 = .ok (.iload 8, 2) := by decide +kernel
theorem dX7_ofTwo_112 : decode cX7_ofTwo 112 = .ok (.aload_n 0, 1) := by decide +kernel
theorem dX7_ofTwo_113 : decode cX7_ofTwo 113 = .ok (.getfield 22, 3) := by decide +kernel
theorem dX7_ofTwo_116 : decode cX7_ofTwo 116 = .ok (.iconst 3, 1) := by decide +kernel
theorem dX7_ofTwo_117 : decode cX7_ofTwo 117 = .ok (.iaload, 1) := by decide +kernel
theorem dX7_ofTwo_118 : decode cX7_ofTwo 118 = .ok (.iand, 1) := by decide +kernel
theorem dX7_ofTwo_119 : decode cX7_ofTwo 119 = .ok (.ior, 1) := by decide +kernel
theorem dX7_ofTwo_120 : decode cX7_ofTwo 120 = .ok (.invokestatic 74, 3) := by decide +kernel
theorem dX7_ofTwo_123 : decode cX7_ofTwo 123 = .ok (.lreturn, 1) := by decide +kernel
set_option maxRecDepth 20000 in
theorem ggX7_ofOne_X7_whereIs : GoodIn wsX7_ofOne wsX7_whereIs := goodIn_r _ [6, 7, 22, 23, 24, 25, 26, 27, 28, 29, 30, 31, 32, 33] (by decide +kernel) (by decide +kernel)
set_option maxRecDepth 20000 in
theorem gX7_ofOne_X7_whereIs : GoodIn wsX7_ofOne (wsV RX7 111 RX7 yX7_whereIs wsX7_whereIs) := goodIn_app (goodIn_of _ (by decide +kernel)) ggX7_ofOne_X7_whereIs
set_option maxRecDepth 20000 in
theorem ggX7_ofOne_X6_one : GoodIn wsX7_ofOne wsX6_one := goodIn_r _ [12, 13, 14, 15, 11, 16, 20, 21] (by decide +kernel) (by decide +kernel)
set_option maxRecDepth 20000 in
theorem gX7_ofOne_X6_one : GoodIn wsX7_ofOne (wsV RX7 118 RX6 yX6_one wsX6_one) := goodIn_app (goodIn_of _ (by decide +kernel)) ggX7_ofOne_X6_one
set_option maxRecDepth 20000 in
theorem ggX7_ofOne_X7_joined : GoodIn wsX7_ofOne wsX7_joined := goodIn_r _ [19] (by decide +kernel) (by decide +kernel)
set_option maxRecDepth 20000 in
theorem gX7_ofOne_X7_joined : GoodIn wsX7_ofOne (va_wsS RX7 74 yX7_joined wsX7_joined) := goodIn_app (goodIn_of _ (by decide +kernel)) ggX7_ofOne_X7_joined
theorem dX7_ofOne_0 : decode cX7_ofOne 0 = .ok (.iconst 0, 1) := by decide +kernel
theorem dX7_ofOne_1 : decode cX7_ofOne 1 = .ok (.istore 4, 2) := by decide +kernel
theorem dX7_ofOne_3 : decode cX7_ofOne 3 = .ok (.iconst 0, 1) := by decide +kernel
theorem dX7_ofOne_4 : decode cX7_ofOne 4 = .ok (.istore 5, 2) := by decide +kernel
theorem dX7_ofOne_6 : decode cX7_ofOne 6 = .ok (.iconst 0, 1) := by decide +kernel
theorem dX7_ofOne_7 : decode cX7_ofOne 7 = .ok (.istore 6, 2) := by decide +kernel
theorem dX7_ofOne_9 : decode cX7_ofOne 9 = .ok (.iload 6, 2) := by decide +kernel
theorem dX7_ofOne_11 : decode cX7_ofOne 11 = .ok (.aload_n 1, 1) := by decide +kernel
theorem dX7_ofOne_12 : decode cX7_ofOne 12 = .ok (.getfield 28, 3) := by decide +kernel
theorem dX7_ofOne_15 : decode cX7_ofOne 15 = .ok (.if_icmp .ge 62, 3) := by decide +kernel
theorem dX7_ofOne_18 : decode cX7_ofOne 18 = .ok (.aload_n 0, 1) := by decide +kernel
theorem dX7_ofOne_19 : decode cX7_ofOne 19 = .ok (.lload_n 2, 1) := by decide +kernel
theorem dX7_ofOne_20 : decode cX7_ofOne 20 = .ok (.iload 6, 2) := by decide +kernel
theorem dX7_ofOne_22 : decode cX7_ofOne 22 = .ok (.invokevirtual 111, 3) := by decide +kernel
theorem dX7_ofOne_25 : decode cX7_ofOne 25 = .ok (.istore 7, 2) := by decide +kernel
theorem dX7_ofOne_27 : decode cX7_ofOne 27 = .ok (.iload 4, 2) := by decide +kernel
theorem dX7_ofOne_29 : decode cX7_ofOne 29 = .ok (.aload_n 1, 1) := by decide +kernel
theorem dX7_ofOne_30 : decode cX7_ofOne 30 = .ok (.iload 6, 2) := by decide +kernel
theorem dX7_ofOne_32 : decode cX7_ofOne 32 = .ok (.invokevirtual 118, 3) := by decide +kernel
theorem dX7_ofOne_35 : decode cX7_ofOne 35 = .ok (.iconst 1, 1) := by decide +kernel
theorem dX7_ofOne_36 : decode cX7_ofOne 36 = .ok (.iand, 1) := by decide +kernel
theorem dX7_ofOne_37 : decode cX7_ofOne 37 = .ok (.ifCond .eq 8, 3) := by decide +kernel
theorem dX7_ofOne_40 : decode cX7_ofOne 40 = .ok (.iload 7, 2) := by decide +kernel
theorem dX7_ofOne_42 : decode cX7_ofOne 42 = .ok (.goto 4, 3) := by decide +kernel
theorem dX7_ofOne_45 : decode cX7_ofOne 45 = .ok (.iconst 0, 1) := by decide +kernel
theorem dX7_ofOne_46 : decode cX7_ofOne 46 = .ok (.ior, 1) := by decide +kernel
theorem dX7_ofOne_47 : decode cX7_ofOne 47 = .ok (.istore 4, 2) := by decide +kernel
theorem dX7_ofOne_49 : decode cX7_ofOne 49 = .ok (.iload 5, 2) := by decide +kernel
theorem dX7_ofOne_51 : decode cX7_ofOne 51 = .ok (.aload_n 1, 1) := by decide +kernel
theorem dX7_ofOne_52 : decode cX7_ofOne 52 = .ok (.iload 6, 2) := by decide +kernel
theorem dX7_ofOne_54 : decode cX7_ofOne 54 = .ok (.invokevirtual 118, 3) := by decide +kernel
theorem dX7_ofOne_57 : decode cX7_ofOne 57 = .ok (.iconst 2, 1) := by decide +kernel
theorem dX7_ofOne_58 : decode cX7_ofOne 58 = .ok (.iand, 1) := by decide +kernel
theorem dX7_ofOne_59 : decode cX7_ofOne 59 = .ok (.ifCond .eq 8, 3) := by decide +kernel
theorem dX7_ofOne_62 : decode cX7_ofOne 62 = .ok (.iload 7, 2) := by decide +kernel
theorem dX7_ofOne_64 : decode cX7_ofOne 64 = .ok (.goto 4, 3) := by decide +kernel
theorem dX7_ofOne_67 : decode cX7_ofOne 67 = .ok (.iconst 0, 1) := by decide +kernel
theorem dX7_ofOne_68 : decode cX7_ofOne 68 = .ok (.ior, 1) := by decide +kernel
theorem dX7_ofOne_69 : decode cX7_ofOne 69 = .ok (.istore 5, 2) := by decide +kernel
theorem dX7_ofOne_71 : decode cX7_ofOne 71 = .ok (.iinc 6 1, 3) := by decide +kernel
theorem dX7_ofOne_74 : decode cX7_ofOne 74 = .ok (.goto (-65), 3) := by decide +kernel
theorem dX7_ofOne_77 : decode cX7_ofOne 77 = .ok (.iload 4, 2) := by decide +kernel
theorem dX7_ofOne_79 : decode cX7_ofOne 79 = .ok (.iload 5, 2) := by decide +kernel
theorem dX7_ofOne_81 : decode cX7_ofOne 81 = .ok (.invokestatic 74, 3) := by decide +kernel
theorem dX7_ofOne_84 : decode cX7_ofOne 84 = .ok (.lreturn, 1) := by decide +kernel
theorem dX7_whereIs_0 : decode cX7_whereIs 0 = .ok (.lload_n 1, 1) := by decide +kernel
theorem dX7_whereIs_1 : decode cX7_whereIs 1 = .ok (.l2i, 1) := by decide +kernel
theorem dX7_whereIs_2 : decode cX7_whereIs 2 = .ok (.istore 4, 2) := by decide +kernel
theorem dX7_whereIs_4 : decode cX7_whereIs 4 = .ok (.lload_n 1, 1) := by decide +kernel
theorem dX7_whereIs_5 : decode cX7_whereIs 5 = .ok (.bipush 32, 2) := by decide +kernel
theorem dX7_whereIs_7 : decode cX7_whereIs 7 = .ok (.lushr, 1) := by decide +kernel
theorem dX7_whereIs_8 : decode cX7_whereIs 8 = .ok (.l2i, 1) := by decide +kernel
theorem dX7_whereIs_9 : decode cX7_whereIs 9 = .ok (.istore 5, 2) := by decide +kernel
theorem dX7_whereIs_11 : decode cX7_whereIs 11 = .ok (.iload_n 3, 1) := by decide +kernel
theorem dX7_whereIs_12 : decode cX7_whereIs 12 = .ok (.iconst 1, 1) := by decide +kernel
theorem dX7_whereIs_13 : decode cX7_whereIs 13 = .ok (.iand, 1) := by decide +kernel
theorem dX7_whereIs_14 : decode cX7_whereIs 14 = .ok (.ifCond .eq 8, 3) := by decide +kernel
theorem dX7_whereIs_17 : decode cX7_whereIs 17 = .ok (.iload 4, 2) := by decide +kernel
theorem dX7_whereIs_19 : decode cX7_whereIs 19 = .ok (.goto 7, 3) := by decide +kernel
theorem dX7_whereIs_22 : decode cX7_whereIs 22 = .ok (.iload 4, 2) := by decide +kernel
theorem dX7_whereIs_24 : decode cX7_whereIs 24 = .ok (.iconst (-1), 1) := by decide +kernel
theorem dX7_whereIs_25 : decode cX7_whereIs 25 = .ok (.ixor, 1) := by decide +kernel
theorem dX7_whereIs_26 : decode cX7_whereIs 26 = .ok (.iload_n 3, 1) := by decide +kernel
theorem dX7_whereIs_27 : decode cX7_whereIs 27 = .ok (.iconst 2, 1) := by decide +kernel
theorem dX7_whereIs_28 : decode cX7_whereIs 28 = .ok (.iand, 1) := by decide +kernel
theorem dX7_whereIs_29 : decode cX7_whereIs 29 = .ok (.ifCond .eq 8, 3) := by decide +kernel
theorem dX7_whereIs_32 : decode cX7_whereIs 32 = .ok (.iload 5, 2) := by decide +kernel
theorem dX7_whereIs_34 : decode cX7_whereIs 34 = .ok (.goto 7, 3) := by decide +kernel
theorem dX7_whereIs_37 : decode cX7_whereIs 37 = .ok (.iload 5, 2) := by decide +kernel
theorem dX7_whereIs_39 : decode cX7_whereIs 39 = .ok (.iconst (-1), 1) := by decide +kernel
theorem dX7_whereIs_40 : decode cX7_whereIs 40 = .ok (.ixor, 1) := by decide +kernel
theorem dX7_whereIs_41 : decode cX7_whereIs 41 = .ok (.iand, 1) := by decide +kernel
theorem dX7_whereIs_42 : decode cX7_whereIs 42 = .ok (.iconst 1, 1) := by decide +kernel
theorem dX7_whereIs_43 : decode cX7_whereIs 43 = .ok (.aload_n 0, 1) := by decide +kernel
theorem dX7_whereIs_44 : decode cX7_whereIs 44 = .ok (.getfield 67, 3) := by decide +kernel
theorem dX7_whereIs_47 : decode cX7_whereIs 47 = .ok (.ishl, 1) := by decide +kernel
theorem dX7_whereIs_48 : decode cX7_whereIs 48 = .ok (.iconst 1, 1) := by decide +kernel
theorem dX7_whereIs_49 : decode cX7_whereIs 49 = .ok (.isub, 1) := by decide +kernel
theorem dX7_whereIs_50 : decode cX7_whereIs 50 = .ok (.iand, 1) := by decide +kernel
theorem dX7_whereIs_51 : decode cX7_whereIs 51 = .ok (.ireturn, 1) := by decide +kernel
theorem dX7_joined_0 : decode cX7_joined 0 = .ok (.iload_n 1, 1) := by decide +kernel
theorem dX7_joined_1 : decode cX7_joined 1 = .ok (.i2l, 1) := by decide +kernel
theorem dX7_joined_2 : decode cX7_joined 2 = .ok (.bipush 32, 2) := by decide +kernel
theorem dX7_joined_4 : decode cX7_joined 4 = .ok (.lshl, 1) := by decide +kernel
theorem dX7_joined_5 : decode cX7_joined 5 = .ok (.iload_n 0, 1) := by decide +kernel
theorem dX7_joined_6 : decode cX7_joined 6 = .ok (.i2l, 1) := by decide +kernel
theorem dX7_joined_7 : decode cX7_joined 7 = .ok (.lor, 1) := by decide +kernel
theorem dX7_joined_8 : decode cX7_joined 8 = .ok (.lreturn, 1) := by decide +kernel
set_option maxRecDepth 20000 in
theorem ggX7_add_X7_slotOf : GoodIn wsX7_add wsX7_slotOf := goodIn_r _ [8, 9, 1, 3, 10, 11, 12, 13, 14, 15, 16, 17, 18, 19, 20, 21] (by decide +kernel) (by decide +kernel)
set_option maxRecDepth 20000 in
theorem gX7_add_X7_slotOf : GoodIn wsX7_add (wsV RX7 82 RX7 yX7_slotOf wsX7_slotOf) := goodIn_app (goodIn_of _ (by decide +kernel)) ggX7_add_X7_slotOf
theorem dX7_add_0 : decode cX7_add 0 = .ok (.aload_n 0, 1) := by decide +kernel
theorem dX7_add_1 : decode cX7_add 1 = .ok (.lload_n 1, 1) := by decide +kernel
theorem dX7_add_2 : decode cX7_add 2 = .ok (.invokevirtual 82, 3) := by decide +kernel
theorem dX7_add_5 : decode cX7_add 5 = .ok (.istore_n 3, 1) := by decide +kernel
theorem dX7_add_6 : decode cX7_add 6 = .ok (.aload_n 0, 1) := by decide +kernel
theorem dX7_add_7 : decode cX7_add 7 = .ok (.getfield 13, 3) := by decide +kernel
theorem dX7_add_10 : decode cX7_add 10 = .ok (.iload_n 3, 1) := by decide +kernel
theorem dX7_add_11 : decode cX7_add 11 = .ok (.iaload, 1) := by decide +kernel
theorem dX7_add_12 : decode cX7_add 12 = .ok (.ifCond .eq 5, 3) := by decide +kernel
theorem dX7_add_15 : decode cX7_add 15 = .ok (.iconst 1, 1) := by decide +kernel
theorem dX7_add_16 : decode cX7_add 16 = .ok (.ireturn, 1) := by decide +kernel
theorem dX7_add_17 : decode cX7_add 17 = .ok (.aload_n 0, 1) := by decide +kernel
theorem dX7_add_18 : decode cX7_add 18 = .ok (.getfield 46, 3) := by decide +kernel
theorem dX7_add_21 : decode cX7_add 21 = .ok (.sipush 200, 3) := by decide +kernel
theorem dX7_add_24 : decode cX7_add 24 = .ok (.if_icmp .lt 5, 3) := by decide +kernel
theorem dX7_add_27 : decode cX7_add 27 = .ok (.iconst 0, 1) := by decide +kernel
theorem dX7_add_28 : decode cX7_add 28 = .ok (.ireturn, 1) := by decide +kernel
theorem dX7_add_29 : decode cX7_add 29 = .ok (.aload_n 0, 1) := by decide +kernel
theorem dX7_add_30 : decode cX7_add 30 = .ok (.getfield 9, 3) := by decide +kernel
theorem dX7_add_33 : decode cX7_add 33 = .ok (.aload_n 0, 1) := by decide +kernel
theorem dX7_add_34 : decode cX7_add 34 = .ok (.getfield 46, 3) := by decide +kernel
theorem dX7_add_37 : decode cX7_add 37 = .ok (.lload_n 1, 1) := by decide +kernel
theorem dX7_add_38 : decode cX7_add 38 = .ok (.lastore, 1) := by decide +kernel
theorem dX7_add_39 : decode cX7_add 39 = .ok (.aload_n 0, 1) := by decide +kernel
theorem dX7_add_40 : decode cX7_add 40 = .ok (.dup, 1) := by decide +kernel
theorem dX7_add_41 : decode cX7_add 41 = .ok (.getfield 46, 3) := by decide +kernel
theorem dX7_add_44 : decode cX7_add 44 = .ok (.iconst 1, 1) := by decide +kernel
theorem dX7_add_45 : decode cX7_add 45 = .ok (.iadd, 1) := by decide +kernel
theorem dX7_add_46 : decode cX7_add 46 = .ok (.putfield 46, 3) := by decide +kernel
theorem dX7_add_49 : decode cX7_add 49 = .ok (.aload_n 0, 1) := by decide +kernel
theorem dX7_add_50 : decode cX7_add 50 = .ok (.getfield 13, 3) := by decide +kernel
theorem dX7_add_53 : decode cX7_add 53 = .ok (.iload_n 3, 1) := by decide +kernel
theorem dX7_add_54 : decode cX7_add 54 = .ok (.aload_n 0, 1) := by decide +kernel
theorem dX7_add_55 : decode cX7_add 55 = .ok (.getfield 46, 3) := by decide +kernel
theorem dX7_add_58 : decode cX7_add 58 = .ok (.iastore, 1) := by decide +kernel
theorem dX7_add_59 : decode cX7_add 59 = .ok (.iconst 1, 1) := by decide +kernel
theorem dX7_add_60 : decode cX7_add 60 = .ok (.ireturn, 1) := by decide +kernel
theorem dX7_slotOf_0 : decode cX7_slotOf 0 = .ok (.lload_n 1, 1) := by decide +kernel
theorem dX7_slotOf_1 : decode cX7_slotOf 1 = .ok (.ldc2_w 122, 3) := by decide +kernel
theorem dX7_slotOf_4 : decode cX7_slotOf 4 = .ok (.lmul, 1) := by decide +kernel
theorem dX7_slotOf_5 : decode cX7_slotOf 5 = .ok (.bipush 55, 2) := by decide +kernel
theorem dX7_slotOf_7 : decode cX7_slotOf 7 = .ok (.lushr, 1) := by decide +kernel
theorem dX7_slotOf_8 : decode cX7_slotOf 8 = .ok (.l2i, 1) := by decide +kernel
theorem dX7_slotOf_9 : decode cX7_slotOf 9 = .ok (.istore_n 3, 1) := by decide +kernel
theorem dX7_slotOf_10 : decode cX7_slotOf 10 = .ok (.iconst 0, 1) := by decide +kernel
theorem dX7_slotOf_11 : decode cX7_slotOf 11 = .ok (.istore 4, 2) := by decide +kernel
theorem dX7_slotOf_13 : decode cX7_slotOf 13 = .ok (.iload 4, 2) := by decide +kernel
theorem dX7_slotOf_15 : decode cX7_slotOf 15 = .ok (.sipush 512, 3) := by decide +kernel
theorem dX7_slotOf_18 : decode cX7_slotOf 18 = .ok (.if_icmp .ge 58, 3) := by decide +kernel
theorem dX7_slotOf_21 : decode cX7_slotOf 21 = .ok (.iload_n 3, 1) := by decide +kernel
theorem dX7_slotOf_22 : decode cX7_slotOf 22 = .ok (.iload 4, 2) := by decide +kernel
theorem dX7_slotOf_24 : decode cX7_slotOf 24 = .ok (.iadd, 1) := by decide +kernel
theorem dX7_slotOf_25 : decode cX7_slotOf 25 = .ok (.sipush 511, 3) := by decide +kernel
theorem dX7_slotOf_28 : decode cX7_slotOf 28 = .ok (.iand, 1) := by decide +kernel
theorem dX7_slotOf_29 : decode cX7_slotOf 29 = .ok (.istore 5, 2) := by decide +kernel
theorem dX7_slotOf_31 : decode cX7_slotOf 31 = .ok (.aload_n 0, 1) := by decide +kernel
theorem dX7_slotOf_32 : decode cX7_slotOf 32 = .ok (.getfield 13, 3) := by decide +kernel
theorem dX7_slotOf_35 : decode cX7_slotOf 35 = .ok (.iload 5, 2) := by decide +kernel
theorem dX7_slotOf_37 : decode cX7_slotOf 37 = .ok (.iaload, 1) := by decide +kernel
theorem dX7_slotOf_38 : decode cX7_slotOf 38 = .ok (.iconst 1, 1) := by decide +kernel
theorem dX7_slotOf_39 : decode cX7_slotOf 39 = .ok (.isub, 1) := by decide +kernel
theorem dX7_slotOf_40 : decode cX7_slotOf 40 = .ok (.istore 6, 2) := by decide +kernel
theorem dX7_slotOf_42 : decode cX7_slotOf 42 = .ok (.iload 6, 2) := by decide +kernel
theorem dX7_slotOf_44 : decode cX7_slotOf 44 = .ok (.ifCond .lt 23, 3) := by decide +kernel
theorem dX7_slotOf_47 : decode cX7_slotOf 47 = .ok (.iload 6, 2) := by decide +kernel
theorem dX7_slotOf_49 : decode cX7_slotOf 49 = .ok (.sipush 200, 3) := by decide +kernel
theorem dX7_slotOf_52 : decode cX7_slotOf 52 = .ok (.if_icmp .ge 15, 3) := by decide +kernel
theorem dX7_slotOf_55 : decode cX7_slotOf 55 = .ok (.aload_n 0, 1) := by decide +kernel
theorem dX7_slotOf_56 : decode cX7_slotOf 56 = .ok (.getfield 9, 3) := by decide +kernel
theorem dX7_slotOf_59 : decode cX7_slotOf 59 = .ok (.iload 6, 2) := by decide +kernel
theorem dX7_slotOf_61 : decode cX7_slotOf 61 = .ok (.laload, 1) := by decide +kernel
theorem dX7_slotOf_62 : decode cX7_slotOf 62 = .ok (.lload_n 1, 1) := by decide +kernel
theorem dX7_slotOf_63 : decode cX7_slotOf 63 = .ok (.lcmp, 1) := by decide +kernel
theorem dX7_slotOf_64 : decode cX7_slotOf 64 = .ok (.ifCond .ne 6, 3) := by decide +kernel
theorem dX7_slotOf_67 : decode cX7_slotOf 67 = .ok (.iload 5, 2) := by decide +kernel
theorem dX7_slotOf_69 : decode cX7_slotOf 69 = .ok (.ireturn, 1) := by decide +kernel
theorem dX7_slotOf_70 : decode cX7_slotOf 70 = .ok (.iinc 4 1, 3) := by decide +kernel
theorem dX7_slotOf_73 : decode cX7_slotOf 73 = .ok (.goto (-60), 3) := by decide +kernel
theorem dX7_slotOf_76 : decode cX7_slotOf 76 = .ok (.iconst 0, 1) := by decide +kernel
theorem dX7_slotOf_77 : decode cX7_slotOf 77 = .ok (.ireturn, 1) := by decide +kernel
set_option maxRecDepth 20000 in
theorem ggX8_init_X6_init : GoodIn wsX8_init wsX6_init := goodIn_r _ [30, 31, 2, 3, 25, 32, 67, 68] (by decide +kernel) (by decide +kernel)
set_option maxRecDepth 20000 in
theorem gX8_init_X6_init_n9 : GoodIn wsX8_init (wsX6_init) := ggX8_init_X6_init
set_option maxRecDepth 20000 in
theorem ggX8_init_X5_init : GoodIn wsX8_init wsX5_init := goodIn_r _ [34, 35, 2, 3, 36, 5, 6, 37, 29, 30, 31, 25, 32, 67, 68, 81, 82, 83, 84] (by decide +kernel) (by decide +kernel)
set_option maxRecDepth 20000 in
theorem gX8_init_X5_init_n21 : GoodIn wsX8_init (wsX5_init) := ggX8_init_X5_init
set_option maxRecDepth 20000 in
theorem ggX8_init_X2_init : GoodIn wsX8_init wsX2_init := goodIn_r _ [39, 40, 2, 3, 25, 41, 42, 85, 86, 87] (by decide +kernel) (by decide +kernel)
set_option maxRecDepth 20000 in
theorem gX8_init_X2_init_n28 : GoodIn wsX8_init (wsX2_init) := ggX8_init_X2_init
set_option maxRecDepth 20000 in
theorem ggX8_init_X1_init : GoodIn wsX8_init wsX1_init := goodIn_r _ [44, 45, 2, 3, 46, 25, 47, 88, 89, 90] (by decide +kernel) (by decide +kernel)
set_option maxRecDepth 20000 in
theorem gX8_init_X1_init_n35 : GoodIn wsX8_init (wsX1_init) := ggX8_init_X1_init
set_option maxRecDepth 20000 in
theorem ggX8_init_X7_init : GoodIn wsX8_init wsX7_init := goodIn_r _ [49, 50, 2, 3, 51, 52, 25, 53, 54, 55, 91, 92, 93, 94, 95, 96, 97, 98, 99, 100, 101, 102] (by decide +kernel) (by decide +kernel)
set_option maxRecDepth 20000 in
theorem gX8_init_X7_init_n42 : GoodIn wsX8_init (wsX7_init) := ggX8_init_X7_init
set_option maxRecDepth 20000 in
theorem ggX8_init_X6_startOver : GoodIn wsX8_init wsX6_startOver := goodIn_r _ [59, 60, 32, 61, 62, 6, 63, 64, 65, 66, 67, 68] (by decide +kernel) (by decide +kernel)
set_option maxRecDepth 20000 in
theorem gX8_init_X6_startOver : GoodIn wsX8_init (wsV RX8 58 RX6 yX6_startOver wsX6_startOver) := goodIn_app (goodIn_of _ (by decide +kernel)) ggX8_init_X6_startOver
theorem dX8_init_0 : decode cX8_init 0 = .ok (.aload_n 0, 1) := by decide +kernel
theorem dX8_init_1 : decode cX8_init 1 = .ok (.invokespecial 1, 3) := by decide +kernel
theorem dX8_init_4 : decode cX8_init 4 = .ok (.aload_n 0, 1) := by decide +kernel
theorem dX8_init_5 : decode cX8_init 5 = .ok (.new 7, 3) := by decide +kernel
theorem dX8_init_8 : decode cX8_init 8 = .ok (.dup, 1) := by decide +kernel
theorem dX8_init_9 : decode cX8_init 9 = .ok (.invokespecial 9, 3) := by decide +kernel
theorem dX8_init_12 : decode cX8_init 12 = .ok (.putfield 10, 3) := by decide +kernel
theorem dX8_init_15 : decode cX8_init 15 = .ok (.aload_n 0, 1) := by decide +kernel
theorem dX8_init_16 : decode cX8_init 16 = .ok (.new 7, 3) := by decide +kernel
theorem dX8_init_19 : decode cX8_init 19 = .ok (.dup, 1) := by decide +kernel
theorem dX8_init_20 : decode cX8_init 20 = .ok (.invokespecial 9, 3) := by decide +kernel
theorem dX8_init_23 : decode cX8_init 23 = .ok (.putfield 16, 3) := by decide +kernel
theorem dX8_init_26 : decode cX8_init 26 = .ok (.aload_n 0, 1) := by decide +kernel
theorem dX8_init_27 : decode cX8_init 27 = .ok (.new 19, 3) := by decide +kernel
theorem dX8_init_30 : decode cX8_init 30 = .ok (.dup, 1) := by decide +kernel
theorem dX8_init_31 : decode cX8_init 31 = .ok (.invokespecial 21, 3) := by decide +kernel
theorem dX8_init_34 : decode cX8_init 34 = .ok (.putfield 22, 3) := by decide +kernel
theorem dX8_init_37 : decode cX8_init 37 = .ok (.aload_n 0, 1) := by decide +kernel
theorem dX8_init_38 : decode cX8_init 38 = .ok (.new 26, 3) := by decide +kernel
theorem dX8_init_41 : decode cX8_init 41 = .ok (.dup, 1) := by decide +kernel
theorem dX8_init_42 : decode cX8_init 42 = .ok (.invokespecial 28, 3) := by decide +kernel
theorem dX8_init_45 : decode cX8_init 45 = .ok (.putfield 29, 3) := by decide +kernel
theorem dX8_init_48 : decode cX8_init 48 = .ok (.aload_n 0, 1) := by decide +kernel
theorem dX8_init_49 : decode cX8_init 49 = .ok (.new 33, 3) := by decide +kernel
theorem dX8_init_52 : decode cX8_init 52 = .ok (.dup, 1) := by decide +kernel
theorem dX8_init_53 : decode cX8_init 53 = .ok (.invokespecial 35, 3) := by decide +kernel
theorem dX8_init_56 : decode cX8_init 56 = .ok (.putfield 36, 3) := by decide +kernel
theorem dX8_init_59 : decode cX8_init 59 = .ok (.aload_n 0, 1) := by decide +kernel
theorem dX8_init_60 : decode cX8_init 60 = .ok (.new 40, 3) := by decide +kernel
theorem dX8_init_63 : decode cX8_init 63 = .ok (.dup, 1) := by decide +kernel
theorem dX8_init_64 : decode cX8_init 64 = .ok (.invokespecial 42, 3) := by decide +kernel
theorem dX8_init_67 : decode cX8_init 67 = .ok (.putfield 43, 3) := by decide +kernel
theorem dX8_init_70 : decode cX8_init 70 = .ok (.aload_n 0, 1) := by decide +kernel
theorem dX8_init_71 : decode cX8_init 71 = .ok (.bipush 60, 2) := by decide +kernel
theorem dX8_init_73 : decode cX8_init 73 = .ok (.newarray .int, 2) := by decide +kernel
theorem dX8_init_75 : decode cX8_init 75 = .ok (.putfield 47, 3) := by decide +kernel
theorem dX8_init_78 : decode cX8_init 78 = .ok (.aload_n 0, 1) := by decide +kernel
theorem dX8_init_79 : decode cX8_init 79 = .ok (.bipush 6, 2) := by decide +kernel
theorem dX8_init_81 : decode cX8_init 81 = .ok (.newarray .int, 2) := by decide +kernel
theorem dX8_init_83 : decode cX8_init 83 = .ok (.putfield 51, 3) := by decide +kernel
theorem dX8_init_86 : decode cX8_init 86 = .ok (.aload_n 0, 1) := by decide +kernel
theorem dX8_init_87 : decode cX8_init 87 = .ok (.iconst 2, 1) := by decide +kernel
theorem dX8_init_88 : decode cX8_init 88 = .ok (.anewarray 7, 3) := by decide +kernel
theorem dX8_init_91 : decode cX8_init 91 = .ok (.dup, 1) := by decide +kernel
theorem dX8_init_92 : decode cX8_init 92 = .ok (.iconst 0, 1) := by decide +kernel
theorem dX8_init_93 : decode cX8_init 93 = .ok (.new 7, 3) := by decide +kernel
theorem dX8_init_96 : decode cX8_init 96 = .ok (.dup, 1) := by decide +kernel
theorem dX8_init_97 : decode cX8_init 97 = .ok (.invokespecial 9, 3) := by decide +kernel
theorem dX8_init_100 : decode cX8_init 100 = .ok (.aastore, 1) := by decide +kernel
theorem dX8_init_101 : decode cX8_init 101 = .ok (.dup, 1) := by decide +kernel
theorem dX8_init_102 : decode cX8_init 102 = .ok (.iconst 1, 1) := by decide +kernel
theorem dX8_init_103 : decode cX8_init 103 = .ok (.new 7, 3) := by decide +kernel
theorem dX8_init_106 : decode cX8_init 106 = .ok (.dup, 1) := by decide +kernel
theorem dX8_init_107 : decode cX8_init 107 = .ok (.invokespecial 9, 3) := by decide +kernel
theorem dX8_init_110 : decode cX8_init 110 = .ok (.aastore, 1) := by decide +kernel
theorem dX8_init_111 : decode cX8_init 111 = .ok (.putfield 54, 3) := by decide +kernel
theorem dX8_init_114 : decode cX8_init 114 = .ok (.aload_n 0, 1) := by decide +kernel
theorem dX8_init_115 : decode cX8_init 115 = .ok (.getfield 10, 3) := by decide +kernel
theorem dX8_init_118 : decode cX8_init 118 = .ok (.iconst 2, 1) := by decide +kernel
theorem dX8_init_119 : decode cX8_init 119 = .ok (.invokevirtual 58, 3) := by decide +kernel
theorem dX8_init_122 : decode cX8_init 122 = .ok (.return_, 1) := by decide +kernel
theorem dX8_type_0 : decode cX8_type 0 = .ok (.iload_n 1, 1) := by decide +kernel
theorem dX8_type_1 : decode cX8_type 1 = .ok (.ifCond .lt 10, 3) := by decide +kernel
theorem dX8_type_4 : decode cX8_type 4 = .ok (.iload_n 1, 1) := by decide +kernel
theorem dX8_type_5 : decode cX8_type 5 = .ok (.sipush 255, 3) := by decide +kernel
theorem dX8_type_8 : decode cX8_type 8 = .ok (.if_icmp .le 6, 3) := by decide +kernel
theorem dX8_type_11 : decode cX8_type 11 = .ok (.bipush (-2), 2) := by decide +kernel
theorem dX8_type_13 : decode cX8_type 13 = .ok (.ireturn, 1) := by decide +kernel
theorem dX8_type_14 : decode cX8_type 14 = .ok (.aload_n 0, 1) := by decide +kernel
theorem dX8_type_15 : decode cX8_type 15 = .ok (.getfield 62, 3) := by decide +kernel
theorem dX8_type_18 : decode cX8_type 18 = .ok (.aload_n 0, 1) := by decide +kernel
theorem dX8_type_19 : decode cX8_type 19 = .ok (.getfield 47, 3) := by decide +kernel
theorem dX8_type_22 : decode cX8_type 22 = .ok (.arraylength, 1) := by decide +kernel
theorem dX8_type_23 : decode cX8_type 23 = .ok (.if_icmp .lt 6, 3) := by decide +kernel
theorem dX8_type_26 : decode cX8_type 26 = .ok (.bipush (-4), 2) := by decide +kernel
theorem dX8_type_28 : decode cX8_type 28 = .ok (.ireturn, 1) := by decide +kernel
theorem dX8_type_29 : decode cX8_type 29 = .ok (.aload_n 0, 1) := by decide +kernel
theorem dX8_type_30 : decode cX8_type 30 = .ok (.getfield 47, 3) := by decide +kernel
theorem dX8_type_33 : decode cX8_type 33 = .ok (.aload_n 0, 1) := by decide +kernel
theorem dX8_type_34 : decode cX8_type 34 = .ok (.getfield 62, 3) := by decide +kernel
theorem dX8_type_37 : decode cX8_type 37 = .ok (.iload_n 1, 1) := by decide +kernel
theorem dX8_type_38 : decode cX8_type 38 = .ok (.iastore, 1) := by decide +kernel
theorem dX8_type_39 : decode cX8_type 39 = .ok (.aload_n 0, 1) := by decide +kernel
theorem dX8_type_40 : decode cX8_type 40 = .ok (.dup, 1) := by decide +kernel
theorem dX8_type_41 : decode cX8_type 41 = .ok (.getfield 62, 3) := by decide +kernel
theorem dX8_type_44 : decode cX8_type 44 = .ok (.iconst 1, 1) := by decide +kernel
theorem dX8_type_45 : decode cX8_type 45 = .ok (.iadd, 1) := by decide +kernel
theorem dX8_type_46 : decode cX8_type 46 = .ok (.putfield 62, 3) := by decide +kernel
theorem dX8_type_49 : decode cX8_type 49 = .ok (.aload_n 0, 1) := by decide +kernel
theorem dX8_type_50 : decode cX8_type 50 = .ok (.getfield 62, 3) := by decide +kernel
theorem dX8_type_53 : decode cX8_type 53 = .ok (.ireturn, 1) := by decide +kernel
theorem dX8_clear_0 : decode cX8_clear 0 = .ok (.aload_n 0, 1) := by decide +kernel
theorem dX8_clear_1 : decode cX8_clear 1 = .ok (.getfield 62, 3) := by decide +kernel
theorem dX8_clear_4 : decode cX8_clear 4 = .ok (.istore_n 1, 1) := by decide +kernel
theorem dX8_clear_5 : decode cX8_clear 5 = .ok (.aload_n 0, 1) := by decide +kernel
theorem dX8_clear_6 : decode cX8_clear 6 = .ok (.iconst 0, 1) := by decide +kernel
theorem dX8_clear_7 : decode cX8_clear 7 = .ok (.putfield 62, 3) := by decide +kernel
theorem dX8_clear_10 : decode cX8_clear 10 = .ok (.iload_n 1, 1) := by decide +kernel
theorem dX8_clear_11 : decode cX8_clear 11 = .ok (.ireturn, 1) := by decide +kernel
set_option maxRecDepth 20000 in
theorem ggX8_tables_X5_faultOf : GoodIn wsX8_tables wsX5_faultOf := goodIn_r _ [14, 15, 16, 17, 18, 19, 20, 21, 22, 23, 24, 25, 26, 27, 28, 29, 30, 31, 32, 33, 13, 34, 35, 36, 37, 38, 39, 40, 41, 42, 43, 44, 45, 46, 47, 48, 49, 50, 51, 52, 53, 54, 55, 56, 57, 58, 59, 60, 61, 62, 63, 64, 65, 66, 67, 68, 69, 70, 71, 72, 73, 74, 75, 76, 77, 78, 105, 106, 107, 108, 109, 110] (by decide +kernel) (by decide +kernel)
set_option maxRecDepth 20000 in
theorem gX8_tables_X5_faultOf : GoodIn wsX8_tables (wsV RX8 66 RX5 yX5_faultOf wsX5_faultOf) := goodIn_app (goodIn_of _ (by decide +kernel)) ggX8_tables_X5_faultOf
set_option maxRecDepth 20000 in
theorem ggX8_tables_X6_copyFrom : GoodIn wsX8_tables wsX6_copyFrom := goodIn_r _ [82, 23, 24, 83, 84, 85, 86, 109, 110] (by decide +kernel) (by decide +kernel)
set_option maxRecDepth 20000 in
theorem gX8_tables_X6_copyFrom : GoodIn wsX8_tables (wsV RX8 73 RX6 yX6_copyFrom wsX6_copyFrom) := goodIn_app (goodIn_of _ (by decide +kernel)) ggX8_tables_X6_copyFrom
set_option maxRecDepth 20000 in
theorem ggX8_tables_X2_loseAll : GoodIn wsX8_tables wsX2_loseAll := goodIn_r _ [91, 92, 111, 112, 113] (by decide +kernel) (by decide +kernel)
set_option maxRecDepth 20000 in
theorem gX8_tables_X2_loseAll : GoodIn wsX8_tables (wsV RX8 77 RX2 yX2_loseAll wsX2_loseAll) := goodIn_app (goodIn_of _ (by decide +kernel)) ggX8_tables_X2_loseAll
theorem dX8_tables_0 : decode cX8_tables 0 = .ok (.aload_n 0, 1) := by decide +kernel
theorem dX8_tables_1 : decode cX8_tables 1 = .ok (.getfield 22, 3) := by decide +kernel
theorem dX8_tables_4 : decode cX8_tables 4 = .ok (.aload_n 0, 1) := by decide +kernel
theorem dX8_tables_5 : decode cX8_tables 5 = .ok (.getfield 47, 3) := by decide +kernel
theorem dX8_tables_8 : decode cX8_tables 8 = .ok (.aload_n 0, 1) := by decide +kernel
theorem dX8_tables_9 : decode cX8_tables 9 = .ok (.getfield 62, 3) := by decide +kernel
theorem dX8_tables_12 : decode cX8_tables 12 = .ok (.invokevirtual 66, 3) := by decide +kernel
theorem dX8_tables_15 : decode cX8_tables 15 = .ok (.istore_n 1, 1) := by decide +kernel
theorem dX8_tables_16 : decode cX8_tables 16 = .ok (.iload_n 1, 1) := by decide +kernel
theorem dX8_tables_17 : decode cX8_tables 17 = .ok (.iconst (-1), 1) := by decide +kernel
theorem dX8_tables_18 : decode cX8_tables 18 = .ok (.if_icmp .eq 8, 3) := by decide +kernel
theorem dX8_tables_21 : decode cX8_tables 21 = .ok (.bipush (-10), 2) := by decide +kernel
theorem dX8_tables_23 : decode cX8_tables 23 = .ok (.iload_n 1, 1) := by decide +kernel
theorem dX8_tables_24 : decode cX8_tables 24 = .ok (.isub, 1) := by decide +kernel
theorem dX8_tables_25 : decode cX8_tables 25 = .ok (.ireturn, 1) := by decide +kernel
theorem dX8_tables_26 : decode cX8_tables 26 = .ok (.aload_n 0, 1) := by decide +kernel
theorem dX8_tables_27 : decode cX8_tables 27 = .ok (.getfield 10, 3) := by decide +kernel
theorem dX8_tables_30 : decode cX8_tables 30 = .ok (.aload_n 0, 1) := by decide +kernel
theorem dX8_tables_31 : decode cX8_tables 31 = .ok (.getfield 22, 3) := by decide +kernel
theorem dX8_tables_34 : decode cX8_tables 34 = .ok (.getfield 70, 3) := by decide +kernel
theorem dX8_tables_37 : decode cX8_tables 37 = .ok (.invokevirtual 73, 3) := by decide +kernel
theorem dX8_tables_40 : decode cX8_tables 40 = .ok (.aload_n 0, 1) := by decide +kernel
theorem dX8_tables_41 : decode cX8_tables 41 = .ok (.iconst 0, 1) := by decide +kernel
theorem dX8_tables_42 : decode cX8_tables 42 = .ok (.putfield 62, 3) := by decide +kernel
theorem dX8_tables_45 : decode cX8_tables 45 = .ok (.aload_n 0, 1) := by decide +kernel
theorem dX8_tables_46 : decode cX8_tables 46 = .ok (.getfield 29, 3) := by decide +kernel
theorem dX8_tables_49 : decode cX8_tables 49 = .ok (.invokevirtual 77, 3) := by decide +kernel
theorem dX8_tables_52 : decode cX8_tables 52 = .ok (.aload_n 0, 1) := by decide +kernel
theorem dX8_tables_53 : decode cX8_tables 53 = .ok (.iconst 0, 1) := by decide +kernel
theorem dX8_tables_54 : decode cX8_tables 54 = .ok (.putfield 80, 3) := by decide +kernel
theorem dX8_tables_57 : decode cX8_tables 57 = .ok (.aload_n 0, 1) := by decide +kernel
theorem dX8_tables_58 : decode cX8_tables 58 = .ok (.iconst 0, 1) := by decide +kernel
theorem dX8_tables_59 : decode cX8_tables 59 = .ok (.putfield 83, 3) := by decide +kernel
theorem dX8_tables_62 : decode cX8_tables 62 = .ok (.aload_n 0, 1) := by decide +kernel
theorem dX8_tables_63 : decode cX8_tables 63 = .ok (.getfield 22, 3) := by decide +kernel
theorem dX8_tables_66 : decode cX8_tables 66 = .ok (.getfield 86, 3) := by decide +kernel
theorem dX8_tables_69 : decode cX8_tables 69 = .ok (.ireturn, 1) := by decide +kernel
set_option maxRecDepth 20000 in
theorem ggX8_f_X6_has : GoodIn wsX8_f wsX6_has := goodIn_r _ [6, 7, 28, 29] (by decide +kernel) (by decide +kernel)
set_option maxRecDepth 20000 in
theorem gX8_f_X6_has : GoodIn wsX8_f (wsV RX8 89 RX6 yX6_has wsX6_has) := goodIn_app (goodIn_of _ (by decide +kernel)) ggX8_f_X6_has
set_option maxRecDepth 20000 in
theorem ggX8_f_X6_two : GoodIn wsX8_f wsX6_two := goodIn_r _ [11, 12, 13, 14, 5, 15, 28, 29] (by decide +kernel) (by decide +kernel)
set_option maxRecDepth 20000 in
theorem gX8_f_X6_two : GoodIn wsX8_f (wsV RX8 93 RX6 yX6_two wsX6_two) := goodIn_app (goodIn_of _ (by decide +kernel)) ggX8_f_X6_two
theorem dX8_f_0 : decode cX8_f 0 = .ok (.aload_n 0, 1) := by decide +kernel
theorem dX8_f_1 : decode cX8_f 1 = .ok (.getfield 10, 3) := by decide +kernel
theorem dX8_f_4 : decode cX8_f 4 = .ok (.iload_n 1, 1) := by decide +kernel
theorem dX8_f_5 : decode cX8_f 5 = .ok (.invokevirtual 89, 3) := by decide +kernel
theorem dX8_f_8 : decode cX8_f 8 = .ok (.ifCond .eq 26, 3) := by decide +kernel
theorem dX8_f_11 : decode cX8_f 11 = .ok (.aload_n 0, 1) := by decide +kernel
theorem dX8_f_12 : decode cX8_f 12 = .ok (.getfield 10, 3) := by decide +kernel
theorem dX8_f_15 : decode cX8_f 15 = .ok (.iload_n 2, 1) := by decide +kernel
theorem dX8_f_16 : decode cX8_f 16 = .ok (.invokevirtual 89, 3) := by decide +kernel
theorem dX8_f_19 : decode cX8_f 19 = .ok (.ifCond .eq 15, 3) := by decide +kernel
theorem dX8_f_22 : decode cX8_f 22 = .ok (.aload_n 0, 1) := by decide +kernel
theorem dX8_f_23 : decode cX8_f 23 = .ok (.getfield 10, 3) := by decide +kernel
theorem dX8_f_26 : decode cX8_f 26 = .ok (.iload_n 1, 1) := by decide +kernel
theorem dX8_f_27 : decode cX8_f 27 = .ok (.iload_n 2, 1) := by decide +kernel
theorem dX8_f_28 : decode cX8_f 28 = .ok (.invokevirtual 93, 3) := by decide +kernel
theorem dX8_f_31 : decode cX8_f 31 = .ok (.goto 5, 3) := by decide +kernel
theorem dX8_f_34 : decode cX8_f 34 = .ok (.bipush (-2), 2) := by decide +kernel
theorem dX8_f_36 : decode cX8_f 36 = .ok (.ireturn, 1) := by decide +kernel
set_option maxRecDepth 20000 in
theorem ggX8_g_X6_has : GoodIn wsX8_g wsX6_has := goodIn_r _ [6, 7, 28, 29] (by decide +kernel) (by decide +kernel)
set_option maxRecDepth 20000 in
theorem gX8_g_X6_has : GoodIn wsX8_g (wsV RX8 89 RX6 yX6_has wsX6_has) := goodIn_app (goodIn_of _ (by decide +kernel)) ggX8_g_X6_has
set_option maxRecDepth 20000 in
theorem ggX8_g_X6_one : GoodIn wsX8_g wsX6_one := goodIn_r _ [11, 12, 13, 14, 5, 15, 28, 29] (by decide +kernel) (by decide +kernel)
set_option maxRecDepth 20000 in
theorem gX8_g_X6_one : GoodIn wsX8_g (wsV RX8 97 RX6 yX6_one wsX6_one) := goodIn_app (goodIn_of _ (by decide +kernel)) ggX8_g_X6_one
theorem dX8_g_0 : decode cX8_g 0 = .ok (.aload_n 0, 1) := by decide +kernel
theorem dX8_g_1 : decode cX8_g 1 = .ok (.getfield 10, 3) := by decide +kernel
theorem dX8_g_4 : decode cX8_g 4 = .ok (.iload_n 1, 1) := by decide +kernel
theorem dX8_g_5 : decode cX8_g 5 = .ok (.invokevirtual 89, 3) := by decide +kernel
theorem dX8_g_8 : decode cX8_g 8 = .ok (.ifCond .eq 14, 3) := by decide +kernel
theorem dX8_g_11 : decode cX8_g 11 = .ok (.aload_n 0, 1) := by decide +kernel
theorem dX8_g_12 : decode cX8_g 12 = .ok (.getfield 10, 3) := by decide +kernel
theorem dX8_g_15 : decode cX8_g 15 = .ok (.iload_n 1, 1) := by decide +kernel
theorem dX8_g_16 : decode cX8_g 16 = .ok (.invokevirtual 97, 3) := by decide +kernel
theorem dX8_g_19 : decode cX8_g 19 = .ok (.goto 5, 3) := by decide +kernel
theorem dX8_g_22 : decode cX8_g 22 = .ok (.bipush (-2), 2) := by decide +kernel
theorem dX8_g_24 : decode cX8_g 24 = .ok (.ireturn, 1) := by decide +kernel
set_option maxRecDepth 20000 in
theorem ggX8_sets_X6_has : GoodIn wsX8_sets wsX6_has := goodIn_r _ [7, 8, 52, 53] (by decide +kernel) (by decide +kernel)
set_option maxRecDepth 20000 in
theorem gX8_sets_X6_has : GoodIn wsX8_sets (wsV RX8 89 RX6 yX6_has wsX6_has) := goodIn_app (goodIn_of _ (by decide +kernel)) ggX8_sets_X6_has
set_option maxRecDepth 20000 in
theorem ggX8_sets_X6_placeOfOne : GoodIn wsX8_sets wsX6_placeOfOne := goodIn_r _ [11] (by decide +kernel) (by decide +kernel)
set_option maxRecDepth 20000 in
theorem gX8_sets_X6_placeOfOne : GoodIn wsX8_sets (va_wsS RX8 101 yX6_placeOfOne wsX6_placeOfOne) := goodIn_app (goodIn_of _ (by decide +kernel)) ggX8_sets_X6_placeOfOne
set_option maxRecDepth 20000 in
theorem ggX8_sets_X6_placeOfTwo : GoodIn wsX8_sets wsX6_placeOfTwo := goodIn_r _ [14] (by decide +kernel) (by decide +kernel)
set_option maxRecDepth 20000 in
theorem gX8_sets_X6_placeOfTwo : GoodIn wsX8_sets (va_wsS RX8 104 yX6_placeOfTwo wsX6_placeOfTwo) := goodIn_app (goodIn_of _ (by decide +kernel)) ggX8_sets_X6_placeOfTwo
set_option maxRecDepth 20000 in
theorem ggX8_sets_X6_at : GoodIn wsX8_sets wsX6_at := goodIn_r _ [18, 19, 52, 53] (by decide +kernel) (by decide +kernel)
set_option maxRecDepth 20000 in
theorem gX8_sets_X6_at : GoodIn wsX8_sets (wsV RX8 107 RX6 yX6_at wsX6_at) := goodIn_app (goodIn_of _ (by decide +kernel)) ggX8_sets_X6_at
set_option maxRecDepth 20000 in
theorem ggX8_sets_X2_note : GoodIn wsX8_sets wsX2_note := goodIn_r _ [24, 25, 26, 27, 28, 29, 30, 23, 31, 32, 33, 34, 35, 54, 55, 56] (by decide +kernel) (by decide +kernel)
set_option maxRecDepth 20000 in
theorem gX8_sets_X2_note : GoodIn wsX8_sets (wsV RX8 110 RX2 yX2_note wsX2_note) := goodIn_app (goodIn_of _ (by decide +kernel)) ggX8_sets_X2_note
set_option maxRecDepth 20000 in
theorem ggX8_sets_X6_put : GoodIn wsX8_sets wsX6_put := goodIn_r _ [39, 19, 52, 53] (by decide +kernel) (by decide +kernel)
set_option maxRecDepth 20000 in
theorem gX8_sets_X6_put : GoodIn wsX8_sets (wsV RX8 114 RX6 yX6_put wsX6_put) := goodIn_app (goodIn_of _ (by decide +kernel)) ggX8_sets_X6_put
theorem dX8_sets_0 : decode cX8_sets 0 = .ok (.aload_n 0, 1) := by decide +kernel
theorem dX8_sets_1 : decode cX8_sets 1 = .ok (.getfield 10, 3) := by decide +kernel
theorem dX8_sets_4 : decode cX8_sets 4 = .ok (.iload_n 1, 1) := by decide +kernel
theorem dX8_sets_5 : decode cX8_sets 5 = .ok (.invokevirtual 89, 3) := by decide +kernel
theorem dX8_sets_8 : decode cX8_sets 8 = .ok (.ifCond .eq 30, 3) := by decide +kernel
theorem dX8_sets_11 : decode cX8_sets 11 = .ok (.aload_n 0, 1) := by decide +kernel
theorem dX8_sets_12 : decode cX8_sets 12 = .ok (.getfield 10, 3) := by decide +kernel
theorem dX8_sets_15 : decode cX8_sets 15 = .ok (.iload_n 3, 1) := by decide +kernel
theorem dX8_sets_16 : decode cX8_sets 16 = .ok (.invokevirtual 89, 3) := by decide +kernel
theorem dX8_sets_19 : decode cX8_sets 19 = .ok (.ifCond .eq 19, 3) := by decide +kernel
theorem dX8_sets_22 : decode cX8_sets 22 = .ok (.iload_n 2, 1) := by decide +kernel
theorem dX8_sets_23 : decode cX8_sets 23 = .ok (.iconst (-1), 1) := by decide +kernel
theorem dX8_sets_24 : decode cX8_sets 24 = .ok (.if_icmp .eq 17, 3) := by decide +kernel
theorem dX8_sets_27 : decode cX8_sets 27 = .ok (.aload_n 0, 1) := by decide +kernel
theorem dX8_sets_28 : decode cX8_sets 28 = .ok (.getfield 10, 3) := by decide +kernel
theorem dX8_sets_31 : decode cX8_sets 31 = .ok (.iload_n 2, 1) := by decide +kernel
theorem dX8_sets_32 : decode cX8_sets 32 = .ok (.invokevirtual 89, 3) := by decide +kernel
theorem dX8_sets_35 : decode cX8_sets 35 = .ok (.ifCond .ne 6, 3) := by decide +kernel
theorem dX8_sets_38 : decode cX8_sets 38 = .ok (.bipush (-2), 2) := by decide +kernel
theorem dX8_sets_40 : decode cX8_sets 40 = .ok (.ireturn, 1) := by decide +kernel
theorem dX8_sets_41 : decode cX8_sets 41 = .ok (.iload_n 2, 1) := by decide +kernel
theorem dX8_sets_42 : decode cX8_sets 42 = .ok (.iconst (-1), 1) := by decide +kernel
theorem dX8_sets_43 : decode cX8_sets 43 = .ok (.if_icmp .ne 10, 3) := by decide +kernel
theorem dX8_sets_46 : decode cX8_sets 46 = .ok (.iload_n 1, 1) := by decide +kernel
theorem dX8_sets_47 : decode cX8_sets 47 = .ok (.invokestatic 101, 3) := by decide +kernel
theorem dX8_sets_50 : decode cX8_sets 50 = .ok (.goto 8, 3) := by decide +kernel
theorem dX8_sets_53 : decode cX8_sets 53 = .ok (.iload_n 1, 1) := by decide +kernel
theorem dX8_sets_54 : decode cX8_sets 54 = .ok (.iload_n 2, 1) := by decide +kernel
theorem dX8_sets_55 : decode cX8_sets 55 = .ok (.invokestatic 104, 3) := by decide +kernel
theorem dX8_sets_58 : decode cX8_sets 58 = .ok (.istore 4, 2) := by decide +kernel
theorem dX8_sets_60 : decode cX8_sets 60 = .ok (.aload_n 0, 1) := by decide +kernel
theorem dX8_sets_61 : decode cX8_sets 61 = .ok (.getfield 10, 3) := by decide +kernel
theorem dX8_sets_64 : decode cX8_sets 64 = .ok (.iload 4, 2) := by decide +kernel
theorem dX8_sets_66 : decode cX8_sets 66 = .ok (.invokevirtual 107, 3) := by decide +kernel
theorem dX8_sets_69 : decode cX8_sets 69 = .ok (.istore 5, 2) := by decide +kernel
theorem dX8_sets_71 : decode cX8_sets 71 = .ok (.iload 5, 2) := by decide +kernel
theorem dX8_sets_73 : decode cX8_sets 73 = .ok (.iload_n 3, 1) := by decide +kernel
theorem dX8_sets_74 : decode cX8_sets 74 = .ok (.if_icmp .ne 6, 3) := by decide +kernel
theorem dX8_sets_77 : decode cX8_sets 77 = .ok (.bipush (-3), 2) := by decide +kernel
theorem dX8_sets_79 : decode cX8_sets 79 = .ok (.ireturn, 1) := by decide +kernel
theorem dX8_sets_80 : decode cX8_sets 80 = .ok (.aload_n 0, 1) := by decide +kernel
theorem dX8_sets_81 : decode cX8_sets 81 = .ok (.getfield 29, 3) := by decide +kernel
theorem dX8_sets_84 : decode cX8_sets 84 = .ok (.iload 4, 2) := by decide +kernel
theorem dX8_sets_86 : decode cX8_sets 86 = .ok (.iload 5, 2) := by decide +kernel
theorem dX8_sets_88 : decode cX8_sets 88 = .ok (.invokevirtual 110, 3) := by decide +kernel
theorem dX8_sets_91 : decode cX8_sets 91 = .ok (.aload_n 0, 1) := by decide +kernel
theorem dX8_sets_92 : decode cX8_sets 92 = .ok (.getfield 10, 3) := by decide +kernel
theorem dX8_sets_95 : decode cX8_sets 95 = .ok (.iload 4, 2) := by decide +kernel
theorem dX8_sets_97 : decode cX8_sets 97 = .ok (.iload_n 3, 1) := by decide +kernel
theorem dX8_sets_98 : decode cX8_sets 98 = .ok (.invokevirtual 114, 3) := by decide +kernel
theorem dX8_sets_101 : decode cX8_sets 101 = .ok (.iload 5, 2) := by decide +kernel
theorem dX8_sets_103 : decode cX8_sets 103 = .ok (.ireturn, 1) := by decide +kernel
set_option maxRecDepth 20000 in
theorem ggX8_undo_X2_takeBackIn : GoodIn wsX8_undo wsX2_takeBackIn := goodIn_r _ [8, 9, 10, 11, 12, 13, 14, 15, 16, 17, 30, 31, 32, 33, 34] (by decide +kernel) (by decide +kernel)
set_option maxRecDepth 20000 in
theorem gX8_undo_X2_takeBackIn : GoodIn wsX8_undo (wsV RX8 120 RX2 yX2_takeBackIn wsX2_takeBackIn) := goodIn_app (goodIn_of _ (by decide +kernel)) ggX8_undo_X2_takeBackIn
theorem dX8_undo_0 : decode cX8_undo 0 = .ok (.aload_n 0, 1) := by decide +kernel
theorem dX8_undo_1 : decode cX8_undo 1 = .ok (.getfield 29, 3) := by decide +kernel
theorem dX8_undo_4 : decode cX8_undo 4 = .ok (.getfield 117, 3) := by decide +kernel
theorem dX8_undo_7 : decode cX8_undo 7 = .ok (.ifCond .ne 6, 3) := by decide +kernel
theorem dX8_undo_10 : decode cX8_undo 10 = .ok (.bipush (-3), 2) := by decide +kernel
theorem dX8_undo_12 : decode cX8_undo 12 = .ok (.ireturn, 1) := by decide +kernel
theorem dX8_undo_13 : decode cX8_undo 13 = .ok (.aload_n 0, 1) := by decide +kernel
theorem dX8_undo_14 : decode cX8_undo 14 = .ok (.getfield 29, 3) := by decide +kernel
theorem dX8_undo_17 : decode cX8_undo 17 = .ok (.aload_n 0, 1) := by decide +kernel
theorem dX8_undo_18 : decode cX8_undo 18 = .ok (.getfield 10, 3) := by decide +kernel
theorem dX8_undo_21 : decode cX8_undo 21 = .ok (.invokevirtual 120, 3) := by decide +kernel
theorem dX8_undo_24 : decode cX8_undo 24 = .ok (.aload_n 0, 1) := by decide +kernel
theorem dX8_undo_25 : decode cX8_undo 25 = .ok (.getfield 29, 3) := by decide +kernel
theorem dX8_undo_28 : decode cX8_undo 28 = .ok (.getfield 117, 3) := by decide +kernel
theorem dX8_undo_31 : decode cX8_undo 31 = .ok (.ireturn, 1) := by decide +kernel
set_option maxRecDepth 20000 in
theorem ggX8_made_X6_allElements : GoodIn wsX8_made wsX6_allElements := goodIn_r _ [6, 7, 43, 44] (by decide +kernel) (by decide +kernel)
set_option maxRecDepth 20000 in
theorem gX8_made_X6_allElements : GoodIn wsX8_made (wsV RX8 123 RX6 yX6_allElements wsX6_allElements) := goodIn_app (goodIn_of _ (by decide +kernel)) ggX8_made_X6_allElements
set_option maxRecDepth 20000 in
theorem ggX8_made_X0_leastAround : GoodIn wsX8_made wsX0_leastAround := goodIn_r _ [11, 12, 13, 10, 14, 15, 16, 17, 18, 5, 19, 20, 21, 22, 23, 24, 25, 26, 27, 28, 29, 30, 43, 44] (by decide +kernel) (by decide +kernel)
set_option maxRecDepth 20000 in
theorem gX8_made_X0_leastAround : GoodIn wsX8_made (va_wsS RX8 127 yX0_leastAround wsX0_leastAround) := goodIn_app (goodIn_of _ (by decide +kernel)) ggX8_made_X0_leastAround
theorem dX8_made_0 : decode cX8_made 0 = .ok (.iload_n 1, 1) := by decide +kernel
theorem dX8_made_1 : decode cX8_made 1 = .ok (.ifCond .lt 14, 3) := by decide +kernel
theorem dX8_made_4 : decode cX8_made 4 = .ok (.iload_n 1, 1) := by decide +kernel
theorem dX8_made_5 : decode cX8_made 5 = .ok (.aload_n 0, 1) := by decide +kernel
theorem dX8_made_6 : decode cX8_made 6 = .ok (.getfield 10, 3) := by decide +kernel
theorem dX8_made_9 : decode cX8_made 9 = .ok (.invokevirtual 123, 3) := by decide +kernel
theorem dX8_made_12 : decode cX8_made 12 = .ok (.if_icmp .le 8, 3) := by decide +kernel
theorem dX8_made_15 : decode cX8_made 15 = .ok (.bipush (-2), 2) := by decide +kernel
theorem dX8_made_17 : decode cX8_made 17 = .ok (.goto 11, 3) := by decide +kernel
theorem dX8_made_20 : decode cX8_made 20 = .ok (.aload_n 0, 1) := by decide +kernel
theorem dX8_made_21 : decode cX8_made 21 = .ok (.getfield 10, 3) := by decide +kernel
theorem dX8_made_24 : decode cX8_made 24 = .ok (.iload_n 1, 1) := by decide +kernel
theorem dX8_made_25 : decode cX8_made 25 = .ok (.invokestatic 127, 3) := by decide +kernel
theorem dX8_made_28 : decode cX8_made 28 = .ok (.ireturn, 1) := by decide +kernel
set_option maxRecDepth 20000 in
theorem ggX8_closed_X0_byNumber : GoodIn wsX8_closed wsX0_byNumber := goodIn_r _ [5, 6, 7, 8, 9, 10, 11, 12, 13, 4, 14, 15, 16, 17, 18, 19, 20, 21, 22, 23, 24, 25, 26, 27, 28, 29, 30, 31, 32, 33, 46, 47] (by decide +kernel) (by decide +kernel)
set_option maxRecDepth 20000 in
theorem gX8_closed_X0_byNumber : GoodIn wsX8_closed (va_wsS RX8 133 yX0_byNumber wsX0_byNumber) := goodIn_app (goodIn_of _ (by decide +kernel)) ggX8_closed_X0_byNumber
theorem dX8_closed_0 : decode cX8_closed 0 = .ok (.iload_n 1, 1) := by decide +kernel
theorem dX8_closed_1 : decode cX8_closed 1 = .ok (.ifCond .ge 8, 3) := by decide +kernel
theorem dX8_closed_4 : decode cX8_closed 4 = .ok (.bipush (-2), 2) := by decide +kernel
theorem dX8_closed_6 : decode cX8_closed 6 = .ok (.goto 11, 3) := by decide +kernel
theorem dX8_closed_9 : decode cX8_closed 9 = .ok (.aload_n 0, 1) := by decide +kernel
theorem dX8_closed_10 : decode cX8_closed 10 = .ok (.getfield 10, 3) := by decide +kernel
theorem dX8_closed_13 : decode cX8_closed 13 = .ok (.iload_n 1, 1) := by decide +kernel
theorem dX8_closed_14 : decode cX8_closed 14 = .ok (.invokestatic 133, 3) := by decide +kernel
theorem dX8_closed_17 : decode cX8_closed 17 = .ok (.ireturn, 1) := by decide +kernel
set_option maxRecDepth 20000 in
theorem ggX8_law_X3_isThere : GoodIn wsX8_law wsX3_isThere := goodIn_r _ [5] (by decide +kernel) (by decide +kernel)
set_option maxRecDepth 20000 in
theorem gX8_law_X3_isThere : GoodIn wsX8_law (va_wsS RX8 136 yX3_isThere wsX3_isThere) := goodIn_app (goodIn_of _ (by decide +kernel)) ggX8_law_X3_isThere
set_option maxRecDepth 20000 in
theorem ggX8_law_X3_firstAgainst : GoodIn wsX8_law wsX3_firstAgainst := goodIn_r _ [8, 9, 10, 11, 4, 12, 13, 14, 15, 16, 17, 18, 19, 20, 21, 22, 23, 24, 25, 26, 27, 28, 41, 42] (by decide +kernel) (by decide +kernel)
set_option maxRecDepth 20000 in
theorem gX8_law_X3_firstAgainst : GoodIn wsX8_law (va_wsS RX8 141 yX3_firstAgainst wsX3_firstAgainst) := goodIn_app (goodIn_of _ (by decide +kernel)) ggX8_law_X3_firstAgainst
theorem dX8_law_0 : decode cX8_law 0 = .ok (.iload_n 1, 1) := by decide +kernel
theorem dX8_law_1 : decode cX8_law 1 = .ok (.invokestatic 136, 3) := by decide +kernel
theorem dX8_law_4 : decode cX8_law 4 = .ok (.ifCond .eq 14, 3) := by decide +kernel
theorem dX8_law_7 : decode cX8_law 7 = .ok (.aload_n 0, 1) := by decide +kernel
theorem dX8_law_8 : decode cX8_law 8 = .ok (.getfield 10, 3) := by decide +kernel
theorem dX8_law_11 : decode cX8_law 11 = .ok (.iload_n 1, 1) := by decide +kernel
theorem dX8_law_12 : decode cX8_law 12 = .ok (.invokestatic 141, 3) := by decide +kernel
theorem dX8_law_15 : decode cX8_law 15 = .ok (.goto 5, 3) := by decide +kernel
theorem dX8_law_18 : decode cX8_law 18 = .ok (.bipush (-2), 2) := by decide +kernel
theorem dX8_law_20 : decode cX8_law 20 = .ok (.ireturn, 1) := by decide +kernel
set_option maxRecDepth 20000 in
theorem ggX8_change_X3_isThere : GoodIn wsX8_change wsX3_isThere := goodIn_r _ [6] (by decide +kernel) (by decide +kernel)
set_option maxRecDepth 20000 in
theorem gX8_change_X3_isThere : GoodIn wsX8_change (va_wsS RX8 136 yX3_isThere wsX3_isThere) := goodIn_app (goodIn_of _ (by decide +kernel)) ggX8_change_X3_isThere
set_option maxRecDepth 20000 in
theorem ggX8_change_X3_holds : GoodIn wsX8_change wsX3_holds := goodIn_r _ [9, 10, 11, 5, 12, 13, 14, 15, 16, 17, 18, 19, 20, 21, 22, 23, 24, 25, 26, 27, 28, 29, 30, 31, 32, 69, 70] (by decide +kernel) (by decide +kernel)
set_option maxRecDepth 20000 in
theorem gX8_change_X3_holds : GoodIn wsX8_change (va_wsS RX8 144 yX3_holds wsX3_holds) := goodIn_app (goodIn_of _ (by decide +kernel)) ggX8_change_X3_holds
set_option maxRecDepth 20000 in
theorem ggX8_change_X6_copyFrom : GoodIn wsX8_change wsX6_copyFrom := goodIn_r _ [36, 37, 22, 38, 39, 40, 41, 69, 70] (by decide +kernel) (by decide +kernel)
set_option maxRecDepth 20000 in
theorem gX8_change_X6_copyFrom : GoodIn wsX8_change (wsV RX8 73 RX6 yX6_copyFrom wsX6_copyFrom) := goodIn_app (goodIn_of _ (by decide +kernel)) ggX8_change_X6_copyFrom
set_option maxRecDepth 20000 in
theorem ggX8_change_X3_leastChange : GoodIn wsX8_change wsX3_leastChange := goodIn_r _ [44, 13, 45, 24, 20, 25, 46, 47, 5, 48, 49, 50, 51, 52, 22, 53, 54, 55, 56, 10, 11, 12, 14, 15, 16, 17, 18, 19, 21, 23, 26, 27, 28, 29, 30, 31, 32, 69, 70] (by decide +kernel) (by decide +kernel)
set_option maxRecDepth 20000 in
theorem gX8_change_X3_leastChange : GoodIn wsX8_change (va_wsS RX8 148 yX3_leastChange wsX3_leastChange) := goodIn_app (goodIn_of _ (by decide +kernel)) ggX8_change_X3_leastChange
theorem dX8_change_0 : decode cX8_change 0 = .ok (.iload_n 1, 1) := by decide +kernel
theorem dX8_change_1 : decode cX8_change 1 = .ok (.invokestatic 136, 3) := by decide +kernel
theorem dX8_change_4 : decode cX8_change 4 = .ok (.ifCond .ne 6, 3) := by decide +kernel
theorem dX8_change_7 : decode cX8_change 7 = .ok (.bipush (-2), 2) := by decide +kernel
theorem dX8_change_9 : decode cX8_change 9 = .ok (.ireturn, 1) := by decide +kernel
theorem dX8_change_10 : decode cX8_change 10 = .ok (.aload_n 0, 1) := by decide +kernel
theorem dX8_change_11 : decode cX8_change 11 = .ok (.getfield 10, 3) := by decide +kernel
theorem dX8_change_14 : decode cX8_change 14 = .ok (.iload_n 1, 1) := by decide +kernel
theorem dX8_change_15 : decode cX8_change 15 = .ok (.invokestatic 144, 3) := by decide +kernel
theorem dX8_change_18 : decode cX8_change 18 = .ok (.ifCond .eq 5, 3) := by decide +kernel
theorem dX8_change_21 : decode cX8_change 21 = .ok (.iconst (-1), 1) := by decide +kernel
theorem dX8_change_22 : decode cX8_change 22 = .ok (.ireturn, 1) := by decide +kernel
theorem dX8_change_23 : decode cX8_change 23 = .ok (.aload_n 0, 1) := by decide +kernel
theorem dX8_change_24 : decode cX8_change 24 = .ok (.getfield 16, 3) := by decide +kernel
theorem dX8_change_27 : decode cX8_change 27 = .ok (.aload_n 0, 1) := by decide +kernel
theorem dX8_change_28 : decode cX8_change 28 = .ok (.getfield 10, 3) := by decide +kernel
theorem dX8_change_31 : decode cX8_change 31 = .ok (.invokevirtual 73, 3) := by decide +kernel
theorem dX8_change_34 : decode cX8_change 34 = .ok (.aload_n 0, 1) := by decide +kernel
theorem dX8_change_35 : decode cX8_change 35 = .ok (.getfield 16, 3) := by decide +kernel
theorem dX8_change_38 : decode cX8_change 38 = .ok (.iload_n 1, 1) := by decide +kernel
theorem dX8_change_39 : decode cX8_change 39 = .ok (.invokestatic 148, 3) := by decide +kernel
theorem dX8_change_42 : decode cX8_change 42 = .ok (.ireturn, 1) := by decide +kernel
set_option maxRecDepth 20000 in
theorem ggX8_congruence_X1_seekIn : GoodIn wsX8_congruence wsX1_seekIn := goodIn_r _ [7, 8, 9, 10, 11, 12, 13, 14, 6, 15, 16, 17, 18, 19, 20, 21, 22, 23, 24, 25, 26, 27, 28, 29, 30, 31, 32, 33, 34, 35, 36, 37, 38, 39, 40, 66, 67, 68, 69, 70] (by decide +kernel) (by decide +kernel)
set_option maxRecDepth 20000 in
theorem gX8_congruence_X1_seekIn : GoodIn wsX8_congruence (wsV RX8 151 RX1 yX1_seekIn wsX1_seekIn) := goodIn_app (goodIn_of _ (by decide +kernel)) ggX8_congruence_X1_seekIn
set_option maxRecDepth 20000 in
theorem ggX8_congruence_X1_isThere : GoodIn wsX8_congruence wsX1_isThere := goodIn_r _ [44, 10, 12, 68, 69, 70] (by decide +kernel) (by decide +kernel)
set_option maxRecDepth 20000 in
theorem gX8_congruence_X1_isThere : GoodIn wsX8_congruence (wsV RX8 154 RX1 yX1_isThere wsX1_isThere) := goodIn_app (goodIn_of _ (by decide +kernel)) ggX8_congruence_X1_isThere
set_option maxRecDepth 20000 in
theorem ggX8_congruence_X1_nameOf : GoodIn wsX8_congruence wsX1_nameOf := goodIn_r _ [48, 9, 49, 50, 51, 6, 52, 12, 53, 42, 43, 44, 10, 16, 17, 18, 68, 69, 70] (by decide +kernel) (by decide +kernel)
set_option maxRecDepth 20000 in
theorem gX8_congruence_X1_nameOf : GoodIn wsX8_congruence (wsV RX8 155 RX1 yX1_nameOf wsX1_nameOf) := goodIn_app (goodIn_of _ (by decide +kernel)) ggX8_congruence_X1_nameOf
theorem dX8_congruence_0 : decode cX8_congruence 0 = .ok (.iload_n 1, 1) := by decide +kernel
theorem dX8_congruence_1 : decode cX8_congruence 1 = .ok (.ifCond .ge 6, 3) := by decide +kernel
theorem dX8_congruence_4 : decode cX8_congruence 4 = .ok (.bipush (-2), 2) := by decide +kernel
theorem dX8_congruence_6 : decode cX8_congruence 6 = .ok (.ireturn, 1) := by decide +kernel
theorem dX8_congruence_7 : decode cX8_congruence 7 = .ok (.aload_n 0, 1) := by decide +kernel
theorem dX8_congruence_8 : decode cX8_congruence 8 = .ok (.getfield 36, 3) := by decide +kernel
theorem dX8_congruence_11 : decode cX8_congruence 11 = .ok (.aload_n 0, 1) := by decide +kernel
theorem dX8_congruence_12 : decode cX8_congruence 12 = .ok (.getfield 10, 3) := by decide +kernel
theorem dX8_congruence_15 : decode cX8_congruence 15 = .ok (.invokevirtual 151, 3) := by decide +kernel
theorem dX8_congruence_18 : decode cX8_congruence 18 = .ok (.aload_n 0, 1) := by decide +kernel
theorem dX8_congruence_19 : decode cX8_congruence 19 = .ok (.getfield 36, 3) := by decide +kernel
theorem dX8_congruence_22 : decode cX8_congruence 22 = .ok (.iload_n 1, 1) := by decide +kernel
theorem dX8_congruence_23 : decode cX8_congruence 23 = .ok (.invokevirtual 154, 3) := by decide +kernel
theorem dX8_congruence_26 : decode cX8_congruence 26 = .ok (.ifCond .eq 14, 3) := by decide +kernel
theorem dX8_congruence_29 : decode cX8_congruence 29 = .ok (.aload_n 0, 1) := by decide +kernel
theorem dX8_congruence_30 : decode cX8_congruence 30 = .ok (.getfield 36, 3) := by decide +kernel
theorem dX8_congruence_33 : decode cX8_congruence 33 = .ok (.iload_n 1, 1) := by decide +kernel
theorem dX8_congruence_34 : decode cX8_congruence 34 = .ok (.invokevirtual 155, 3) := by decide +kernel
theorem dX8_congruence_37 : decode cX8_congruence 37 = .ok (.goto 5, 3) := by decide +kernel
theorem dX8_congruence_40 : decode cX8_congruence 40 = .ok (.bipush (-9), 2) := by decide +kernel
theorem dX8_congruence_42 : decode cX8_congruence 42 = .ok (.ireturn, 1) := by decide +kernel
set_option maxRecDepth 20000 in
theorem ggX8_principal_X6_has : GoodIn wsX8_principal wsX6_has := goodIn_r _ [7, 8, 70, 71] (by decide +kernel) (by decide +kernel)
set_option maxRecDepth 20000 in
theorem gX8_principal_X6_has : GoodIn wsX8_principal (wsV RX8 89 RX6 yX6_has wsX6_has) := goodIn_app (goodIn_of _ (by decide +kernel)) ggX8_principal_X6_has
set_option maxRecDepth 20000 in
theorem ggX8_principal_X1_seekIn : GoodIn wsX8_principal wsX1_seekIn := goodIn_r _ [13, 14, 15, 16, 17, 18, 19, 20, 12, 21, 22, 23, 24, 25, 26, 27, 28, 29, 30, 6, 31, 32, 33, 34, 35, 36, 37, 38, 39, 40, 41, 42, 43, 44, 45, 70, 71, 72, 73, 74] (by decide +kernel) (by decide +kernel)
set_option maxRecDepth 20000 in
theorem gX8_principal_X1_seekIn : GoodIn wsX8_principal (wsV RX8 151 RX1 yX1_seekIn wsX1_seekIn) := goodIn_app (goodIn_of _ (by decide +kernel)) ggX8_principal_X1_seekIn
set_option maxRecDepth 20000 in
theorem ggX8_principal_X1_finestWith : GoodIn wsX8_principal wsX1_finestWith := goodIn_r _ [49, 16, 50, 51, 52, 12, 53, 18, 54, 55, 56, 57, 36, 37, 38, 22, 23, 24, 72, 73, 74] (by decide +kernel) (by decide +kernel)
set_option maxRecDepth 20000 in
theorem gX8_principal_X1_finestWith : GoodIn wsX8_principal (wsV RX8 158 RX1 yX1_finestWith wsX1_finestWith) := goodIn_app (goodIn_of _ (by decide +kernel)) ggX8_principal_X1_finestWith
theorem dX8_principal_0 : decode cX8_principal 0 = .ok (.aload_n 0, 1) := by decide +kernel
theorem dX8_principal_1 : decode cX8_principal 1 = .ok (.getfield 10, 3) := by decide +kernel
theorem dX8_principal_4 : decode cX8_principal 4 = .ok (.iload_n 1, 1) := by decide +kernel
theorem dX8_principal_5 : decode cX8_principal 5 = .ok (.invokevirtual 89, 3) := by decide +kernel
theorem dX8_principal_8 : decode cX8_principal 8 = .ok (.ifCond .eq 14, 3) := by decide +kernel
theorem dX8_principal_11 : decode cX8_principal 11 = .ok (.aload_n 0, 1) := by decide +kernel
theorem dX8_principal_12 : decode cX8_principal 12 = .ok (.getfield 10, 3) := by decide +kernel
theorem dX8_principal_15 : decode cX8_principal 15 = .ok (.iload_n 2, 1) := by decide +kernel
theorem dX8_principal_16 : decode cX8_principal 16 = .ok (.invokevirtual 89, 3) := by decide +kernel
theorem dX8_principal_19 : decode cX8_principal 19 = .ok (.ifCond .ne 6, 3) := by decide +kernel
theorem dX8_principal_22 : decode cX8_principal 22 = .ok (.bipush (-2), 2) := by decide +kernel
theorem dX8_principal_24 : decode cX8_principal 24 = .ok (.ireturn, 1) := by decide +kernel
theorem dX8_principal_25 : decode cX8_principal 25 = .ok (.aload_n 0, 1) := by decide +kernel
theorem dX8_principal_26 : decode cX8_principal 26 = .ok (.getfield 36, 3) := by decide +kernel
theorem dX8_principal_29 : decode cX8_principal 29 = .ok (.aload_n 0, 1) := by decide +kernel
theorem dX8_principal_30 : decode cX8_principal 30 = .ok (.getfield 10, 3) := by decide +kernel
theorem dX8_principal_33 : decode cX8_principal 33 = .ok (.invokevirtual 151, 3) := by decide +kernel
theorem dX8_principal_36 : decode cX8_principal 36 = .ok (.aload_n 0, 1) := by decide +kernel
theorem dX8_principal_37 : decode cX8_principal 37 = .ok (.getfield 36, 3) := by decide +kernel
theorem dX8_principal_40 : decode cX8_principal 40 = .ok (.iload_n 1, 1) := by decide +kernel
theorem dX8_principal_41 : decode cX8_principal 41 = .ok (.iload_n 2, 1) := by decide +kernel
theorem dX8_principal_42 : decode cX8_principal 42 = .ok (.invokevirtual 158, 3) := by decide +kernel
theorem dX8_principal_45 : decode cX8_principal 45 = .ok (.ireturn, 1) := by decide +kernel
set_option maxRecDepth 20000 in
theorem ggX8_pair_X1_seekIn : GoodIn wsX8_pair wsX1_seekIn := goodIn_r _ [7, 8, 9, 10, 11, 12, 13, 14, 6, 15, 16, 17, 18, 19, 20, 21, 22, 23, 24, 25, 26, 27, 28, 29, 30, 31, 32, 33, 34, 35, 36, 37, 38, 39, 40, 87, 88, 89, 90, 91] (by decide +kernel) (by decide +kernel)
set_option maxRecDepth 20000 in
theorem gX8_pair_X1_seekIn : GoodIn wsX8_pair (wsV RX8 151 RX1 yX1_seekIn wsX1_seekIn) := goodIn_app (goodIn_of _ (by decide +kernel)) ggX8_pair_X1_seekIn
set_option maxRecDepth 20000 in
theorem ggX8_pair_X1_isThere : GoodIn wsX8_pair wsX1_isThere := goodIn_r _ [44, 10, 12, 89, 90, 91] (by decide +kernel) (by decide +kernel)
set_option maxRecDepth 20000 in
theorem gX8_pair_X1_isThere : GoodIn wsX8_pair (wsV RX8 154 RX1 yX1_isThere wsX1_isThere) := goodIn_app (goodIn_of _ (by decide +kernel)) ggX8_pair_X1_isThere
set_option maxRecDepth 20000 in
theorem ggX8_pair_X1_join : GoodIn wsX8_pair wsX1_join := goodIn_r _ [48, 10, 49, 50, 51, 6, 52, 9, 53, 54, 55, 56, 12, 57, 42, 43, 44, 16, 17, 18, 31, 32, 33, 89, 90, 91] (by decide +kernel) (by decide +kernel)
set_option maxRecDepth 20000 in
theorem gX8_pair_X1_join : GoodIn wsX8_pair (wsV RX8 161 RX1 yX1_join wsX1_join) := goodIn_app (goodIn_of _ (by decide +kernel)) ggX8_pair_X1_join
set_option maxRecDepth 20000 in
theorem ggX8_pair_X1_meet : GoodIn wsX8_pair wsX1_meet := goodIn_r _ [61, 10, 49, 50, 51, 6, 52, 9, 53, 54, 55, 56, 12, 57, 42, 43, 44, 16, 17, 18, 31, 32, 33, 89, 90, 91] (by decide +kernel) (by decide +kernel)
set_option maxRecDepth 20000 in
theorem gX8_pair_X1_meet : GoodIn wsX8_pair (wsV RX8 164 RX1 yX1_meet wsX1_meet) := goodIn_app (goodIn_of _ (by decide +kernel)) ggX8_pair_X1_meet
set_option maxRecDepth 20000 in
theorem ggX8_pair_X1_permute : GoodIn wsX8_pair wsX1_permute := goodIn_r _ [65, 9, 66, 67, 68, 6, 69, 53, 54, 55, 56, 12, 57, 42, 43, 44, 10, 31, 32, 33, 16, 17, 18, 89, 90, 91] (by decide +kernel) (by decide +kernel)
set_option maxRecDepth 20000 in
theorem gX8_pair_X1_permute : GoodIn wsX8_pair (wsV RX8 167 RX1 yX1_permute wsX1_permute) := goodIn_app (goodIn_of _ (by decide +kernel)) ggX8_pair_X1_permute
set_option maxRecDepth 20000 in
theorem ggX8_pair_X8_oneIf : GoodIn wsX8_pair wsX8_oneIf := goodIn_r _ [73] (by decide +kernel) (by decide +kernel)
set_option maxRecDepth 20000 in
theorem gX8_pair_X8_oneIf : GoodIn wsX8_pair (va_wsS RX8 171 yX8_oneIf wsX8_oneIf) := goodIn_app (goodIn_of _ (by decide +kernel)) ggX8_pair_X8_oneIf
set_option maxRecDepth 20000 in
theorem ggX8_pair_X1_isFiner : GoodIn wsX8_pair wsX1_isFiner := goodIn_r _ [52, 9, 53, 54, 55, 6, 56, 12, 57, 42, 43, 44, 10, 16, 17, 18, 31, 32, 33, 89, 90, 91] (by decide +kernel) (by decide +kernel)
set_option maxRecDepth 20000 in
theorem gX8_pair_X1_isFiner : GoodIn wsX8_pair (wsV RX8 175 RX1 yX1_isFiner wsX1_isFiner) := goodIn_app (goodIn_of _ (by decide +kernel)) ggX8_pair_X1_isFiner
theorem dX8_pair_0 : decode cX8_pair 0 = .ok (.iload_n 3, 1) := by decide +kernel
theorem dX8_pair_1 : decode cX8_pair 1 = .ok (.ifCond .lt 8, 3) := by decide +kernel
theorem dX8_pair_4 : decode cX8_pair 4 = .ok (.iload_n 3, 1) := by decide +kernel
theorem dX8_pair_5 : decode cX8_pair 5 = .ok (.iconst 3, 1) := by decide +kernel
theorem dX8_pair_6 : decode cX8_pair 6 = .ok (.if_icmp .le 6, 3) := by decide +kernel
theorem dX8_pair_9 : decode cX8_pair 9 = .ok (.bipush (-2), 2) := by decide +kernel
theorem dX8_pair_11 : decode cX8_pair 11 = .ok (.ireturn, 1) := by decide +kernel
theorem dX8_pair_12 : decode cX8_pair 12 = .ok (.aload_n 0, 1) := by decide +kernel
theorem dX8_pair_13 : decode cX8_pair 13 = .ok (.getfield 36, 3) := by decide +kernel
theorem dX8_pair_16 : decode cX8_pair 16 = .ok (.aload_n 0, 1) := by decide +kernel
theorem dX8_pair_17 : decode cX8_pair 17 = .ok (.getfield 10, 3) := by decide +kernel
theorem dX8_pair_20 : decode cX8_pair 20 = .ok (.invokevirtual 151, 3) := by decide +kernel
theorem dX8_pair_23 : decode cX8_pair 23 = .ok (.aload_n 0, 1) := by decide +kernel
theorem dX8_pair_24 : decode cX8_pair 24 = .ok (.getfield 36, 3) := by decide +kernel
theorem dX8_pair_27 : decode cX8_pair 27 = .ok (.iload_n 1, 1) := by decide +kernel
theorem dX8_pair_28 : decode cX8_pair 28 = .ok (.invokevirtual 154, 3) := by decide +kernel
theorem dX8_pair_31 : decode cX8_pair 31 = .ok (.ifCond .eq 14, 3) := by decide +kernel
theorem dX8_pair_34 : decode cX8_pair 34 = .ok (.aload_n 0, 1) := by decide +kernel
theorem dX8_pair_35 : decode cX8_pair 35 = .ok (.getfield 36, 3) := by decide +kernel
theorem dX8_pair_38 : decode cX8_pair 38 = .ok (.iload_n 2, 1) := by decide +kernel
theorem dX8_pair_39 : decode cX8_pair 39 = .ok (.invokevirtual 154, 3) := by decide +kernel
theorem dX8_pair_42 : decode cX8_pair 42 = .ok (.ifCond .ne 6, 3) := by decide +kernel
theorem dX8_pair_45 : decode cX8_pair 45 = .ok (.bipush (-2), 2) := by decide +kernel
theorem dX8_pair_47 : decode cX8_pair 47 = .ok (.ireturn, 1) := by decide +kernel
theorem dX8_pair_48 : decode cX8_pair 48 = .ok (.iload_n 3, 1) := by decide +kernel
theorem dX8_pair_49 : decode cX8_pair 49 = .ok (.tableswitch 60 0 2 #[27, 37, 47], 27) := by decide +kernel
theorem dX8_pair_76 : decode cX8_pair 76 = .ok (.aload_n 0, 1) := by decide +kernel
theorem dX8_pair_77 : decode cX8_pair 77 = .ok (.getfield 36, 3) := by decide +kernel
theorem dX8_pair_80 : decode cX8_pair 80 = .ok (.iload_n 1, 1) := by decide +kernel
theorem dX8_pair_81 : decode cX8_pair 81 = .ok (.iload_n 2, 1) := by decide +kernel
theorem dX8_pair_82 : decode cX8_pair 82 = .ok (.invokevirtual 161, 3) := by decide +kernel
theorem dX8_pair_85 : decode cX8_pair 85 = .ok (.ireturn, 1) := by decide +kernel
theorem dX8_pair_86 : decode cX8_pair 86 = .ok (.aload_n 0, 1) := by decide +kernel
theorem dX8_pair_87 : decode cX8_pair 87 = .ok (.getfield 36, 3) := by decide +kernel
theorem dX8_pair_90 : decode cX8_pair 90 = .ok (.iload_n 1, 1) := by decide +kernel
theorem dX8_pair_91 : decode cX8_pair 91 = .ok (.iload_n 2, 1) := by decide +kernel
theorem dX8_pair_92 : decode cX8_pair 92 = .ok (.invokevirtual 164, 3) := by decide +kernel
theorem dX8_pair_95 : decode cX8_pair 95 = .ok (.ireturn, 1) := by decide +kernel
theorem dX8_pair_96 : decode cX8_pair 96 = .ok (.aload_n 0, 1) := by decide +kernel
theorem dX8_pair_97 : decode cX8_pair 97 = .ok (.getfield 36, 3) := by decide +kernel
theorem dX8_pair_100 : decode cX8_pair 100 = .ok (.iload_n 1, 1) := by decide +kernel
theorem dX8_pair_101 : decode cX8_pair 101 = .ok (.iload_n 2, 1) := by decide +kernel
theorem dX8_pair_102 : decode cX8_pair 102 = .ok (.invokevirtual 167, 3) := by decide +kernel
theorem dX8_pair_105 : decode cX8_pair 105 = .ok (.invokestatic 171, 3) := by decide +kernel
theorem dX8_pair_108 : decode cX8_pair 108 = .ok (.ireturn, 1) := by decide +kernel
theorem dX8_pair_109 : decode cX8_pair 109 = .ok (.aload_n 0, 1) := by decide +kernel
theorem dX8_pair_110 : decode cX8_pair 110 = .ok (.getfield 36, 3) := by decide +kernel
theorem dX8_pair_113 : decode cX8_pair 113 = .ok (.iload_n 1, 1) := by decide +kernel
theorem dX8_pair_114 : decode cX8_pair 114 = .ok (.iload_n 2, 1) := by decide +kernel
theorem dX8_pair_115 : decode cX8_pair 115 = .ok (.invokevirtual 175, 3) := by decide +kernel
theorem dX8_pair_118 : decode cX8_pair 118 = .ok (.invokestatic 171, 3) := by decide +kernel
theorem dX8_pair_121 : decode cX8_pair 121 = .ok (.ireturn, 1) := by decide +kernel
set_option maxRecDepth 20000 in
theorem ggX8_free_X7_makeFree : GoodIn wsX8_free wsX7_makeFree := goodIn_r _ [9, 10, 11, 12, 13, 14, 15, 8, 16, 17, 18, 19, 20, 21, 22, 23, 24, 25, 26, 27, 28, 29, 30, 31, 32, 33, 34, 35, 36, 37, 38, 39, 40, 41, 42, 43, 44, 45, 46, 47, 48, 49, 50, 51, 52, 53, 54, 55, 56, 57, 58, 59, 60, 61, 62, 63, 64, 65, 66, 67, 68, 69, 70, 71, 72, 73, 74, 75, 76, 77, 78, 79, 80, 81, 82, 83, 84, 85, 86, 87, 88, 89, 90, 91, 92, 93, 94, 95, 120, 121, 108, 109, 110, 111, 112, 113, 114, 115, 116, 117, 118, 119] (by decide +kernel) (by decide +kernel)
set_option maxRecDepth 20000 in
theorem gX8_free_X7_makeFree : GoodIn wsX8_free (wsV RX8 178 RX7 yX7_makeFree wsX7_makeFree) := goodIn_app (goodIn_of _ (by decide +kernel)) ggX8_free_X7_makeFree
theorem dX8_free_0 : decode cX8_free 0 = .ok (.iload_n 1, 1) := by decide +kernel
theorem dX8_free_1 : decode cX8_free 1 = .ok (.iconst 1, 1) := by decide +kernel
theorem dX8_free_2 : decode cX8_free 2 = .ok (.if_icmp .lt 17, 3) := by decide +kernel
theorem dX8_free_5 : decode cX8_free 5 = .ok (.iload_n 1, 1) := by decide +kernel
theorem dX8_free_6 : decode cX8_free 6 = .ok (.iconst 2, 1) := by decide +kernel
theorem dX8_free_7 : decode cX8_free 7 = .ok (.if_icmp .gt 12, 3) := by decide +kernel
theorem dX8_free_10 : decode cX8_free 10 = .ok (.iload_n 2, 1) := by decide +kernel
theorem dX8_free_11 : decode cX8_free 11 = .ok (.ifCond .lt 8, 3) := by decide +kernel
theorem dX8_free_14 : decode cX8_free 14 = .ok (.iload_n 2, 1) := by decide +kernel
theorem dX8_free_15 : decode cX8_free 15 = .ok (.iconst 1, 1) := by decide +kernel
theorem dX8_free_16 : decode cX8_free 16 = .ok (.if_icmp .le 6, 3) := by decide +kernel
theorem dX8_free_19 : decode cX8_free 19 = .ok (.bipush (-2), 2) := by decide +kernel
theorem dX8_free_21 : decode cX8_free 21 = .ok (.ireturn, 1) := by decide +kernel
theorem dX8_free_22 : decode cX8_free 22 = .ok (.aload_n 0, 1) := by decide +kernel
theorem dX8_free_23 : decode cX8_free 23 = .ok (.getfield 43, 3) := by decide +kernel
theorem dX8_free_26 : decode cX8_free 26 = .ok (.aload_n 0, 1) := by decide +kernel
theorem dX8_free_27 : decode cX8_free 27 = .ok (.getfield 10, 3) := by decide +kernel
theorem dX8_free_30 : decode cX8_free 30 = .ok (.iload_n 1, 1) := by decide +kernel
theorem dX8_free_31 : decode cX8_free 31 = .ok (.invokevirtual 178, 3) := by decide +kernel
theorem dX8_free_34 : decode cX8_free 34 = .ok (.ifCond .ne 6, 3) := by decide +kernel
theorem dX8_free_37 : decode cX8_free 37 = .ok (.bipush (-4), 2) := by decide +kernel
theorem dX8_free_39 : decode cX8_free 39 = .ok (.ireturn, 1) := by decide +kernel
theorem dX8_free_40 : decode cX8_free 40 = .ok (.iload_n 2, 1) := by decide +kernel
theorem dX8_free_41 : decode cX8_free 41 = .ok (.ifCond .ne 13, 3) := by decide +kernel
theorem dX8_free_44 : decode cX8_free 44 = .ok (.aload_n 0, 1) := by decide +kernel
theorem dX8_free_45 : decode cX8_free 45 = .ok (.getfield 43, 3) := by decide +kernel
theorem dX8_free_48 : decode cX8_free 48 = .ok (.getfield 181, 3) := by decide +kernel
theorem dX8_free_51 : decode cX8_free 51 = .ok (.goto 10, 3) := by decide +kernel
theorem dX8_free_54 : decode cX8_free 54 = .ok (.aload_n 0, 1) := by decide +kernel
theorem dX8_free_55 : decode cX8_free 55 = .ok (.getfield 43, 3) := by decide +kernel
theorem dX8_free_58 : decode cX8_free 58 = .ok (.getfield 184, 3) := by decide +kernel
theorem dX8_free_61 : decode cX8_free 61 = .ok (.ireturn, 1) := by decide +kernel
set_option maxRecDepth 20000 in
theorem ggX8_term_X7_seekMaltsev : GoodIn wsX8_term wsX7_seekMaltsev := goodIn_r _ [9, 10, 11, 12, 13, 8, 14, 15, 16, 17, 18, 19, 20, 21, 22, 23, 24, 25, 26, 27, 28, 29, 30, 31, 32, 33, 34, 35, 36, 37, 38, 39, 40, 41, 42, 43, 44, 45, 46, 47, 48, 49, 50, 51, 52, 53, 54, 55, 56, 57, 58, 59, 60, 61, 62, 63, 64, 65, 66, 67, 68, 69, 70, 71, 72, 73, 74, 75, 76, 77, 78, 79, 80, 81, 82, 83, 84, 85, 86, 87, 88, 89, 90, 91, 92, 93, 94, 115, 116, 117, 118, 119, 120, 121, 122, 123, 124, 125, 126, 127, 128] (by decide +kernel) (by decide +kernel)
set_option maxRecDepth 20000 in
theorem gX8_term_X7_seekMaltsev : GoodIn wsX8_term (wsV RX8 190 RX7 yX7_seekMaltsev wsX7_seekMaltsev) := goodIn_app (goodIn_of _ (by decide +kernel)) ggX8_term_X7_seekMaltsev
set_option maxRecDepth 20000 in
theorem ggX8_term_X7_seekMajority : GoodIn wsX8_term wsX7_seekMajority := goodIn_r _ [98, 10, 11, 12, 13, 8, 14, 15, 16, 17, 18, 19, 20, 21, 22, 23, 24, 25, 26, 27, 28, 29, 30, 31, 32, 33, 34, 35, 36, 37, 38, 39, 40, 41, 42, 43, 44, 45, 46, 47, 48, 49, 50, 51, 52, 53, 54, 55, 56, 57, 58, 59, 60, 61, 62, 63, 64, 65, 66, 67, 68, 69, 70, 71, 72, 73, 74, 75, 76, 77, 78, 79, 80, 81, 82, 83, 84, 85, 86, 87, 88, 89, 90, 91, 92, 93, 94, 115, 116, 117, 118, 119, 120, 121, 122, 123, 124, 125, 126, 127, 128] (by decide +kernel) (by decide +kernel)
set_option maxRecDepth 20000 in
theorem gX8_term_X7_seekMajority : GoodIn wsX8_term (wsV RX8 194 RX7 yX7_seekMajority wsX7_seekMajority) := goodIn_app (goodIn_of _ (by decide +kernel)) ggX8_term_X7_seekMajority
set_option maxRecDepth 20000 in
theorem ggX8_term_X8_oneIf : GoodIn wsX8_term wsX8_oneIf := goodIn_r _ [102] (by decide +kernel) (by decide +kernel)
set_option maxRecDepth 20000 in
theorem gX8_term_X8_oneIf : GoodIn wsX8_term (va_wsS RX8 171 yX8_oneIf wsX8_oneIf) := goodIn_app (goodIn_of _ (by decide +kernel)) ggX8_term_X8_oneIf
theorem dX8_term_0 : decode cX8_term 0 = .ok (.iload_n 1, 1) := by decide +kernel
theorem dX8_term_1 : decode cX8_term 1 = .ok (.ifCond .lt 19, 3) := by decide +kernel
theorem dX8_term_4 : decode cX8_term 4 = .ok (.iload_n 1, 1) := by decide +kernel
theorem dX8_term_5 : decode cX8_term 5 = .ok (.iconst 1, 1) := by decide +kernel
theorem dX8_term_6 : decode cX8_term 6 = .ok (.if_icmp .gt 14, 3) := by decide +kernel
theorem dX8_term_9 : decode cX8_term 9 = .ok (.aload_n 0, 1) := by decide +kernel
theorem dX8_term_10 : decode cX8_term 10 = .ok (.getfield 10, 3) := by decide +kernel
theorem dX8_term_13 : decode cX8_term 13 = .ok (.getfield 187, 3) := by decide +kernel
theorem dX8_term_16 : decode cX8_term 16 = .ok (.iconst 3, 1) := by decide +kernel
theorem dX8_term_17 : decode cX8_term 17 = .ok (.if_icmp .le 6, 3) := by decide +kernel
theorem dX8_term_20 : decode cX8_term 20 = .ok (.bipush (-2), 2) := by decide +kernel
theorem dX8_term_22 : decode cX8_term 22 = .ok (.ireturn, 1) := by decide +kernel
theorem dX8_term_23 : decode cX8_term 23 = .ok (.iload_n 1, 1) := by decide +kernel
theorem dX8_term_24 : decode cX8_term 24 = .ok (.ifCond .ne 17, 3) := by decide +kernel
theorem dX8_term_27 : decode cX8_term 27 = .ok (.aload_n 0, 1) := by decide +kernel
theorem dX8_term_28 : decode cX8_term 28 = .ok (.getfield 43, 3) := by decide +kernel
theorem dX8_term_31 : decode cX8_term 31 = .ok (.aload_n 0, 1) := by decide +kernel
theorem dX8_term_32 : decode cX8_term 32 = .ok (.getfield 10, 3) := by decide +kernel
theorem dX8_term_35 : decode cX8_term 35 = .ok (.invokevirtual 190, 3) := by decide +kernel
theorem dX8_term_38 : decode cX8_term 38 = .ok (.goto 14, 3) := by decide +kernel
theorem dX8_term_41 : decode cX8_term 41 = .ok (.aload_n 0, 1) := by decide +kernel
theorem dX8_term_42 : decode cX8_term 42 = .ok (.getfield 43, 3) := by decide +kernel
theorem dX8_term_45 : decode cX8_term 45 = .ok (.aload_n 0, 1) := by decide +kernel
theorem dX8_term_46 : decode cX8_term 46 = .ok (.getfield 10, 3) := by decide +kernel
theorem dX8_term_49 : decode cX8_term 49 = .ok (.invokevirtual 194, 3) := by decide +kernel
theorem dX8_term_52 : decode cX8_term 52 = .ok (.istore_n 2, 1) := by decide +kernel
theorem dX8_term_53 : decode cX8_term 53 = .ok (.iload_n 2, 1) := by decide +kernel
theorem dX8_term_54 : decode cX8_term 54 = .ok (.ifCond .eq 16, 3) := by decide +kernel
theorem dX8_term_57 : decode cX8_term 57 = .ok (.aload_n 0, 1) := by decide +kernel
theorem dX8_term_58 : decode cX8_term 58 = .ok (.getfield 43, 3) := by decide +kernel
theorem dX8_term_61 : decode cX8_term 61 = .ok (.getfield 197, 3) := by decide +kernel
theorem dX8_term_64 : decode cX8_term 64 = .ok (.invokestatic 171, 3) := by decide +kernel
theorem dX8_term_67 : decode cX8_term 67 = .ok (.goto 5, 3) := by decide +kernel
theorem dX8_term_70 : decode cX8_term 70 = .ok (.bipush (-4), 2) := by decide +kernel
theorem dX8_term_72 : decode cX8_term 72 = .ok (.ireturn, 1) := by decide +kernel
theorem dX8_sees_0 : decode cX8_sees 0 = .ok (.iload_n 1, 1) := by decide +kernel
theorem dX8_sees_1 : decode cX8_sees 1 = .ok (.ifCond .lt 9, 3) := by decide +kernel
theorem dX8_sees_4 : decode cX8_sees 4 = .ok (.iload_n 1, 1) := by decide +kernel
theorem dX8_sees_5 : decode cX8_sees 5 = .ok (.bipush 16, 2) := by decide +kernel
theorem dX8_sees_7 : decode cX8_sees 7 = .ok (.if_icmp .le 6, 3) := by decide +kernel
theorem dX8_sees_10 : decode cX8_sees 10 = .ok (.bipush (-2), 2) := by decide +kernel
theorem dX8_sees_12 : decode cX8_sees 12 = .ok (.ireturn, 1) := by decide +kernel
theorem dX8_sees_13 : decode cX8_sees 13 = .ok (.aload_n 0, 1) := by decide +kernel
theorem dX8_sees_14 : decode cX8_sees 14 = .ok (.getfield 80, 3) := by decide +kernel
theorem dX8_sees_17 : decode cX8_sees 17 = .ok (.aload_n 0, 1) := by decide +kernel
theorem dX8_sees_18 : decode cX8_sees 18 = .ok (.getfield 51, 3) := by decide +kernel
theorem dX8_sees_21 : decode cX8_sees 21 = .ok (.arraylength, 1) := by decide +kernel
theorem dX8_sees_22 : decode cX8_sees 22 = .ok (.if_icmp .lt 6, 3) := by decide +kernel
theorem dX8_sees_25 : decode cX8_sees 25 = .ok (.bipush (-4), 2) := by decide +kernel
theorem dX8_sees_27 : decode cX8_sees 27 = .ok (.ireturn, 1) := by decide +kernel
theorem dX8_sees_28 : decode cX8_sees 28 = .ok (.aload_n 0, 1) := by decide +kernel
theorem dX8_sees_29 : decode cX8_sees 29 = .ok (.getfield 51, 3) := by decide +kernel
theorem dX8_sees_32 : decode cX8_sees 32 = .ok (.aload_n 0, 1) := by decide +kernel
theorem dX8_sees_33 : decode cX8_sees 33 = .ok (.getfield 80, 3) := by decide +kernel
theorem dX8_sees_36 : decode cX8_sees 36 = .ok (.iload_n 1, 1) := by decide +kernel
theorem dX8_sees_37 : decode cX8_sees 37 = .ok (.iastore, 1) := by decide +kernel
theorem dX8_sees_38 : decode cX8_sees 38 = .ok (.aload_n 0, 1) := by decide +kernel
theorem dX8_sees_39 : decode cX8_sees 39 = .ok (.dup, 1) := by decide +kernel
theorem dX8_sees_40 : decode cX8_sees 40 = .ok (.getfield 80, 3) := by decide +kernel
theorem dX8_sees_43 : decode cX8_sees 43 = .ok (.iconst 1, 1) := by decide +kernel
theorem dX8_sees_44 : decode cX8_sees 44 = .ok (.iadd, 1) := by decide +kernel
theorem dX8_sees_45 : decode cX8_sees 45 = .ok (.putfield 80, 3) := by decide +kernel
theorem dX8_sees_48 : decode cX8_sees 48 = .ok (.aload_n 0, 1) := by decide +kernel
theorem dX8_sees_49 : decode cX8_sees 49 = .ok (.getfield 80, 3) := by decide +kernel
theorem dX8_sees_52 : decode cX8_sees 52 = .ok (.ireturn, 1) := by decide +kernel
theorem dX8_forget_0 : decode cX8_forget 0 = .ok (.aload_n 0, 1) := by decide +kernel
theorem dX8_forget_1 : decode cX8_forget 1 = .ok (.getfield 80, 3) := by decide +kernel
theorem dX8_forget_4 : decode cX8_forget 4 = .ok (.istore_n 1, 1) := by decide +kernel
theorem dX8_forget_5 : decode cX8_forget 5 = .ok (.aload_n 0, 1) := by decide +kernel
theorem dX8_forget_6 : decode cX8_forget 6 = .ok (.iconst 0, 1) := by decide +kernel
theorem dX8_forget_7 : decode cX8_forget 7 = .ok (.putfield 80, 3) := by decide +kernel
theorem dX8_forget_10 : decode cX8_forget 10 = .ok (.iload_n 1, 1) := by decide +kernel
theorem dX8_forget_11 : decode cX8_forget 11 = .ok (.ireturn, 1) := by decide +kernel
set_option maxRecDepth 20000 in
theorem ggX8_unseen_X6_copyFrom : GoodIn wsX8_unseen wsX6_copyFrom := goodIn_r _ [8, 9, 10, 11, 12, 13, 14, 76, 77] (by decide +kernel) (by decide +kernel)
set_option maxRecDepth 20000 in
theorem gX8_unseen_X6_copyFrom : GoodIn wsX8_unseen (wsV RX8 73 RX6 yX6_copyFrom wsX6_copyFrom) := goodIn_app (goodIn_of _ (by decide +kernel)) ggX8_unseen_X6_copyFrom
set_option maxRecDepth 20000 in
theorem ggX8_unseen_X6_placeOfTwo : GoodIn wsX8_unseen wsX6_placeOfTwo := goodIn_r _ [17] (by decide +kernel) (by decide +kernel)
set_option maxRecDepth 20000 in
theorem gX8_unseen_X6_placeOfTwo : GoodIn wsX8_unseen (va_wsS RX8 104 yX6_placeOfTwo wsX6_placeOfTwo) := goodIn_app (goodIn_of _ (by decide +kernel)) ggX8_unseen_X6_placeOfTwo
set_option maxRecDepth 20000 in
theorem ggX8_unseen_X8_someOtherValueFits : GoodIn wsX8_unseen wsX8_someOtherValueFits := goodIn_r _ [22, 2, 3, 1, 23, 24, 25, 7, 26, 10, 27, 28, 29, 30, 31, 32, 33, 34, 35, 36, 37, 38, 9, 39, 40, 41, 42, 43, 44, 45, 46, 47, 48, 49, 50, 51, 52, 53, 54, 55, 56, 57, 16, 17, 58, 59, 60, 21, 61, 62, 63, 64, 65, 66, 67, 68, 69, 70, 71, 72, 73, 74, 75, 76, 77] (by decide +kernel) (by decide +kernel)
set_option maxRecDepth 20000 in
theorem gX8_unseen_X8_someOtherValueFits : GoodIn wsX8_unseen (wsV RX8 201 RX8 yX8_someOtherValueFits wsX8_someOtherValueFits) := goodIn_app (goodIn_of _ (by decide +kernel)) ggX8_unseen_X8_someOtherValueFits
theorem dX8_unseen_0 : decode cX8_unseen 0 = .ok (.iconst 0, 1) := by decide +kernel
theorem dX8_unseen_1 : decode cX8_unseen 1 = .ok (.istore_n 1, 1) := by decide +kernel
theorem dX8_unseen_2 : decode cX8_unseen 2 = .ok (.aload_n 0, 1) := by decide +kernel
theorem dX8_unseen_3 : decode cX8_unseen 3 = .ok (.getfield 16, 3) := by decide +kernel
theorem dX8_unseen_6 : decode cX8_unseen 6 = .ok (.aload_n 0, 1) := by decide +kernel
theorem dX8_unseen_7 : decode cX8_unseen 7 = .ok (.getfield 10, 3) := by decide +kernel
theorem dX8_unseen_10 : decode cX8_unseen 10 = .ok (.invokevirtual 73, 3) := by decide +kernel
theorem dX8_unseen_13 : decode cX8_unseen 13 = .ok (.iconst 0, 1) := by decide +kernel
theorem dX8_unseen_14 : decode cX8_unseen 14 = .ok (.istore_n 2, 1) := by decide +kernel
theorem dX8_unseen_15 : decode cX8_unseen 15 = .ok (.iload_n 2, 1) := by decide +kernel
theorem dX8_unseen_16 : decode cX8_unseen 16 = .ok (.aload_n 0, 1) := by decide +kernel
theorem dX8_unseen_17 : decode cX8_unseen 17 = .ok (.getfield 10, 3) := by decide +kernel
theorem dX8_unseen_20 : decode cX8_unseen 20 = .ok (.getfield 187, 3) := by decide +kernel
theorem dX8_unseen_23 : decode cX8_unseen 23 = .ok (.if_icmp .ge 56, 3) := by decide +kernel
theorem dX8_unseen_26 : decode cX8_unseen 26 = .ok (.iconst 0, 1) := by decide +kernel
theorem dX8_unseen_27 : decode cX8_unseen 27 = .ok (.istore_n 3, 1) := by decide +kernel
theorem dX8_unseen_28 : decode cX8_unseen 28 = .ok (.iload_n 3, 1) := by decide +kernel
theorem dX8_unseen_29 : decode cX8_unseen 29 = .ok (.aload_n 0, 1) := by decide +kernel
theorem dX8_unseen_30 : decode cX8_unseen 30 = .ok (.getfield 10, 3) := by decide +kernel
theorem dX8_unseen_33 : decode cX8_unseen 33 = .ok (.getfield 187, 3) := by decide +kernel
theorem dX8_unseen_36 : decode cX8_unseen 36 = .ok (.if_icmp .ge 37, 3) := by decide +kernel
theorem dX8_unseen_39 : decode cX8_unseen 39 = .ok (.aload_n 0, 1) := by decide +kernel
theorem dX8_unseen_40 : decode cX8_unseen 40 = .ok (.iload_n 2, 1) := by decide +kernel
theorem dX8_unseen_41 : decode cX8_unseen 41 = .ok (.iload_n 3, 1) := by decide +kernel
theorem dX8_unseen_42 : decode cX8_unseen 42 = .ok (.invokestatic 104, 3) := by decide +kernel
theorem dX8_unseen_45 : decode cX8_unseen 45 = .ok (.invokevirtual 201, 3) := by decide +kernel
theorem dX8_unseen_48 : decode cX8_unseen 48 = .ok (.ifCond .eq 19, 3) := by decide +kernel
theorem dX8_unseen_51 : decode cX8_unseen 51 = .ok (.iload_n 1, 1) := by decide +kernel
theorem dX8_unseen_52 : decode cX8_unseen 52 = .ok (.iconst 1, 1) := by decide +kernel
theorem dX8_unseen_53 : decode cX8_unseen 53 = .ok (.aload_n 0, 1) := by decide +kernel
theorem dX8_unseen_54 : decode cX8_unseen 54 = .ok (.getfield 10, 3) := by decide +kernel
theorem dX8_unseen_57 : decode cX8_unseen 57 = .ok (.getfield 187, 3) := by decide +kernel
theorem dX8_unseen_60 : decode cX8_unseen 60 = .ok (.iload_n 2, 1) := by decide +kernel
theorem dX8_unseen_61 : decode cX8_unseen 61 = .ok (.imul, 1) := by decide +kernel
theorem dX8_unseen_62 : decode cX8_unseen 62 = .ok (.iload_n 3, 1) := by decide +kernel
theorem dX8_unseen_63 : decode cX8_unseen 63 = .ok (.iadd, 1) := by decide +kernel
theorem dX8_unseen_64 : decode cX8_unseen 64 = .ok (.ishl, 1) := by decide +kernel
theorem dX8_unseen_65 : decode cX8_unseen 65 = .ok (.ior, 1) := by decide +kernel
theorem dX8_unseen_66 : decode cX8_unseen 66 = .ok (.istore_n 1, 1) := by decide +kernel
theorem dX8_unseen_67 : decode cX8_unseen 67 = .ok (.iinc 3 1, 3) := by decide +kernel
theorem dX8_unseen_70 : decode cX8_unseen 70 = .ok (.goto (-42), 3) := by decide +kernel
theorem dX8_unseen_73 : decode cX8_unseen 73 = .ok (.iinc 2 1, 3) := by decide +kernel
theorem dX8_unseen_76 : decode cX8_unseen 76 = .ok (.goto (-61), 3) := by decide +kernel
theorem dX8_unseen_79 : decode cX8_unseen 79 = .ok (.iload_n 1, 1) := by decide +kernel
theorem dX8_unseen_80 : decode cX8_unseen 80 = .ok (.ireturn, 1) := by decide +kernel
set_option maxRecDepth 20000 in
theorem ggX8_someOtherValueFits_X6_at : GoodIn wsX8_someOtherValueFits wsX6_at := goodIn_r _ [8, 9, 63, 64] (by decide +kernel) (by decide +kernel)
set_option maxRecDepth 20000 in
theorem gX8_someOtherValueFits_X6_at : GoodIn wsX8_someOtherValueFits (wsV RX8 107 RX6 yX6_at wsX6_at) := goodIn_app (goodIn_of _ (by decide +kernel)) ggX8_someOtherValueFits_X6_at
set_option maxRecDepth 20000 in
theorem ggX8_someOtherValueFits_X6_put : GoodIn wsX8_someOtherValueFits wsX6_put := goodIn_r _ [13, 9, 63, 64] (by decide +kernel) (by decide +kernel)
set_option maxRecDepth 20000 in
theorem gX8_someOtherValueFits_X6_put : GoodIn wsX8_someOtherValueFits (wsV RX8 114 RX6 yX6_put wsX6_put) := goodIn_app (goodIn_of _ (by decide +kernel)) ggX8_someOtherValueFits_X6_put
set_option maxRecDepth 20000 in
theorem ggX8_someOtherValueFits_X0_howMany : GoodIn wsX8_someOtherValueFits wsX0_howMany := goodIn_r _ [17, 18, 19, 20, 7, 21, 22, 23, 24, 16, 25, 26, 27, 28, 29, 30, 31, 32, 33, 9, 34, 35, 36, 37, 38, 39, 40, 41, 42, 43, 63, 64] (by decide +kernel) (by decide +kernel)
set_option maxRecDepth 20000 in
theorem gX8_someOtherValueFits_X0_howMany : GoodIn wsX8_someOtherValueFits (va_wsS RX8 204 yX0_howMany wsX0_howMany) := goodIn_app (goodIn_of _ (by decide +kernel)) ggX8_someOtherValueFits_X0_howMany
set_option maxRecDepth 20000 in
theorem ggX8_someOtherValueFits_X8_allSeenIs : GoodIn wsX8_someOtherValueFits wsX8_allSeenIs := goodIn_r _ [48, 49, 50, 51, 52, 53, 54, 55, 56, 57, 58, 59, 60, 61, 62] (by decide +kernel) (by decide +kernel)
set_option maxRecDepth 20000 in
theorem gX8_someOtherValueFits_X8_allSeenIs : GoodIn wsX8_someOtherValueFits (wsV RX8 207 RX8 yX8_allSeenIs wsX8_allSeenIs) := goodIn_app (goodIn_of _ (by decide +kernel)) ggX8_someOtherValueFits_X8_allSeenIs
theorem dX8_someOtherValueFits_0 : decode cX8_someOtherValueFits 0 = .ok (.aload_n 0, 1) := by decide +kernel
theorem dX8_someOtherValueFits_1 : decode cX8_someOtherValueFits 1 = .ok (.getfield 10, 3) := by decide +kernel
theorem dX8_someOtherValueFits_4 : decode cX8_someOtherValueFits 4 = .ok (.iload_n 1, 1) := by decide +kernel
theorem dX8_someOtherValueFits_5 : decode cX8_someOtherValueFits 5 = .ok (.invokevirtual 107, 3) := by decide +kernel
theorem dX8_someOtherValueFits_8 : decode cX8_someOtherValueFits 8 = .ok (.istore_n 2, 1) := by decide +kernel
theorem dX8_someOtherValueFits_9 : decode cX8_someOtherValueFits 9 = .ok (.iconst 0, 1) := by decide +kernel
theorem dX8_someOtherValueFits_10 : decode cX8_someOtherValueFits 10 = .ok (.istore_n 3, 1) := by decide +kernel
theorem dX8_someOtherValueFits_11 : decode cX8_someOtherValueFits 11 = .ok (.iconst 0, 1) := by decide +kernel
theorem dX8_someOtherValueFits_12 : decode cX8_someOtherValueFits 12 = .ok (.istore 4, 2) := by decide +kernel
theorem dX8_someOtherValueFits_14 : decode cX8_someOtherValueFits 14 = .ok (.iload 4, 2) := by decide +kernel
theorem dX8_someOtherValueFits_16 : decode cX8_someOtherValueFits 16 = .ok (.aload_n 0, 1) := by decide +kernel
theorem dX8_someOtherValueFits_17 : decode cX8_someOtherValueFits 17 = .ok (.getfield 10, 3) := by decide +kernel
theorem dX8_someOtherValueFits_20 : decode cX8_someOtherValueFits 20 = .ok (.getfield 187, 3) := by decide +kernel
theorem dX8_someOtherValueFits_23 : decode cX8_someOtherValueFits 23 = .ok (.if_icmp .ge 49, 3) := by decide +kernel
theorem dX8_someOtherValueFits_26 : decode cX8_someOtherValueFits 26 = .ok (.iload_n 3, 1) := by decide +kernel
theorem dX8_someOtherValueFits_27 : decode cX8_someOtherValueFits 27 = .ok (.ifCond .ne 45, 3) := by decide +kernel
theorem dX8_someOtherValueFits_30 : decode cX8_someOtherValueFits 30 = .ok (.aload_n 0, 1) := by decide +kernel
theorem dX8_someOtherValueFits_31 : decode cX8_someOtherValueFits 31 = .ok (.getfield 16, 3) := by decide +kernel
theorem dX8_someOtherValueFits_34 : decode cX8_someOtherValueFits 34 = .ok (.iload_n 1, 1) := by decide +kernel
theorem dX8_someOtherValueFits_35 : decode cX8_someOtherValueFits 35 = .ok (.iload 4, 2) := by decide +kernel
theorem dX8_someOtherValueFits_37 : decode cX8_someOtherValueFits 37 = .ok (.invokevirtual 114, 3) := by decide +kernel
theorem dX8_someOtherValueFits_40 : decode cX8_someOtherValueFits 40 = .ok (.iload 4, 2) := by decide +kernel
theorem dX8_someOtherValueFits_42 : decode cX8_someOtherValueFits 42 = .ok (.iload_n 2, 1) := by decide +kernel
theorem dX8_someOtherValueFits_43 : decode cX8_someOtherValueFits 43 = .ok (.if_icmp .eq 21, 3) := by decide +kernel
theorem dX8_someOtherValueFits_46 : decode cX8_someOtherValueFits 46 = .ok (.aload_n 0, 1) := by decide +kernel
theorem dX8_someOtherValueFits_47 : decode cX8_someOtherValueFits 47 = .ok (.aload_n 0, 1) := by decide +kernel
theorem dX8_someOtherValueFits_48 : decode cX8_someOtherValueFits 48 = .ok (.getfield 16, 3) := by decide +kernel
theorem dX8_someOtherValueFits_51 : decode cX8_someOtherValueFits 51 = .ok (.invokestatic 204, 3) := by decide +kernel
theorem dX8_someOtherValueFits_54 : decode cX8_someOtherValueFits 54 = .ok (.invokevirtual 207, 3) := by decide +kernel
theorem dX8_someOtherValueFits_57 : decode cX8_someOtherValueFits 57 = .ok (.ifCond .eq 7, 3) := by decide +kernel
theorem dX8_someOtherValueFits_60 : decode cX8_someOtherValueFits 60 = .ok (.iconst 1, 1) := by decide +kernel
theorem dX8_someOtherValueFits_61 : decode cX8_someOtherValueFits 61 = .ok (.goto 4, 3) := by decide +kernel
theorem dX8_someOtherValueFits_64 : decode cX8_someOtherValueFits 64 = .ok (.iconst 0, 1) := by decide +kernel
theorem dX8_someOtherValueFits_65 : decode cX8_someOtherValueFits 65 = .ok (.istore_n 3, 1) := by decide +kernel
theorem dX8_someOtherValueFits_66 : decode cX8_someOtherValueFits 66 = .ok (.iinc 4 1, 3) := by decide +kernel
theorem dX8_someOtherValueFits_69 : decode cX8_someOtherValueFits 69 = .ok (.goto (-55), 3) := by decide +kernel
theorem dX8_someOtherValueFits_72 : decode cX8_someOtherValueFits 72 = .ok (.aload_n 0, 1) := by decide +kernel
theorem dX8_someOtherValueFits_73 : decode cX8_someOtherValueFits 73 = .ok (.getfield 16, 3) := by decide +kernel
theorem dX8_someOtherValueFits_76 : decode cX8_someOtherValueFits 76 = .ok (.iload_n 1, 1) := by decide +kernel
theorem dX8_someOtherValueFits_77 : decode cX8_someOtherValueFits 77 = .ok (.iload_n 2, 1) := by decide +kernel
theorem dX8_someOtherValueFits_78 : decode cX8_someOtherValueFits 78 = .ok (.invokevirtual 114, 3) := by decide +kernel
theorem dX8_someOtherValueFits_81 : decode cX8_someOtherValueFits 81 = .ok (.iload_n 3, 1) := by decide +kernel
theorem dX8_someOtherValueFits_82 : decode cX8_someOtherValueFits 82 = .ok (.ireturn, 1) := by decide +kernel
theorem dX8_allSeenIs_0 : decode cX8_allSeenIs 0 = .ok (.iconst 0, 1) := by decide +kernel
theorem dX8_allSeenIs_1 : decode cX8_allSeenIs 1 = .ok (.istore_n 2, 1) := by decide +kernel
theorem dX8_allSeenIs_2 : decode cX8_allSeenIs 2 = .ok (.iload_n 2, 1) := by decide +kernel
theorem dX8_allSeenIs_3 : decode cX8_allSeenIs 3 = .ok (.aload_n 0, 1) := by decide +kernel
theorem dX8_allSeenIs_4 : decode cX8_allSeenIs 4 = .ok (.getfield 80, 3) := by decide +kernel
theorem dX8_allSeenIs_7 : decode cX8_allSeenIs 7 = .ok (.if_icmp .ge 30, 3) := by decide +kernel
theorem dX8_allSeenIs_10 : decode cX8_allSeenIs 10 = .ok (.iload_n 2, 1) := by decide +kernel
theorem dX8_allSeenIs_11 : decode cX8_allSeenIs 11 = .ok (.aload_n 0, 1) := by decide +kernel
theorem dX8_allSeenIs_12 : decode cX8_allSeenIs 12 = .ok (.getfield 51, 3) := by decide +kernel
theorem dX8_allSeenIs_15 : decode cX8_allSeenIs 15 = .ok (.arraylength, 1) := by decide +kernel
theorem dX8_allSeenIs_16 : decode cX8_allSeenIs 16 = .ok (.if_icmp .ge 21, 3) := by decide +kernel
theorem dX8_allSeenIs_19 : decode cX8_allSeenIs 19 = .ok (.aload_n 0, 1) := by decide +kernel
theorem dX8_allSeenIs_20 : decode cX8_allSeenIs 20 = .ok (.getfield 51, 3) := by decide +kernel
theorem dX8_allSeenIs_23 : decode cX8_allSeenIs 23 = .ok (.iload_n 2, 1) := by decide +kernel
theorem dX8_allSeenIs_24 : decode cX8_allSeenIs 24 = .ok (.iaload, 1) := by decide +kernel
theorem dX8_allSeenIs_25 : decode cX8_allSeenIs 25 = .ok (.iload_n 1, 1) := by decide +kernel
theorem dX8_allSeenIs_26 : decode cX8_allSeenIs 26 = .ok (.if_icmp .eq 5, 3) := by decide +kernel
theorem dX8_allSeenIs_29 : decode cX8_allSeenIs 29 = .ok (.iconst 0, 1) := by decide +kernel
theorem dX8_allSeenIs_30 : decode cX8_allSeenIs 30 = .ok (.ireturn, 1) := by decide +kernel
theorem dX8_allSeenIs_31 : decode cX8_allSeenIs 31 = .ok (.iinc 2 1, 3) := by decide +kernel
theorem dX8_allSeenIs_34 : decode cX8_allSeenIs 34 = .ok (.goto (-32), 3) := by decide +kernel
theorem dX8_allSeenIs_37 : decode cX8_allSeenIs 37 = .ok (.iconst 1, 1) := by decide +kernel
theorem dX8_allSeenIs_38 : decode cX8_allSeenIs 38 = .ok (.ireturn, 1) := by decide +kernel
set_option maxRecDepth 20000 in
theorem ggX8_keep_X6_copyFrom : GoodIn wsX8_keep wsX6_copyFrom := goodIn_r _ [9, 10, 11, 12, 13, 14, 15, 28, 29] (by decide +kernel) (by decide +kernel)
set_option maxRecDepth 20000 in
theorem gX8_keep_X6_copyFrom : GoodIn wsX8_keep (wsV RX8 73 RX6 yX6_copyFrom wsX6_copyFrom) := goodIn_app (goodIn_of _ (by decide +kernel)) ggX8_keep_X6_copyFrom
theorem dX8_keep_0 : decode cX8_keep 0 = .ok (.iload_n 1, 1) := by decide +kernel
theorem dX8_keep_1 : decode cX8_keep 1 = .ok (.ifCond .lt 12, 3) := by decide +kernel
theorem dX8_keep_4 : decode cX8_keep 4 = .ok (.iload_n 1, 1) := by decide +kernel
theorem dX8_keep_5 : decode cX8_keep 5 = .ok (.aload_n 0, 1) := by decide +kernel
theorem dX8_keep_6 : decode cX8_keep 6 = .ok (.getfield 54, 3) := by decide +kernel
theorem dX8_keep_9 : decode cX8_keep 9 = .ok (.arraylength, 1) := by decide +kernel
theorem dX8_keep_10 : decode cX8_keep 10 = .ok (.if_icmp .lt 6, 3) := by decide +kernel
theorem dX8_keep_13 : decode cX8_keep 13 = .ok (.bipush (-2), 2) := by decide +kernel
theorem dX8_keep_15 : decode cX8_keep 15 = .ok (.ireturn, 1) := by decide +kernel
theorem dX8_keep_16 : decode cX8_keep 16 = .ok (.aload_n 0, 1) := by decide +kernel
theorem dX8_keep_17 : decode cX8_keep 17 = .ok (.getfield 54, 3) := by decide +kernel
theorem dX8_keep_20 : decode cX8_keep 20 = .ok (.iload_n 1, 1) := by decide +kernel
theorem dX8_keep_21 : decode cX8_keep 21 = .ok (.aaload, 1) := by decide +kernel
theorem dX8_keep_22 : decode cX8_keep 22 = .ok (.aload_n 0, 1) := by decide +kernel
theorem dX8_keep_23 : decode cX8_keep 23 = .ok (.getfield 10, 3) := by decide +kernel
theorem dX8_keep_26 : decode cX8_keep 26 = .ok (.invokevirtual 73, 3) := by decide +kernel
theorem dX8_keep_29 : decode cX8_keep 29 = .ok (.aload_n 0, 1) := by decide +kernel
theorem dX8_keep_30 : decode cX8_keep 30 = .ok (.dup, 1) := by decide +kernel
theorem dX8_keep_31 : decode cX8_keep 31 = .ok (.getfield 83, 3) := by decide +kernel
theorem dX8_keep_34 : decode cX8_keep 34 = .ok (.iconst 1, 1) := by decide +kernel
theorem dX8_keep_35 : decode cX8_keep 35 = .ok (.iload_n 1, 1) := by decide +kernel
theorem dX8_keep_36 : decode cX8_keep 36 = .ok (.ishl, 1) := by decide +kernel
theorem dX8_keep_37 : decode cX8_keep 37 = .ok (.ior, 1) := by decide +kernel
theorem dX8_keep_38 : decode cX8_keep 38 = .ok (.putfield 83, 3) := by decide +kernel
theorem dX8_keep_41 : decode cX8_keep 41 = .ok (.aload_n 0, 1) := by decide +kernel
theorem dX8_keep_42 : decode cX8_keep 42 = .ok (.getfield 10, 3) := by decide +kernel
theorem dX8_keep_45 : decode cX8_keep 45 = .ok (.getfield 187, 3) := by decide +kernel
theorem dX8_keep_48 : decode cX8_keep 48 = .ok (.ireturn, 1) := by decide +kernel
set_option maxRecDepth 20000 in
theorem ggX8_back_X6_copyFrom : GoodIn wsX8_back wsX6_copyFrom := goodIn_r _ [10, 11, 12, 13, 14, 15, 16, 35, 36] (by decide +kernel) (by decide +kernel)
set_option maxRecDepth 20000 in
theorem gX8_back_X6_copyFrom : GoodIn wsX8_back (wsV RX8 73 RX6 yX6_copyFrom wsX6_copyFrom) := goodIn_app (goodIn_of _ (by decide +kernel)) ggX8_back_X6_copyFrom
set_option maxRecDepth 20000 in
theorem ggX8_back_X2_loseAll : GoodIn wsX8_back wsX2_loseAll := goodIn_r _ [21, 22, 37, 38, 39] (by decide +kernel) (by decide +kernel)
set_option maxRecDepth 20000 in
theorem gX8_back_X2_loseAll : GoodIn wsX8_back (wsV RX8 77 RX2 yX2_loseAll wsX2_loseAll) := goodIn_app (goodIn_of _ (by decide +kernel)) ggX8_back_X2_loseAll
theorem dX8_back_0 : decode cX8_back 0 = .ok (.iload_n 1, 1) := by decide +kernel
theorem dX8_back_1 : decode cX8_back 1 = .ok (.ifCond .lt 12, 3) := by decide +kernel
theorem dX8_back_4 : decode cX8_back 4 = .ok (.iload_n 1, 1) := by decide +kernel
theorem dX8_back_5 : decode cX8_back 5 = .ok (.aload_n 0, 1) := by decide +kernel
theorem dX8_back_6 : decode cX8_back 6 = .ok (.getfield 54, 3) := by decide +kernel
theorem dX8_back_9 : decode cX8_back 9 = .ok (.arraylength, 1) := by decide +kernel
theorem dX8_back_10 : decode cX8_back 10 = .ok (.if_icmp .lt 6, 3) := by decide +kernel
theorem dX8_back_13 : decode cX8_back 13 = .ok (.bipush (-2), 2) := by decide +kernel
theorem dX8_back_15 : decode cX8_back 15 = .ok (.ireturn, 1) := by decide +kernel
theorem dX8_back_16 : decode cX8_back 16 = .ok (.aload_n 0, 1) := by decide +kernel
theorem dX8_back_17 : decode cX8_back 17 = .ok (.getfield 83, 3) := by decide +kernel
theorem dX8_back_20 : decode cX8_back 20 = .ok (.iload_n 1, 1) := by decide +kernel
theorem dX8_back_21 : decode cX8_back 21 = .ok (.ishr, 1) := by decide +kernel
theorem dX8_back_22 : decode cX8_back 22 = .ok (.iconst 1, 1) := by decide +kernel
theorem dX8_back_23 : decode cX8_back 23 = .ok (.iand, 1) := by decide +kernel
theorem dX8_back_24 : decode cX8_back 24 = .ok (.ifCond .ne 6, 3) := by decide +kernel
theorem dX8_back_27 : decode cX8_back 27 = .ok (.bipush (-3), 2) := by decide +kernel
theorem dX8_back_29 : decode cX8_back 29 = .ok (.ireturn, 1) := by decide +kernel
theorem dX8_back_30 : decode cX8_back 30 = .ok (.aload_n 0, 1) := by decide +kernel
theorem dX8_back_31 : decode cX8_back 31 = .ok (.getfield 10, 3) := by decide +kernel
theorem dX8_back_34 : decode cX8_back 34 = .ok (.aload_n 0, 1) := by decide +kernel
theorem dX8_back_35 : decode cX8_back 35 = .ok (.getfield 54, 3) := by decide +kernel
theorem dX8_back_38 : decode cX8_back 38 = .ok (.iload_n 1, 1) := by decide +kernel
theorem dX8_back_39 : decode cX8_back 39 = .ok (.aaload, 1) := by decide +kernel
theorem dX8_back_40 : decode cX8_back 40 = .ok (.invokevirtual 73, 3) := by decide +kernel
theorem dX8_back_43 : decode cX8_back 43 = .ok (.aload_n 0, 1) := by decide +kernel
theorem dX8_back_44 : decode cX8_back 44 = .ok (.getfield 29, 3) := by decide +kernel
theorem dX8_back_47 : decode cX8_back 47 = .ok (.invokevirtual 77, 3) := by decide +kernel
theorem dX8_back_50 : decode cX8_back 50 = .ok (.aload_n 0, 1) := by decide +kernel
theorem dX8_back_51 : decode cX8_back 51 = .ok (.getfield 10, 3) := by decide +kernel
theorem dX8_back_54 : decode cX8_back 54 = .ok (.getfield 187, 3) := by decide +kernel
theorem dX8_back_57 : decode cX8_back 57 = .ok (.ireturn, 1) := by decide +kernel
set_option maxRecDepth 20000 in
theorem ggX8_count_X0_howMany : GoodIn wsX8_count wsX0_howMany := goodIn_r _ [12, 13, 14, 15, 16, 17, 18, 19, 20, 11, 21, 22, 23, 24, 25, 26, 27, 28, 29, 30, 31, 32, 33, 34, 35, 36, 37, 38, 39, 40, 117, 118] (by decide +kernel) (by decide +kernel)
set_option maxRecDepth 20000 in
theorem gX8_count_X0_howMany : GoodIn wsX8_count (va_wsS RX8 204 yX0_howMany wsX0_howMany) := goodIn_app (goodIn_of _ (by decide +kernel)) ggX8_count_X0_howMany
set_option maxRecDepth 20000 in
theorem ggX8_count_X1_seekIn : GoodIn wsX8_count wsX1_seekIn := goodIn_r _ [45, 46, 47, 48, 49, 50, 51, 52, 44, 53, 54, 55, 56, 57, 58, 59, 60, 27, 28, 16, 29, 30, 31, 32, 33, 61, 62, 63, 64, 35, 36, 37, 38, 39, 40, 117, 118, 119, 120, 121] (by decide +kernel) (by decide +kernel)
set_option maxRecDepth 20000 in
theorem gX8_count_X1_seekIn : GoodIn wsX8_count (wsV RX8 151 RX1 yX1_seekIn wsX1_seekIn) := goodIn_app (goodIn_of _ (by decide +kernel)) ggX8_count_X1_seekIn
set_option maxRecDepth 20000 in
theorem ggX8_count_X3_thatHold : GoodIn wsX8_count wsX3_thatHold := goodIn_r _ [68, 69, 70, 67, 71, 72, 73, 74, 75, 76, 77, 78, 79, 35, 36, 16, 37, 30, 38, 39, 40, 80, 27, 28, 29, 31, 32, 33, 117, 118] (by decide +kernel) (by decide +kernel)
set_option maxRecDepth 20000 in
theorem gX8_count_X3_thatHold : GoodIn wsX8_count (va_wsS RX8 213 yX3_thatHold wsX3_thatHold) := goodIn_app (goodIn_of _ (by decide +kernel)) ggX8_count_X3_thatHold
set_option maxRecDepth 20000 in
theorem ggX8_count_X4_howMany : GoodIn wsX8_count wsX4_howMany := goodIn_r _ [84, 85, 86, 87, 83, 88, 89, 90, 91, 92, 93, 94, 16, 95, 18, 96, 97, 98, 99, 14, 15, 17, 100, 101, 102, 103, 27, 28, 29, 30, 31, 32, 33, 104, 35, 36, 37, 38, 39, 40, 117, 118] (by decide +kernel) (by decide +kernel)
set_option maxRecDepth 20000 in
theorem gX8_count_X4_howMany : GoodIn wsX8_count (va_wsS RX8 216 yX4_howMany wsX4_howMany) := goodIn_app (goodIn_of _ (by decide +kernel)) ggX8_count_X4_howMany
theorem dX8_count_0 : decode cX8_count 0 = .ok (.iload_n 1, 1) := by decide +kernel
theorem dX8_count_1 : decode cX8_count 1 = .ok (.tableswitch 130 0 8 #[51, 59, 67, 86, 94, 103, 112, 117, 122], 51) := by decide +kernel
theorem dX8_count_52 : decode cX8_count 52 = .ok (.aload_n 0, 1) := by decide +kernel
theorem dX8_count_53 : decode cX8_count 53 = .ok (.getfield 10, 3) := by decide +kernel
theorem dX8_count_56 : decode cX8_count 56 = .ok (.getfield 187, 3) := by decide +kernel
theorem dX8_count_59 : decode cX8_count 59 = .ok (.ireturn, 1) := by decide +kernel
theorem dX8_count_60 : decode cX8_count 60 = .ok (.aload_n 0, 1) := by decide +kernel
theorem dX8_count_61 : decode cX8_count 61 = .ok (.getfield 10, 3) := by decide +kernel
theorem dX8_count_64 : decode cX8_count 64 = .ok (.invokestatic 204, 3) := by decide +kernel
theorem dX8_count_67 : decode cX8_count 67 = .ok (.ireturn, 1) := by decide +kernel
theorem dX8_count_68 : decode cX8_count 68 = .ok (.aload_n 0, 1) := by decide +kernel
theorem dX8_count_69 : decode cX8_count 69 = .ok (.getfield 36, 3) := by decide +kernel
theorem dX8_count_72 : decode cX8_count 72 = .ok (.aload_n 0, 1) := by decide +kernel
theorem dX8_count_73 : decode cX8_count 73 = .ok (.getfield 10, 3) := by decide +kernel
theorem dX8_count_76 : decode cX8_count 76 = .ok (.invokevirtual 151, 3) := by decide +kernel
theorem dX8_count_79 : decode cX8_count 79 = .ok (.aload_n 0, 1) := by decide +kernel
theorem dX8_count_80 : decode cX8_count 80 = .ok (.getfield 36, 3) := by decide +kernel
theorem dX8_count_83 : decode cX8_count 83 = .ok (.getfield 210, 3) := by decide +kernel
theorem dX8_count_86 : decode cX8_count 86 = .ok (.ireturn, 1) := by decide +kernel
theorem dX8_count_87 : decode cX8_count 87 = .ok (.aload_n 0, 1) := by decide +kernel
theorem dX8_count_88 : decode cX8_count 88 = .ok (.getfield 10, 3) := by decide +kernel
theorem dX8_count_91 : decode cX8_count 91 = .ok (.invokestatic 213, 3) := by decide +kernel
theorem dX8_count_94 : decode cX8_count 94 = .ok (.ireturn, 1) := by decide +kernel
theorem dX8_count_95 : decode cX8_count 95 = .ok (.aload_n 0, 1) := by decide +kernel
theorem dX8_count_96 : decode cX8_count 96 = .ok (.getfield 10, 3) := by decide +kernel
theorem dX8_count_99 : decode cX8_count 99 = .ok (.iconst 0, 1) := by decide +kernel
theorem dX8_count_100 : decode cX8_count 100 = .ok (.invokestatic 216, 3) := by decide +kernel
theorem dX8_count_103 : decode cX8_count 103 = .ok (.ireturn, 1) := by decide +kernel
theorem dX8_count_104 : decode cX8_count 104 = .ok (.aload_n 0, 1) := by decide +kernel
theorem dX8_count_105 : decode cX8_count 105 = .ok (.getfield 10, 3) := by decide +kernel
theorem dX8_count_108 : decode cX8_count 108 = .ok (.iconst 1, 1) := by decide +kernel
theorem dX8_count_109 : decode cX8_count 109 = .ok (.invokestatic 216, 3) := by decide +kernel
theorem dX8_count_112 : decode cX8_count 112 = .ok (.ireturn, 1) := by decide +kernel
theorem dX8_count_113 : decode cX8_count 113 = .ok (.aload_n 0, 1) := by decide +kernel
theorem dX8_count_114 : decode cX8_count 114 = .ok (.getfield 80, 3) := by decide +kernel
theorem dX8_count_117 : decode cX8_count 117 = .ok (.ireturn, 1) := by decide +kernel
theorem dX8_count_118 : decode cX8_count 118 = .ok (.aload_n 0, 1) := by decide +kernel
theorem dX8_count_119 : decode cX8_count 119 = .ok (.getfield 62, 3) := by decide +kernel
theorem dX8_count_122 : decode cX8_count 122 = .ok (.ireturn, 1) := by decide +kernel
theorem dX8_count_123 : decode cX8_count 123 = .ok (.aload_n 0, 1) := by decide +kernel
theorem dX8_count_124 : decode cX8_count 124 = .ok (.getfield 29, 3) := by decide +kernel
theorem dX8_count_127 : decode cX8_count 127 = .ok (.getfield 117, 3) := by decide +kernel
theorem dX8_count_130 : decode cX8_count 130 = .ok (.ireturn, 1) := by decide +kernel
theorem dX8_count_131 : decode cX8_count 131 = .ok (.bipush (-2), 2) := by decide +kernel
theorem dX8_count_133 : decode cX8_count 133 = .ok (.ireturn, 1) := by decide +kernel
theorem dX8_oneIf_0 : decode cX8_oneIf 0 = .ok (.iload_n 0, 1) := by decide +kernel
theorem dX8_oneIf_1 : decode cX8_oneIf 1 = .ok (.ifCond .eq 7, 3) := by decide +kernel
theorem dX8_oneIf_4 : decode cX8_oneIf 4 = .ok (.iconst 1, 1) := by decide +kernel
theorem dX8_oneIf_5 : decode cX8_oneIf 5 = .ok (.goto 4, 3) := by decide +kernel
theorem dX8_oneIf_8 : decode cX8_oneIf 8 = .ok (.iconst 0, 1) := by decide +kernel
theorem dX8_oneIf_9 : decode cX8_oneIf 9 = .ok (.ireturn, 1) := by decide +kernel
