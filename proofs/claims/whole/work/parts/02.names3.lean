set_option maxRecDepth 20000 in
theorem ggX1_arePlaces_X1_bookOf : GoodIn wsX1_arePlaces wsX1_bookOf := goodIn_r _ [6, 7, 8, 9, 19, 20, 21, 22, 23, 24, 25, 26] (by decide +kernel) (by decide +kernel)
set_option maxRecDepth 20000 in
theorem gX1_arePlaces_X1_bookOf : GoodIn wsX1_arePlaces (wsV RX1 54 RX1 yX1_bookOf wsX1_bookOf) := goodIn_app (goodIn_of _ (by decide +kernel)) ggX1_arePlaces_X1_bookOf
set_option maxRecDepth 20000 in
theorem ggX1_arePlaces_X1_pick : GoodIn wsX1_arePlaces wsX1_pick := goodIn_r _ [12] (by decide +kernel) (by decide +kernel)
set_option maxRecDepth 20000 in
theorem gX1_arePlaces_X1_pick : GoodIn wsX1_arePlaces (va_wsS RX1 119 yX1_pick wsX1_pick) := goodIn_app (goodIn_of _ (by decide +kernel)) ggX1_arePlaces_X1_pick
set_option maxRecDepth 20000 in
theorem ggX1_arePlaces_X0_has : GoodIn wsX1_arePlaces wsX0_has := goodIn_r _ [17, 18, 27, 28, 29, 30, 31] (by decide +kernel) (by decide +kernel)
set_option maxRecDepth 20000 in
theorem gX1_arePlaces_X0_has : GoodIn wsX1_arePlaces (wsV RX1 68 RX0 yX0_has wsX0_has) := goodIn_app (goodIn_of _ (by decide +kernel)) ggX1_arePlaces_X0_has
theorem dX1_arePlaces_0 : decode cX1_arePlaces 0 = .ok (.iconst 0, 1) := by decide +kernel
theorem dX1_arePlaces_1 : decode cX1_arePlaces 1 = .ok (.istore 4, 2) := by decide +kernel
theorem dX1_arePlaces_3 : decode cX1_arePlaces 3 = .ok (.iload 4, 2) := by decide +kernel
theorem dX1_arePlaces_5 : decode cX1_arePlaces 5 = .ok (.aload_n 0, 1) := by decide +kernel
theorem dX1_arePlaces_6 : decode cX1_arePlaces 6 = .ok (.getfield 26, 3) := by decide +kernel
theorem dX1_arePlaces_9 : decode cX1_arePlaces 9 = .ok (.if_icmp .ge 31, 3) := by decide +kernel
theorem dX1_arePlaces_12 : decode cX1_arePlaces 12 = .ok (.aload_n 0, 1) := by decide +kernel
theorem dX1_arePlaces_13 : decode cX1_arePlaces 13 = .ok (.iload 4, 2) := by decide +kernel
theorem dX1_arePlaces_15 : decode cX1_arePlaces 15 = .ok (.invokevirtual 54, 3) := by decide +kernel
theorem dX1_arePlaces_18 : decode cX1_arePlaces 18 = .ok (.iload 4, 2) := by decide +kernel
theorem dX1_arePlaces_20 : decode cX1_arePlaces 20 = .ok (.iload_n 1, 1) := by decide +kernel
theorem dX1_arePlaces_21 : decode cX1_arePlaces 21 = .ok (.iload_n 2, 1) := by decide +kernel
theorem dX1_arePlaces_22 : decode cX1_arePlaces 22 = .ok (.iload_n 3, 1) := by decide +kernel
theorem dX1_arePlaces_23 : decode cX1_arePlaces 23 = .ok (.invokestatic 119, 3) := by decide +kernel
theorem dX1_arePlaces_26 : decode cX1_arePlaces 26 = .ok (.invokevirtual 68, 3) := by decide +kernel
theorem dX1_arePlaces_29 : decode cX1_arePlaces 29 = .ok (.ifCond .ne 5, 3) := by decide +kernel
theorem dX1_arePlaces_32 : decode cX1_arePlaces 32 = .ok (.iconst 0, 1) := by decide +kernel
theorem dX1_arePlaces_33 : decode cX1_arePlaces 33 = .ok (.ireturn, 1) := by decide +kernel
theorem dX1_arePlaces_34 : decode cX1_arePlaces 34 = .ok (.iinc 4 1, 3) := by decide +kernel
theorem dX1_arePlaces_37 : decode cX1_arePlaces 37 = .ok (.goto (-34), 3) := by decide +kernel
theorem dX1_arePlaces_40 : decode cX1_arePlaces 40 = .ok (.iconst 1, 1) := by decide +kernel
theorem dX1_arePlaces_41 : decode cX1_arePlaces 41 = .ok (.ireturn, 1) := by decide +kernel
set_option maxRecDepth 20000 in
theorem ggX1_areWorths_X1_pick : GoodIn wsX1_areWorths wsX1_pick := goodIn_r _ [5] (by decide +kernel) (by decide +kernel)
set_option maxRecDepth 20000 in
theorem gX1_areWorths_X1_pick : GoodIn wsX1_areWorths (va_wsS RX1 119 yX1_pick wsX1_pick) := goodIn_app (goodIn_of _ (by decide +kernel)) ggX1_areWorths_X1_pick
set_option maxRecDepth 20000 in
theorem ggX1_areWorths_X1_isWorth : GoodIn wsX1_areWorths wsX1_isWorth := goodIn_r _ [8] (by decide +kernel) (by decide +kernel)
set_option maxRecDepth 20000 in
theorem gX1_areWorths_X1_isWorth : GoodIn wsX1_areWorths (va_wsS RX1 48 yX1_isWorth wsX1_isWorth) := goodIn_app (goodIn_of _ (by decide +kernel)) ggX1_areWorths_X1_isWorth
theorem dX1_areWorths_0 : decode cX1_areWorths 0 = .ok (.iconst 0, 1) := by decide +kernel
theorem dX1_areWorths_1 : decode cX1_areWorths 1 = .ok (.istore 4, 2) := by decide +kernel
theorem dX1_areWorths_3 : decode cX1_areWorths 3 = .ok (.iload 4, 2) := by decide +kernel
theorem dX1_areWorths_5 : decode cX1_areWorths 5 = .ok (.aload_n 0, 1) := by decide +kernel
theorem dX1_areWorths_6 : decode cX1_areWorths 6 = .ok (.getfield 26, 3) := by decide +kernel
theorem dX1_areWorths_9 : decode cX1_areWorths 9 = .ok (.if_icmp .ge 25, 3) := by decide +kernel
theorem dX1_areWorths_12 : decode cX1_areWorths 12 = .ok (.iload 4, 2) := by decide +kernel
theorem dX1_areWorths_14 : decode cX1_areWorths 14 = .ok (.iload_n 1, 1) := by decide +kernel
theorem dX1_areWorths_15 : decode cX1_areWorths 15 = .ok (.iload_n 2, 1) := by decide +kernel
theorem dX1_areWorths_16 : decode cX1_areWorths 16 = .ok (.iload_n 3, 1) := by decide +kernel
theorem dX1_areWorths_17 : decode cX1_areWorths 17 = .ok (.invokestatic 119, 3) := by decide +kernel
theorem dX1_areWorths_20 : decode cX1_areWorths 20 = .ok (.invokestatic 48, 3) := by decide +kernel
theorem dX1_areWorths_23 : decode cX1_areWorths 23 = .ok (.ifCond .ne 5, 3) := by decide +kernel
theorem dX1_areWorths_26 : decode cX1_areWorths 26 = .ok (.iconst 0, 1) := by decide +kernel
theorem dX1_areWorths_27 : decode cX1_areWorths 27 = .ok (.ireturn, 1) := by decide +kernel
theorem dX1_areWorths_28 : decode cX1_areWorths 28 = .ok (.iinc 4 1, 3) := by decide +kernel
theorem dX1_areWorths_31 : decode cX1_areWorths 31 = .ok (.goto (-28), 3) := by decide +kernel
theorem dX1_areWorths_34 : decode cX1_areWorths 34 = .ok (.iconst 1, 1) := by decide +kernel
theorem dX1_areWorths_35 : decode cX1_areWorths 35 = .ok (.ireturn, 1) := by decide +kernel
set_option maxRecDepth 20000 in
theorem ggX1_isOrder_X1_isBuyer : GoodIn wsX1_isOrder wsX1_isBuyer := goodIn_r _ [6, 1, 7, 8, 9, 10, 11, 12, 13, 14] (by decide +kernel) (by decide +kernel)
set_option maxRecDepth 20000 in
theorem gX1_isOrder_X1_isBuyer : GoodIn wsX1_isOrder (wsV RX1 44 RX1 yX1_isBuyer wsX1_isBuyer) := goodIn_app (goodIn_of _ (by decide +kernel)) ggX1_isOrder_X1_isBuyer
theorem dX1_isOrder_0 : decode cX1_isOrder 0 = .ok (.iload_n 1, 1) := by decide +kernel
theorem dX1_isOrder_1 : decode cX1_isOrder 1 = .ok (.ifCond .ge 5, 3) := by decide +kernel
theorem dX1_isOrder_4 : decode cX1_isOrder 4 = .ok (.iconst 0, 1) := by decide +kernel
theorem dX1_isOrder_5 : decode cX1_isOrder 5 = .ok (.ireturn, 1) := by decide +kernel
theorem dX1_isOrder_6 : decode cX1_isOrder 6 = .ok (.iconst 0, 1) := by decide +kernel
theorem dX1_isOrder_7 : decode cX1_isOrder 7 = .ok (.istore_n 2, 1) := by decide +kernel
theorem dX1_isOrder_8 : decode cX1_isOrder 8 = .ok (.iload_n 1, 1) := by decide +kernel
theorem dX1_isOrder_9 : decode cX1_isOrder 9 = .ok (.istore_n 3, 1) := by decide +kernel
theorem dX1_isOrder_10 : decode cX1_isOrder 10 = .ok (.iconst 0, 1) := by decide +kernel
theorem dX1_isOrder_11 : decode cX1_isOrder 11 = .ok (.istore 4, 2) := by decide +kernel
theorem dX1_isOrder_13 : decode cX1_isOrder 13 = .ok (.iload 4, 2) := by decide +kernel
theorem dX1_isOrder_15 : decode cX1_isOrder 15 = .ok (.aload_n 0, 1) := by decide +kernel
theorem dX1_isOrder_16 : decode cX1_isOrder 16 = .ok (.getfield 26, 3) := by decide +kernel
theorem dX1_isOrder_19 : decode cX1_isOrder 19 = .ok (.if_icmp .ge 46, 3) := by decide +kernel
theorem dX1_isOrder_22 : decode cX1_isOrder 22 = .ok (.iload_n 3, 1) := by decide +kernel
theorem dX1_isOrder_23 : decode cX1_isOrder 23 = .ok (.iconst 3, 1) := by decide +kernel
theorem dX1_isOrder_24 : decode cX1_isOrder 24 = .ok (.irem, 1) := by decide +kernel
theorem dX1_isOrder_25 : decode cX1_isOrder 25 = .ok (.istore 5, 2) := by decide +kernel
theorem dX1_isOrder_27 : decode cX1_isOrder 27 = .ok (.iload_n 3, 1) := by decide +kernel
theorem dX1_isOrder_28 : decode cX1_isOrder 28 = .ok (.iconst 3, 1) := by decide +kernel
theorem dX1_isOrder_29 : decode cX1_isOrder 29 = .ok (.idiv, 1) := by decide +kernel
theorem dX1_isOrder_30 : decode cX1_isOrder 30 = .ok (.istore_n 3, 1) := by decide +kernel
theorem dX1_isOrder_31 : decode cX1_isOrder 31 = .ok (.aload_n 0, 1) := by decide +kernel
theorem dX1_isOrder_32 : decode cX1_isOrder 32 = .ok (.iload 5, 2) := by decide +kernel
theorem dX1_isOrder_34 : decode cX1_isOrder 34 = .ok (.invokevirtual 44, 3) := by decide +kernel
theorem dX1_isOrder_37 : decode cX1_isOrder 37 = .ok (.ifCond .eq 13, 3) := by decide +kernel
theorem dX1_isOrder_40 : decode cX1_isOrder 40 = .ok (.iload_n 2, 1) := by decide +kernel
theorem dX1_isOrder_41 : decode cX1_isOrder 41 = .ok (.iload 5, 2) := by decide +kernel
theorem dX1_isOrder_43 : decode cX1_isOrder 43 = .ok (.ishr, 1) := by decide +kernel
theorem dX1_isOrder_44 : decode cX1_isOrder 44 = .ok (.iconst 1, 1) := by decide +kernel
theorem dX1_isOrder_45 : decode cX1_isOrder 45 = .ok (.iand, 1) := by decide +kernel
theorem dX1_isOrder_46 : decode cX1_isOrder 46 = .ok (.iconst 1, 1) := by decide +kernel
theorem dX1_isOrder_47 : decode cX1_isOrder 47 = .ok (.if_icmp .ne 5, 3) := by decide +kernel
theorem dX1_isOrder_50 : decode cX1_isOrder 50 = .ok (.iconst 0, 1) := by decide +kernel
theorem dX1_isOrder_51 : decode cX1_isOrder 51 = .ok (.ireturn, 1) := by decide +kernel
theorem dX1_isOrder_52 : decode cX1_isOrder 52 = .ok (.iload_n 2, 1) := by decide +kernel
theorem dX1_isOrder_53 : decode cX1_isOrder 53 = .ok (.iconst 1, 1) := by decide +kernel
theorem dX1_isOrder_54 : decode cX1_isOrder 54 = .ok (.iload 5, 2) := by decide +kernel
theorem dX1_isOrder_56 : decode cX1_isOrder 56 = .ok (.ishl, 1) := by decide +kernel
theorem dX1_isOrder_57 : decode cX1_isOrder 57 = .ok (.ior, 1) := by decide +kernel
theorem dX1_isOrder_58 : decode cX1_isOrder 58 = .ok (.istore_n 2, 1) := by decide +kernel
theorem dX1_isOrder_59 : decode cX1_isOrder 59 = .ok (.iinc 4 1, 3) := by decide +kernel
theorem dX1_isOrder_62 : decode cX1_isOrder 62 = .ok (.goto (-49), 3) := by decide +kernel
theorem dX1_isOrder_65 : decode cX1_isOrder 65 = .ok (.iload_n 3, 1) := by decide +kernel
theorem dX1_isOrder_66 : decode cX1_isOrder 66 = .ok (.ifCond .ne 7, 3) := by decide +kernel
theorem dX1_isOrder_69 : decode cX1_isOrder 69 = .ok (.iconst 1, 1) := by decide +kernel
theorem dX1_isOrder_70 : decode cX1_isOrder 70 = .ok (.goto 4, 3) := by decide +kernel
theorem dX1_isOrder_73 : decode cX1_isOrder 73 = .ok (.iconst 0, 1) := by decide +kernel
theorem dX1_isOrder_74 : decode cX1_isOrder 74 = .ok (.ireturn, 1) := by decide +kernel
theorem dX1_bookOf_0 : decode cX1_bookOf 0 = .ok (.iload_n 1, 1) := by decide +kernel
theorem dX1_bookOf_1 : decode cX1_bookOf 1 = .ok (.ifCond .ne 10, 3) := by decide +kernel
theorem dX1_bookOf_4 : decode cX1_bookOf 4 = .ok (.aload_n 0, 1) := by decide +kernel
theorem dX1_bookOf_5 : decode cX1_bookOf 5 = .ok (.getfield 10, 3) := by decide +kernel
theorem dX1_bookOf_8 : decode cX1_bookOf 8 = .ok (.goto 19, 3) := by decide +kernel
theorem dX1_bookOf_11 : decode cX1_bookOf 11 = .ok (.iload_n 1, 1) := by decide +kernel
theorem dX1_bookOf_12 : decode cX1_bookOf 12 = .ok (.iconst 1, 1) := by decide +kernel
theorem dX1_bookOf_13 : decode cX1_bookOf 13 = .ok (.if_icmp .ne 10, 3) := by decide +kernel
theorem dX1_bookOf_16 : decode cX1_bookOf 16 = .ok (.aload_n 0, 1) := by decide +kernel
theorem dX1_bookOf_17 : decode cX1_bookOf 17 = .ok (.getfield 16, 3) := by decide +kernel
theorem dX1_bookOf_20 : decode cX1_bookOf 20 = .ok (.goto 7, 3) := by decide +kernel
theorem dX1_bookOf_23 : decode cX1_bookOf 23 = .ok (.aload_n 0, 1) := by decide +kernel
theorem dX1_bookOf_24 : decode cX1_bookOf 24 = .ok (.getfield 19, 3) := by decide +kernel
theorem dX1_bookOf_27 : decode cX1_bookOf 27 = .ok (.areturn, 1) := by decide +kernel
theorem dX1_pick_0 : decode cX1_pick 0 = .ok (.iload_n 0, 1) := by decide +kernel
theorem dX1_pick_1 : decode cX1_pick 1 = .ok (.ifCond .ne 7, 3) := by decide +kernel
theorem dX1_pick_4 : decode cX1_pick 4 = .ok (.iload_n 1, 1) := by decide +kernel
theorem dX1_pick_5 : decode cX1_pick 5 = .ok (.goto 13, 3) := by decide +kernel
theorem dX1_pick_8 : decode cX1_pick 8 = .ok (.iload_n 0, 1) := by decide +kernel
theorem dX1_pick_9 : decode cX1_pick 9 = .ok (.iconst 1, 1) := by decide +kernel
theorem dX1_pick_10 : decode cX1_pick 10 = .ok (.if_icmp .ne 7, 3) := by decide +kernel
theorem dX1_pick_13 : decode cX1_pick 13 = .ok (.iload_n 2, 1) := by decide +kernel
theorem dX1_pick_14 : decode cX1_pick 14 = .ok (.goto 4, 3) := by decide +kernel
theorem dX1_pick_17 : decode cX1_pick 17 = .ok (.iload_n 3, 1) := by decide +kernel
theorem dX1_pick_18 : decode cX1_pick 18 = .ok (.ireturn, 1) := by decide +kernel
set_option maxRecDepth 20000 in
theorem ggX1_winner_X1_pick : GoodIn wsX1_winner wsX1_pick := goodIn_r _ [5] (by decide +kernel) (by decide +kernel)
set_option maxRecDepth 20000 in
theorem gX1_winner_X1_pick : GoodIn wsX1_winner (va_wsS RX1 119 yX1_pick wsX1_pick) := goodIn_app (goodIn_of _ (by decide +kernel)) ggX1_winner_X1_pick
set_option maxRecDepth 20000 in
theorem ggX1_winner_X1_bookOf : GoodIn wsX1_winner wsX1_bookOf := goodIn_r _ [9, 10, 11, 12, 25, 26, 27, 28, 29, 30, 31, 32] (by decide +kernel) (by decide +kernel)
set_option maxRecDepth 20000 in
theorem gX1_winner_X1_bookOf : GoodIn wsX1_winner (wsV RX1 54 RX1 yX1_bookOf wsX1_bookOf) := goodIn_app (goodIn_of _ (by decide +kernel)) ggX1_winner_X1_bookOf
set_option maxRecDepth 20000 in
theorem ggX1_winner_X0_ironedUpper : GoodIn wsX1_winner wsX0_ironedUpper := goodIn_r _ [17, 18, 19, 33, 34, 35, 36, 37] (by decide +kernel) (by decide +kernel)
set_option maxRecDepth 20000 in
theorem gX1_winner_X0_ironedUpper : GoodIn wsX1_winner (wsV RX1 92 RX0 yX0_ironedUpper wsX0_ironedUpper) := goodIn_app (goodIn_of _ (by decide +kernel)) ggX1_winner_X0_ironedUpper
set_option maxRecDepth 20000 in
theorem ggX1_winner_X0_ironedLower : GoodIn wsX1_winner wsX0_ironedLower := goodIn_r _ [23, 18, 24, 33, 34, 35, 36, 37] (by decide +kernel) (by decide +kernel)
set_option maxRecDepth 20000 in
theorem gX1_winner_X0_ironedLower : GoodIn wsX1_winner (wsV RX1 96 RX0 yX0_ironedLower wsX0_ironedLower) := goodIn_app (goodIn_of _ (by decide +kernel)) ggX1_winner_X0_ironedLower
theorem dX1_winner_0 : decode cX1_winner 0 = .ok (.bipush (-9), 2) := by decide +kernel
theorem dX1_winner_2 : decode cX1_winner 2 = .ok (.istore 4, 2) := by decide +kernel
theorem dX1_winner_4 : decode cX1_winner 4 = .ok (.lconst 0, 1) := by decide +kernel
theorem dX1_winner_5 : decode cX1_winner 5 = .ok (.lstore 5, 2) := by decide +kernel
theorem dX1_winner_7 : decode cX1_winner 7 = .ok (.lconst 1, 1) := by decide +kernel
theorem dX1_winner_8 : decode cX1_winner 8 = .ok (.lstore 7, 2) := by decide +kernel
theorem dX1_winner_10 : decode cX1_winner 10 = .ok (.iconst 0, 1) := by decide +kernel
theorem dX1_winner_11 : decode cX1_winner 11 = .ok (.istore 9, 2) := by decide +kernel
theorem dX1_winner_13 : decode cX1_winner 13 = .ok (.iload 9, 2) := by decide +kernel
theorem dX1_winner_15 : decode cX1_winner 15 = .ok (.aload_n 0, 1) := by decide +kernel
theorem dX1_winner_16 : decode cX1_winner 16 = .ok (.getfield 26, 3) := by decide +kernel
theorem dX1_winner_19 : decode cX1_winner 19 = .ok (.if_icmp .ge 71, 3) := by decide +kernel
theorem dX1_winner_22 : decode cX1_winner 22 = .ok (.iload 9, 2) := by decide +kernel
theorem dX1_winner_24 : decode cX1_winner 24 = .ok (.iload_n 1, 1) := by decide +kernel
theorem dX1_winner_25 : decode cX1_winner 25 = .ok (.iload_n 2, 1) := by decide +kernel
theorem dX1_winner_26 : decode cX1_winner 26 = .ok (.iload_n 3, 1) := by decide +kernel
theorem dX1_winner_27 : decode cX1_winner 27 = .ok (.invokestatic 119, 3) := by decide +kernel
theorem dX1_winner_30 : decode cX1_winner 30 = .ok (.istore 10, 2) := by decide +kernel
theorem dX1_winner_32 : decode cX1_winner 32 = .ok (.aload_n 0, 1) := by decide +kernel
theorem dX1_winner_33 : decode cX1_winner 33 = .ok (.iload 9, 2) := by decide +kernel
theorem dX1_winner_35 : decode cX1_winner 35 = .ok (.invokevirtual 54, 3) := by decide +kernel
theorem dX1_winner_38 : decode cX1_winner 38 = .ok (.iload 10, 2) := by decide +kernel
theorem dX1_winner_40 : decode cX1_winner 40 = .ok (.invokevirtual 92, 3) := by decide +kernel
theorem dX1_winner_43 : decode cX1_winner 43 = .ok (.lstore 11, 2) := by decide +kernel
theorem dX1_winner_45 : decode cX1_winner 45 = .ok (.aload_n 0, 1) := by decide +kernel
theorem dX1_winner_46 : decode cX1_winner 46 = .ok (.iload 9, 2) := by decide +kernel
theorem dX1_winner_48 : decode cX1_winner 48 = .ok (.invokevirtual 54, 3) := by decide +kernel
theorem dX1_winner_51 : decode cX1_winner 51 = .ok (.iload 10, 2) := by decide +kernel
theorem dX1_winner_53 : decode cX1_winner 53 = .ok (.invokevirtual 96, 3) := by decide +kernel
theorem dX1_winner_56 : decode cX1_winner 56 = .ok (.lstore 13, 2) := by decide +kernel
theorem dX1_winner_58 : decode cX1_winner 58 = .ok (.lload 11, 2) := by decide +kernel
theorem dX1_winner_60 : decode cX1_winner 60 = .ok (.lload 7, 2) := by decide +kernel
theorem dX1_winner_62 : decode cX1_winner 62 = .ok (.lmul, 1) := by decide +kernel
theorem dX1_winner_63 : decode cX1_winner 63 = .ok (.lload 5, 2) := by decide +kernel
theorem dX1_winner_65 : decode cX1_winner 65 = .ok (.lload 13, 2) := by decide +kernel
theorem dX1_winner_67 : decode cX1_winner 67 = .ok (.lmul, 1) := by decide +kernel
theorem dX1_winner_68 : decode cX1_winner 68 = .ok (.lcmp, 1) := by decide +kernel
theorem dX1_winner_69 : decode cX1_winner 69 = .ok (.ifCond .le 15, 3) := by decide +kernel
theorem dX1_winner_72 : decode cX1_winner 72 = .ok (.iload 9, 2) := by decide +kernel
theorem dX1_winner_74 : decode cX1_winner 74 = .ok (.istore 4, 2) := by decide +kernel
theorem dX1_winner_76 : decode cX1_winner 76 = .ok (.lload 11, 2) := by decide +kernel
theorem dX1_winner_78 : decode cX1_winner 78 = .ok (.lstore 5, 2) := by decide +kernel
theorem dX1_winner_80 : decode cX1_winner 80 = .ok (.lload 13, 2) := by decide +kernel
theorem dX1_winner_82 : decode cX1_winner 82 = .ok (.lstore 7, 2) := by decide +kernel
theorem dX1_winner_84 : decode cX1_winner 84 = .ok (.iinc 9 1, 3) := by decide +kernel
theorem dX1_winner_87 : decode cX1_winner 87 = .ok (.goto (-74), 3) := by decide +kernel
theorem dX1_winner_90 : decode cX1_winner 90 = .ok (.iload 4, 2) := by decide +kernel
theorem dX1_winner_92 : decode cX1_winner 92 = .ok (.ireturn, 1) := by decide +kernel
set_option maxRecDepth 20000 in
theorem ggX1_getsWith_X1_winner : GoodIn wsX1_getsWith wsX1_winner := goodIn_r _ [5, 6, 7, 8, 4, 9, 10, 11, 12, 13, 14, 15, 16, 17, 18, 19, 20, 21, 22, 23, 24, 25, 26, 27, 28, 29, 30, 31, 32, 33, 34, 35, 36, 37, 38, 39, 40, 41] (by decide +kernel) (by decide +kernel)
set_option maxRecDepth 20000 in
theorem gX1_getsWith_X1_winner : GoodIn wsX1_getsWith (wsV RX1 107 RX1 yX1_winner wsX1_winner) := goodIn_app (goodIn_of _ (by decide +kernel)) ggX1_getsWith_X1_winner
theorem dX1_getsWith_0 : decode cX1_getsWith 0 = .ok (.aload_n 0, 1) := by decide +kernel
theorem dX1_getsWith_1 : decode cX1_getsWith 1 = .ok (.iload 5, 2) := by decide +kernel
theorem dX1_getsWith_3 : decode cX1_getsWith 3 = .ok (.ifCond .ne 7, 3) := by decide +kernel
theorem dX1_getsWith_6 : decode cX1_getsWith 6 = .ok (.iload_n 1, 1) := by decide +kernel
theorem dX1_getsWith_7 : decode cX1_getsWith 7 = .ok (.goto 4, 3) := by decide +kernel
theorem dX1_getsWith_10 : decode cX1_getsWith 10 = .ok (.iload_n 2, 1) := by decide +kernel
theorem dX1_getsWith_11 : decode cX1_getsWith 11 = .ok (.iload 5, 2) := by decide +kernel
theorem dX1_getsWith_13 : decode cX1_getsWith 13 = .ok (.iconst 1, 1) := by decide +kernel
theorem dX1_getsWith_14 : decode cX1_getsWith 14 = .ok (.if_icmp .ne 7, 3) := by decide +kernel
theorem dX1_getsWith_17 : decode cX1_getsWith 17 = .ok (.iload_n 1, 1) := by decide +kernel
theorem dX1_getsWith_18 : decode cX1_getsWith 18 = .ok (.goto 4, 3) := by decide +kernel
theorem dX1_getsWith_21 : decode cX1_getsWith 21 = .ok (.iload_n 3, 1) := by decide +kernel
theorem dX1_getsWith_22 : decode cX1_getsWith 22 = .ok (.iload 5, 2) := by decide +kernel
theorem dX1_getsWith_24 : decode cX1_getsWith 24 = .ok (.iconst 2, 1) := by decide +kernel
theorem dX1_getsWith_25 : decode cX1_getsWith 25 = .ok (.if_icmp .ne 7, 3) := by decide +kernel
theorem dX1_getsWith_28 : decode cX1_getsWith 28 = .ok (.iload_n 1, 1) := by decide +kernel
theorem dX1_getsWith_29 : decode cX1_getsWith 29 = .ok (.goto 5, 3) := by decide +kernel
theorem dX1_getsWith_32 : decode cX1_getsWith 32 = .ok (.iload 4, 2) := by decide +kernel
theorem dX1_getsWith_34 : decode cX1_getsWith 34 = .ok (.invokevirtual 107, 3) := by decide +kernel
theorem dX1_getsWith_37 : decode cX1_getsWith 37 = .ok (.iload 5, 2) := by decide +kernel
theorem dX1_getsWith_39 : decode cX1_getsWith 39 = .ok (.if_icmp .ne 7, 3) := by decide +kernel
theorem dX1_getsWith_42 : decode cX1_getsWith 42 = .ok (.iconst 1, 1) := by decide +kernel
theorem dX1_getsWith_43 : decode cX1_getsWith 43 = .ok (.goto 4, 3) := by decide +kernel
theorem dX1_getsWith_46 : decode cX1_getsWith 46 = .ok (.iconst 0, 1) := by decide +kernel
theorem dX1_getsWith_47 : decode cX1_getsWith 47 = .ok (.ireturn, 1) := by decide +kernel
set_option maxRecDepth 20000 in
theorem ggX1_leastWinning_X1_bookOf : GoodIn wsX1_leastWinning wsX1_bookOf := goodIn_r _ [5, 6, 7, 8, 43, 44, 45, 46, 47, 48, 49, 50] (by decide +kernel) (by decide +kernel)
set_option maxRecDepth 20000 in
theorem gX1_leastWinning_X1_bookOf : GoodIn wsX1_leastWinning (wsV RX1 54 RX1 yX1_bookOf wsX1_bookOf) := goodIn_app (goodIn_of _ (by decide +kernel)) ggX1_leastWinning_X1_bookOf
set_option maxRecDepth 20000 in
theorem ggX1_leastWinning_X1_getsWith : GoodIn wsX1_leastWinning wsX1_getsWith := goodIn_r _ [12, 13, 14, 15, 4, 16, 17, 18, 19, 20, 1, 2, 3, 5, 6, 7, 8, 21, 22, 23, 24, 25, 26, 27, 28, 29, 30, 31, 32, 43, 44, 45, 46, 47, 48, 49, 50, 38, 39, 40, 41, 42] (by decide +kernel) (by decide +kernel)
set_option maxRecDepth 20000 in
theorem gX1_leastWinning_X1_getsWith : GoodIn wsX1_leastWinning (wsV RX1 115 RX1 yX1_getsWith wsX1_getsWith) := goodIn_app (goodIn_of _ (by decide +kernel)) ggX1_leastWinning_X1_getsWith
set_option maxRecDepth 20000 in
theorem ggX1_leastWinning_X0_worthAt : GoodIn wsX1_leastWinning wsX0_worthAt := goodIn_r _ [36, 26, 37, 38, 39, 40, 41, 42] (by decide +kernel) (by decide +kernel)
set_option maxRecDepth 20000 in
theorem gX1_leastWinning_X0_worthAt : GoodIn wsX1_leastWinning (wsV RX1 61 RX0 yX0_worthAt wsX0_worthAt) := goodIn_app (goodIn_of _ (by decide +kernel)) ggX1_leastWinning_X0_worthAt
theorem dX1_leastWinning_0 : decode cX1_leastWinning 0 = .ok (.aload_n 0, 1) := by decide +kernel
theorem dX1_leastWinning_1 : decode cX1_leastWinning 1 = .ok (.iload 4, 2) := by decide +kernel
theorem dX1_leastWinning_3 : decode cX1_leastWinning 3 = .ok (.invokevirtual 54, 3) := by decide +kernel
theorem dX1_leastWinning_6 : decode cX1_leastWinning 6 = .ok (.astore 5, 2) := by decide +kernel
theorem dX1_leastWinning_8 : decode cX1_leastWinning 8 = .ok (.iconst 0, 1) := by decide +kernel
theorem dX1_leastWinning_9 : decode cX1_leastWinning 9 = .ok (.istore 6, 2) := by decide +kernel
theorem dX1_leastWinning_11 : decode cX1_leastWinning 11 = .ok (.iload 6, 2) := by decide +kernel
theorem dX1_leastWinning_13 : decode cX1_leastWinning 13 = .ok (.aload 5, 2) := by decide +kernel
theorem dX1_leastWinning_15 : decode cX1_leastWinning 15 = .ok (.getfield 58, 3) := by decide +kernel
theorem dX1_leastWinning_18 : decode cX1_leastWinning 18 = .ok (.if_icmp .ge 31, 3) := by decide +kernel
theorem dX1_leastWinning_21 : decode cX1_leastWinning 21 = .ok (.aload_n 0, 1) := by decide +kernel
theorem dX1_leastWinning_22 : decode cX1_leastWinning 22 = .ok (.iload 6, 2) := by decide +kernel
theorem dX1_leastWinning_24 : decode cX1_leastWinning 24 = .ok (.iload_n 1, 1) := by decide +kernel
theorem dX1_leastWinning_25 : decode cX1_leastWinning 25 = .ok (.iload_n 2, 1) := by decide +kernel
theorem dX1_leastWinning_26 : decode cX1_leastWinning 26 = .ok (.iload_n 3, 1) := by decide +kernel
theorem dX1_leastWinning_27 : decode cX1_leastWinning 27 = .ok (.iload 4, 2) := by decide +kernel
theorem dX1_leastWinning_29 : decode cX1_leastWinning 29 = .ok (.invokevirtual 115, 3) := by decide +kernel
theorem dX1_leastWinning_32 : decode cX1_leastWinning 32 = .ok (.ifCond .eq 11, 3) := by decide +kernel
theorem dX1_leastWinning_35 : decode cX1_leastWinning 35 = .ok (.aload 5, 2) := by decide +kernel
theorem dX1_leastWinning_37 : decode cX1_leastWinning 37 = .ok (.iload 6, 2) := by decide +kernel
theorem dX1_leastWinning_39 : decode cX1_leastWinning 39 = .ok (.invokevirtual 61, 3) := by decide +kernel
theorem dX1_leastWinning_42 : decode cX1_leastWinning 42 = .ok (.ireturn, 1) := by decide +kernel
theorem dX1_leastWinning_43 : decode cX1_leastWinning 43 = .ok (.iinc 6 1, 3) := by decide +kernel
theorem dX1_leastWinning_46 : decode cX1_leastWinning 46 = .ok (.goto (-35), 3) := by decide +kernel
theorem dX1_leastWinning_49 : decode cX1_leastWinning 49 = .ok (.iconst 0, 1) := by decide +kernel
theorem dX1_leastWinning_50 : decode cX1_leastWinning 50 = .ok (.ireturn, 1) := by decide +kernel
set_option maxRecDepth 20000 in
theorem ggX1_paidByKind_X1_pick : GoodIn wsX1_paidByKind wsX1_pick := goodIn_r _ [13] (by decide +kernel) (by decide +kernel)
set_option maxRecDepth 20000 in
theorem gX1_paidByKind_X1_pick : GoodIn wsX1_paidByKind (va_wsS RX1 119 yX1_pick wsX1_pick) := goodIn_app (goodIn_of _ (by decide +kernel)) ggX1_paidByKind_X1_pick
set_option maxRecDepth 20000 in
theorem ggX1_paidByKind_X1_priceOf : GoodIn wsX1_paidByKind wsX1_priceOf := goodIn_r _ [17, 9, 6, 7, 4, 8, 18, 19, 20, 21, 22, 23, 24, 25] (by decide +kernel) (by decide +kernel)
set_option maxRecDepth 20000 in
theorem gX1_paidByKind_X1_priceOf : GoodIn wsX1_paidByKind (wsV RX1 179 RX1 yX1_priceOf wsX1_priceOf) := goodIn_app (goodIn_of _ (by decide +kernel)) ggX1_paidByKind_X1_priceOf
theorem dX1_paidByKind_0 : decode cX1_paidByKind 0 = .ok (.iconst (-1), 1) := by decide +kernel
theorem dX1_paidByKind_1 : decode cX1_paidByKind 1 = .ok (.istore 5, 2) := by decide +kernel
theorem dX1_paidByKind_3 : decode cX1_paidByKind 3 = .ok (.iconst 0, 1) := by decide +kernel
theorem dX1_paidByKind_4 : decode cX1_paidByKind 4 = .ok (.istore 6, 2) := by decide +kernel
theorem dX1_paidByKind_6 : decode cX1_paidByKind 6 = .ok (.iconst 0, 1) := by decide +kernel
theorem dX1_paidByKind_7 : decode cX1_paidByKind 7 = .ok (.istore 7, 2) := by decide +kernel
theorem dX1_paidByKind_9 : decode cX1_paidByKind 9 = .ok (.iload 7, 2) := by decide +kernel
theorem dX1_paidByKind_11 : decode cX1_paidByKind 11 = .ok (.aload_n 0, 1) := by decide +kernel
theorem dX1_paidByKind_12 : decode cX1_paidByKind 12 = .ok (.getfield 26, 3) := by decide +kernel
theorem dX1_paidByKind_15 : decode cX1_paidByKind 15 = .ok (.if_icmp .ge 43, 3) := by decide +kernel
theorem dX1_paidByKind_18 : decode cX1_paidByKind 18 = .ok (.iload 7, 2) := by decide +kernel
theorem dX1_paidByKind_20 : decode cX1_paidByKind 20 = .ok (.iload_n 2, 1) := by decide +kernel
theorem dX1_paidByKind_21 : decode cX1_paidByKind 21 = .ok (.iload_n 3, 1) := by decide +kernel
theorem dX1_paidByKind_22 : decode cX1_paidByKind 22 = .ok (.iload 4, 2) := by decide +kernel
theorem dX1_paidByKind_24 : decode cX1_paidByKind 24 = .ok (.invokestatic 119, 3) := by decide +kernel
theorem dX1_paidByKind_27 : decode cX1_paidByKind 27 = .ok (.istore 8, 2) := by decide +kernel
theorem dX1_paidByKind_29 : decode cX1_paidByKind 29 = .ok (.iload 6, 2) := by decide +kernel
theorem dX1_paidByKind_31 : decode cX1_paidByKind 31 = .ok (.iload 8, 2) := by decide +kernel
theorem dX1_paidByKind_33 : decode cX1_paidByKind 33 = .ok (.iload 5, 2) := by decide +kernel
theorem dX1_paidByKind_35 : decode cX1_paidByKind 35 = .ok (.invokestatic 170, 3) := by decide +kernel
theorem dX1_paidByKind_38 : decode cX1_paidByKind 38 = .ok (.invokestatic 176, 3) := by decide +kernel
theorem dX1_paidByKind_41 : decode cX1_paidByKind 41 = .ok (.istore 6, 2) := by decide +kernel
theorem dX1_paidByKind_43 : decode cX1_paidByKind 43 = .ok (.iload 5, 2) := by decide +kernel
theorem dX1_paidByKind_45 : decode cX1_paidByKind 45 = .ok (.iload 8, 2) := by decide +kernel
theorem dX1_paidByKind_47 : decode cX1_paidByKind 47 = .ok (.invokestatic 176, 3) := by decide +kernel
theorem dX1_paidByKind_50 : decode cX1_paidByKind 50 = .ok (.istore 5, 2) := by decide +kernel
theorem dX1_paidByKind_52 : decode cX1_paidByKind 52 = .ok (.iinc 7 1, 3) := by decide +kernel
theorem dX1_paidByKind_55 : decode cX1_paidByKind 55 = .ok (.goto (-46), 3) := by decide +kernel
theorem dX1_paidByKind_58 : decode cX1_paidByKind 58 = .ok (.iload_n 1, 1) := by decide +kernel
theorem dX1_paidByKind_59 : decode cX1_paidByKind 59 = .ok (.ifCond .eq 15, 3) := by decide +kernel
theorem dX1_paidByKind_62 : decode cX1_paidByKind 62 = .ok (.iload 5, 2) := by decide +kernel
theorem dX1_paidByKind_64 : decode cX1_paidByKind 64 = .ok (.aload_n 0, 1) := by decide +kernel
theorem dX1_paidByKind_65 : decode cX1_paidByKind 65 = .ok (.getfield 33, 3) := by decide +kernel
theorem dX1_paidByKind_68 : decode cX1_paidByKind 68 = .ok (.if_icmp .ge 6, 3) := by decide +kernel
theorem dX1_paidByKind_71 : decode cX1_paidByKind 71 = .ok (.bipush (-9), 2) := by decide +kernel
theorem dX1_paidByKind_73 : decode cX1_paidByKind 73 = .ok (.ireturn, 1) := by decide +kernel
theorem dX1_paidByKind_74 : decode cX1_paidByKind 74 = .ok (.aload_n 0, 1) := by decide +kernel
theorem dX1_paidByKind_75 : decode cX1_paidByKind 75 = .ok (.iload_n 1, 1) := by decide +kernel
theorem dX1_paidByKind_76 : decode cX1_paidByKind 76 = .ok (.iload 6, 2) := by decide +kernel
theorem dX1_paidByKind_78 : decode cX1_paidByKind 78 = .ok (.invokevirtual 179, 3) := by decide +kernel
theorem dX1_paidByKind_81 : decode cX1_paidByKind 81 = .ok (.ireturn, 1) := by decide +kernel
theorem dX1_priceOf_0 : decode cX1_priceOf 0 = .ok (.iload_n 2, 1) := by decide +kernel
theorem dX1_priceOf_1 : decode cX1_priceOf 1 = .ok (.istore_n 3, 1) := by decide +kernel
theorem dX1_priceOf_2 : decode cX1_priceOf 2 = .ok (.iload_n 1, 1) := by decide +kernel
theorem dX1_priceOf_3 : decode cX1_priceOf 3 = .ok (.iconst 1, 1) := by decide +kernel
theorem dX1_priceOf_4 : decode cX1_priceOf 4 = .ok (.if_icmp .lt 12, 3) := by decide +kernel
theorem dX1_priceOf_7 : decode cX1_priceOf 7 = .ok (.iload_n 3, 1) := by decide +kernel
theorem dX1_priceOf_8 : decode cX1_priceOf 8 = .ok (.aload_n 0, 1) := by decide +kernel
theorem dX1_priceOf_9 : decode cX1_priceOf 9 = .ok (.getfield 33, 3) := by decide +kernel
theorem dX1_priceOf_12 : decode cX1_priceOf 12 = .ok (.invokestatic 176, 3) := by decide +kernel
theorem dX1_priceOf_15 : decode cX1_priceOf 15 = .ok (.istore_n 3, 1) := by decide +kernel
theorem dX1_priceOf_16 : decode cX1_priceOf 16 = .ok (.iload_n 1, 1) := by decide +kernel
theorem dX1_priceOf_17 : decode cX1_priceOf 17 = .ok (.iconst 2, 1) := by decide +kernel
theorem dX1_priceOf_18 : decode cX1_priceOf 18 = .ok (.if_icmp .lt 10, 3) := by decide +kernel
theorem dX1_priceOf_21 : decode cX1_priceOf 21 = .ok (.iload_n 3, 1) := by decide +kernel
theorem dX1_priceOf_22 : decode cX1_priceOf 22 = .ok (.iload_n 3, 1) := by decide +kernel
theorem dX1_priceOf_23 : decode cX1_priceOf 23 = .ok (.bipush 10, 2) := by decide +kernel
theorem dX1_priceOf_25 : decode cX1_priceOf 25 = .ok (.idiv, 1) := by decide +kernel
theorem dX1_priceOf_26 : decode cX1_priceOf 26 = .ok (.iadd, 1) := by decide +kernel
theorem dX1_priceOf_27 : decode cX1_priceOf 27 = .ok (.istore_n 3, 1) := by decide +kernel
theorem dX1_priceOf_28 : decode cX1_priceOf 28 = .ok (.iload_n 3, 1) := by decide +kernel
theorem dX1_priceOf_29 : decode cX1_priceOf 29 = .ok (.ireturn, 1) := by decide +kernel
theorem dX1_asksOf_0 : decode cX1_asksOf 0 = .ok (.iload_n 0, 1) := by decide +kernel
theorem dX1_asksOf_1 : decode cX1_asksOf 1 = .ok (.iconst 2, 1) := by decide +kernel
theorem dX1_asksOf_2 : decode cX1_asksOf 2 = .ok (.if_icmp .ne 8, 3) := by decide +kernel
theorem dX1_asksOf_5 : decode cX1_asksOf 5 = .ok (.bipush 111, 2) := by decide +kernel
theorem dX1_asksOf_7 : decode cX1_asksOf 7 = .ok (.goto 14, 3) := by decide +kernel
theorem dX1_asksOf_10 : decode cX1_asksOf 10 = .ok (.iload_n 0, 1) := by decide +kernel
theorem dX1_asksOf_11 : decode cX1_asksOf 11 = .ok (.iconst 1, 1) := by decide +kernel
theorem dX1_asksOf_12 : decode cX1_asksOf 12 = .ok (.if_icmp .ne 8, 3) := by decide +kernel
theorem dX1_asksOf_15 : decode cX1_asksOf 15 = .ok (.bipush 11, 2) := by decide +kernel
theorem dX1_asksOf_17 : decode cX1_asksOf 17 = .ok (.goto 4, 3) := by decide +kernel
theorem dX1_asksOf_20 : decode cX1_asksOf 20 = .ok (.iconst 1, 1) := by decide +kernel
theorem dX1_asksOf_21 : decode cX1_asksOf 21 = .ok (.ireturn, 1) := by decide +kernel
set_option maxRecDepth 20000 in
theorem ggX1_meanPaid_X0_weightAt : GoodIn wsX1_meanPaid wsX0_weightAt := goodIn_r _ [8, 9, 10, 94, 95, 96, 97, 98] (by decide +kernel) (by decide +kernel)
set_option maxRecDepth 20000 in
theorem gX1_meanPaid_X0_weightAt : GoodIn wsX1_meanPaid (wsV RX1 71 RX0 yX0_weightAt wsX0_weightAt) := goodIn_app (goodIn_of _ (by decide +kernel)) ggX1_meanPaid_X0_weightAt
set_option maxRecDepth 20000 in
theorem ggX1_meanPaid_X1_paidAt : GoodIn wsX1_meanPaid wsX1_paidAt := goodIn_r _ [15, 1, 2, 3, 16, 17, 18, 14, 19, 20, 21, 22, 23, 24, 25, 26, 27, 28, 29, 30, 7, 31, 9, 32, 33, 34, 35, 36, 37, 38, 39, 40, 41, 42, 43, 44, 45, 46, 47, 48, 49, 50, 51, 52, 53, 54, 55, 56, 57, 58, 59, 60, 61, 62, 63, 64, 65, 66, 86, 87, 88, 89, 90, 91, 92, 93, 94, 95, 96, 97, 98] (by decide +kernel) (by decide +kernel)
set_option maxRecDepth 20000 in
theorem gX1_meanPaid_X1_paidAt : GoodIn wsX1_meanPaid (wsV RX1 182 RX1 yX1_paidAt wsX1_paidAt) := goodIn_app (goodIn_of _ (by decide +kernel)) ggX1_meanPaid_X1_paidAt
set_option maxRecDepth 20000 in
theorem ggX1_meanPaid_X0_allWeights : GoodIn wsX1_meanPaid wsX0_allWeights := goodIn_r _ [70, 71, 72, 73, 7, 74, 75, 60, 57, 61, 9, 10, 94, 95, 96, 97, 98] (by decide +kernel) (by decide +kernel)
set_option maxRecDepth 20000 in
theorem gX1_meanPaid_X0_allWeights : GoodIn wsX1_meanPaid (wsV RX1 80 RX0 yX0_allWeights wsX0_allWeights) := goodIn_app (goodIn_of _ (by decide +kernel)) ggX1_meanPaid_X0_allWeights
set_option maxRecDepth 20000 in
theorem ggX1_meanPaid_X1_leastPart : GoodIn wsX1_meanPaid wsX1_leastPart := goodIn_r _ [78, 79, 80, 57, 81, 82, 83, 84, 14, 85] (by decide +kernel) (by decide +kernel)
set_option maxRecDepth 20000 in
theorem gX1_meanPaid_X1_leastPart : GoodIn wsX1_meanPaid (va_wsS RX1 99 yX1_leastPart wsX1_leastPart) := goodIn_app (goodIn_of _ (by decide +kernel)) ggX1_meanPaid_X1_leastPart
theorem dX1_meanPaid_0 : decode cX1_meanPaid 0 = .ok (.lconst 0, 1) := by decide +kernel
theorem dX1_meanPaid_1 : decode cX1_meanPaid 1 = .ok (.lstore_n 3, 1) := by decide +kernel
theorem dX1_meanPaid_2 : decode cX1_meanPaid 2 = .ok (.iconst 0, 1) := by decide +kernel
theorem dX1_meanPaid_3 : decode cX1_meanPaid 3 = .ok (.istore 5, 2) := by decide +kernel
theorem dX1_meanPaid_5 : decode cX1_meanPaid 5 = .ok (.iload 5, 2) := by decide +kernel
theorem dX1_meanPaid_7 : decode cX1_meanPaid 7 = .ok (.aload_n 0, 1) := by decide +kernel
theorem dX1_meanPaid_8 : decode cX1_meanPaid 8 = .ok (.getfield 10, 3) := by decide +kernel
theorem dX1_meanPaid_11 : decode cX1_meanPaid 11 = .ok (.getfield 58, 3) := by decide +kernel
theorem dX1_meanPaid_14 : decode cX1_meanPaid 14 = .ok (.if_icmp .ge 103, 3) := by decide +kernel
theorem dX1_meanPaid_17 : decode cX1_meanPaid 17 = .ok (.iconst 0, 1) := by decide +kernel
theorem dX1_meanPaid_18 : decode cX1_meanPaid 18 = .ok (.istore 6, 2) := by decide +kernel
theorem dX1_meanPaid_20 : decode cX1_meanPaid 20 = .ok (.iload 6, 2) := by decide +kernel
theorem dX1_meanPaid_22 : decode cX1_meanPaid 22 = .ok (.aload_n 0, 1) := by decide +kernel
theorem dX1_meanPaid_23 : decode cX1_meanPaid 23 = .ok (.getfield 16, 3) := by decide +kernel
theorem dX1_meanPaid_26 : decode cX1_meanPaid 26 = .ok (.getfield 58, 3) := by decide +kernel
theorem dX1_meanPaid_29 : decode cX1_meanPaid 29 = .ok (.if_icmp .ge 82, 3) := by decide +kernel
theorem dX1_meanPaid_32 : decode cX1_meanPaid 32 = .ok (.iconst 0, 1) := by decide +kernel
theorem dX1_meanPaid_33 : decode cX1_meanPaid 33 = .ok (.istore 7, 2) := by decide +kernel
theorem dX1_meanPaid_35 : decode cX1_meanPaid 35 = .ok (.iload 7, 2) := by decide +kernel
theorem dX1_meanPaid_37 : decode cX1_meanPaid 37 = .ok (.aload_n 0, 1) := by decide +kernel
theorem dX1_meanPaid_38 : decode cX1_meanPaid 38 = .ok (.getfield 19, 3) := by decide +kernel
theorem dX1_meanPaid_41 : decode cX1_meanPaid 41 = .ok (.getfield 58, 3) := by decide +kernel
theorem dX1_meanPaid_44 : decode cX1_meanPaid 44 = .ok (.if_icmp .ge 61, 3) := by decide +kernel
theorem dX1_meanPaid_47 : decode cX1_meanPaid 47 = .ok (.aload_n 0, 1) := by decide +kernel
theorem dX1_meanPaid_48 : decode cX1_meanPaid 48 = .ok (.getfield 10, 3) := by decide +kernel
theorem dX1_meanPaid_51 : decode cX1_meanPaid 51 = .ok (.iload 5, 2) := by decide +kernel
theorem dX1_meanPaid_53 : decode cX1_meanPaid 53 = .ok (.invokevirtual 71, 3) := by decide +kernel
theorem dX1_meanPaid_56 : decode cX1_meanPaid 56 = .ok (.i2l, 1) := by decide +kernel
theorem dX1_meanPaid_57 : decode cX1_meanPaid 57 = .ok (.aload_n 0, 1) := by decide +kernel
theorem dX1_meanPaid_58 : decode cX1_meanPaid 58 = .ok (.getfield 16, 3) := by decide +kernel
theorem dX1_meanPaid_61 : decode cX1_meanPaid 61 = .ok (.iload 6, 2) := by decide +kernel
theorem dX1_meanPaid_63 : decode cX1_meanPaid 63 = .ok (.invokevirtual 71, 3) := by decide +kernel
theorem dX1_meanPaid_66 : decode cX1_meanPaid 66 = .ok (.i2l, 1) := by decide +kernel
theorem dX1_meanPaid_67 : decode cX1_meanPaid 67 = .ok (.lmul, 1) := by decide +kernel
theorem dX1_meanPaid_68 : decode cX1_meanPaid 68 = .ok (.aload_n 0, 1) := by decide +kernel
theorem dX1_meanPaid_69 : decode cX1_meanPaid 69 = .ok (.getfield 19, 3) := by decide +kernel
theorem dX1_meanPaid_72 : decode cX1_meanPaid 72 = .ok (.iload 7, 2) := by decide +kernel
theorem dX1_meanPaid_74 : decode cX1_meanPaid 74 = .ok (.invokevirtual 71, 3) := by decide +kernel
theorem dX1_meanPaid_77 : decode cX1_meanPaid 77 = .ok (.i2l, 1) := by decide +kernel
theorem dX1_meanPaid_78 : decode cX1_meanPaid 78 = .ok (.lmul, 1) := by decide +kernel
theorem dX1_meanPaid_79 : decode cX1_meanPaid 79 = .ok (.lstore 8, 2) := by decide +kernel
theorem dX1_meanPaid_81 : decode cX1_meanPaid 81 = .ok (.lload_n 3, 1) := by decide +kernel
theorem dX1_meanPaid_82 : decode cX1_meanPaid 82 = .ok (.lload 8, 2) := by decide +kernel
theorem dX1_meanPaid_84 : decode cX1_meanPaid 84 = .ok (.aload_n 0, 1) := by decide +kernel
theorem dX1_meanPaid_85 : decode cX1_meanPaid 85 = .ok (.iload_n 1, 1) := by decide +kernel
theorem dX1_meanPaid_86 : decode cX1_meanPaid 86 = .ok (.iload 5, 2) := by decide +kernel
theorem dX1_meanPaid_88 : decode cX1_meanPaid 88 = .ok (.iload 6, 2) := by decide +kernel
theorem dX1_meanPaid_90 : decode cX1_meanPaid 90 = .ok (.iload 7, 2) := by decide +kernel
theorem dX1_meanPaid_92 : decode cX1_meanPaid 92 = .ok (.invokevirtual 182, 3) := by decide +kernel
theorem dX1_meanPaid_95 : decode cX1_meanPaid 95 = .ok (.i2l, 1) := by decide +kernel
theorem dX1_meanPaid_96 : decode cX1_meanPaid 96 = .ok (.lmul, 1) := by decide +kernel
theorem dX1_meanPaid_97 : decode cX1_meanPaid 97 = .ok (.ladd, 1) := by decide +kernel
theorem dX1_meanPaid_98 : decode cX1_meanPaid 98 = .ok (.lstore_n 3, 1) := by decide +kernel
theorem dX1_meanPaid_99 : decode cX1_meanPaid 99 = .ok (.iinc 7 1, 3) := by decide +kernel
theorem dX1_meanPaid_102 : decode cX1_meanPaid 102 = .ok (.goto (-67), 3) := by decide +kernel
theorem dX1_meanPaid_105 : decode cX1_meanPaid 105 = .ok (.iinc 6 1, 3) := by decide +kernel
theorem dX1_meanPaid_108 : decode cX1_meanPaid 108 = .ok (.goto (-88), 3) := by decide +kernel
theorem dX1_meanPaid_111 : decode cX1_meanPaid 111 = .ok (.iinc 5 1, 3) := by decide +kernel
theorem dX1_meanPaid_114 : decode cX1_meanPaid 114 = .ok (.goto (-109), 3) := by decide +kernel
theorem dX1_meanPaid_117 : decode cX1_meanPaid 117 = .ok (.aload_n 0, 1) := by decide +kernel
theorem dX1_meanPaid_118 : decode cX1_meanPaid 118 = .ok (.getfield 10, 3) := by decide +kernel
theorem dX1_meanPaid_121 : decode cX1_meanPaid 121 = .ok (.invokevirtual 80, 3) := by decide +kernel
theorem dX1_meanPaid_124 : decode cX1_meanPaid 124 = .ok (.i2l, 1) := by decide +kernel
theorem dX1_meanPaid_125 : decode cX1_meanPaid 125 = .ok (.aload_n 0, 1) := by decide +kernel
theorem dX1_meanPaid_126 : decode cX1_meanPaid 126 = .ok (.getfield 16, 3) := by decide +kernel
theorem dX1_meanPaid_129 : decode cX1_meanPaid 129 = .ok (.invokevirtual 80, 3) := by decide +kernel
theorem dX1_meanPaid_132 : decode cX1_meanPaid 132 = .ok (.i2l, 1) := by decide +kernel
theorem dX1_meanPaid_133 : decode cX1_meanPaid 133 = .ok (.lmul, 1) := by decide +kernel
theorem dX1_meanPaid_134 : decode cX1_meanPaid 134 = .ok (.aload_n 0, 1) := by decide +kernel
theorem dX1_meanPaid_135 : decode cX1_meanPaid 135 = .ok (.getfield 19, 3) := by decide +kernel
theorem dX1_meanPaid_138 : decode cX1_meanPaid 138 = .ok (.invokevirtual 80, 3) := by decide +kernel
theorem dX1_meanPaid_141 : decode cX1_meanPaid 141 = .ok (.i2l, 1) := by decide +kernel
theorem dX1_meanPaid_142 : decode cX1_meanPaid 142 = .ok (.lmul, 1) := by decide +kernel
theorem dX1_meanPaid_143 : decode cX1_meanPaid 143 = .ok (.lstore 5, 2) := by decide +kernel
theorem dX1_meanPaid_145 : decode cX1_meanPaid 145 = .ok (.lload_n 3, 1) := by decide +kernel
theorem dX1_meanPaid_146 : decode cX1_meanPaid 146 = .ok (.lload 5, 2) := by decide +kernel
theorem dX1_meanPaid_148 : decode cX1_meanPaid 148 = .ok (.iload_n 2, 1) := by decide +kernel
theorem dX1_meanPaid_149 : decode cX1_meanPaid 149 = .ok (.invokestatic 99, 3) := by decide +kernel
theorem dX1_meanPaid_152 : decode cX1_meanPaid 152 = .ok (.lreturn, 1) := by decide +kernel
set_option maxRecDepth 20000 in
theorem ggX1_paidAt_X1_winner : GoodIn wsX1_paidAt wsX1_winner := goodIn_r _ [8, 9, 10, 11, 7, 12, 13, 14, 15, 16, 1, 2, 3, 17, 18, 19, 20, 21, 22, 23, 24, 25, 26, 27, 28, 58, 59, 60, 61, 62, 63, 64, 65, 66, 67, 68, 69, 70] (by decide +kernel) (by decide +kernel)
set_option maxRecDepth 20000 in
theorem gX1_paidAt_X1_winner : GoodIn wsX1_paidAt (wsV RX1 107 RX1 yX1_winner wsX1_winner) := goodIn_app (goodIn_of _ (by decide +kernel)) ggX1_paidAt_X1_winner
set_option maxRecDepth 20000 in
theorem ggX1_paidAt_X1_leastWinning : GoodIn wsX1_paidAt wsX1_leastWinning := goodIn_r _ [32, 13, 14, 15, 7, 16, 1, 2, 3, 33, 34, 35, 36, 4, 5, 6, 8, 9, 10, 11, 12, 17, 18, 19, 20, 21, 22, 23, 24, 25, 26, 27, 28, 37, 38, 39, 40, 41, 66, 67, 68, 69, 70, 58, 59, 60, 61, 62, 63, 64, 65] (by decide +kernel) (by decide +kernel)
set_option maxRecDepth 20000 in
theorem gX1_paidAt_X1_leastWinning : GoodIn wsX1_paidAt (wsV RX1 111 RX1 yX1_leastWinning wsX1_leastWinning) := goodIn_app (goodIn_of _ (by decide +kernel)) ggX1_paidAt_X1_leastWinning
set_option maxRecDepth 20000 in
theorem ggX1_paidAt_X0_worthAt : GoodIn wsX1_paidAt wsX0_worthAt := goodIn_r _ [40, 22, 41, 66, 67, 68, 69, 70] (by decide +kernel) (by decide +kernel)
set_option maxRecDepth 20000 in
theorem gX1_paidAt_X0_worthAt : GoodIn wsX1_paidAt (wsV RX1 61 RX0 yX0_worthAt wsX0_worthAt) := goodIn_app (goodIn_of _ (by decide +kernel)) ggX1_paidAt_X0_worthAt
set_option maxRecDepth 20000 in
theorem ggX1_paidAt_X1_paidByKind : GoodIn wsX1_paidAt wsX1_paidByKind := goodIn_r _ [45, 9, 46, 47, 48, 49, 50, 51, 52, 53, 10, 11, 7, 12, 54, 55, 56, 57, 58, 59, 60, 61, 62, 63, 64, 65] (by decide +kernel) (by decide +kernel)
set_option maxRecDepth 20000 in
theorem gX1_paidAt_X1_paidByKind : GoodIn wsX1_paidAt (wsV RX1 132 RX1 yX1_paidByKind wsX1_paidByKind) := goodIn_app (goodIn_of _ (by decide +kernel)) ggX1_paidAt_X1_paidByKind
theorem dX1_paidAt_0 : decode cX1_paidAt 0 = .ok (.iload_n 1, 1) := by decide +kernel
theorem dX1_paidAt_1 : decode cX1_paidAt 1 = .ok (.iconst 3, 1) := by decide +kernel
theorem dX1_paidAt_2 : decode cX1_paidAt 2 = .ok (.if_icmp .ne 35, 3) := by decide +kernel
theorem dX1_paidAt_5 : decode cX1_paidAt 5 = .ok (.aload_n 0, 1) := by decide +kernel
theorem dX1_paidAt_6 : decode cX1_paidAt 6 = .ok (.iload_n 2, 1) := by decide +kernel
theorem dX1_paidAt_7 : decode cX1_paidAt 7 = .ok (.iload_n 3, 1) := by decide +kernel
theorem dX1_paidAt_8 : decode cX1_paidAt 8 = .ok (.iload 4, 2) := by decide +kernel
theorem dX1_paidAt_10 : decode cX1_paidAt 10 = .ok (.invokevirtual 107, 3) := by decide +kernel
theorem dX1_paidAt_13 : decode cX1_paidAt 13 = .ok (.istore 5, 2) := by decide +kernel
theorem dX1_paidAt_15 : decode cX1_paidAt 15 = .ok (.iload 5, 2) := by decide +kernel
theorem dX1_paidAt_17 : decode cX1_paidAt 17 = .ok (.bipush (-9), 2) := by decide +kernel
theorem dX1_paidAt_19 : decode cX1_paidAt 19 = .ok (.if_icmp .ne 7, 3) := by decide +kernel
theorem dX1_paidAt_22 : decode cX1_paidAt 22 = .ok (.iconst 0, 1) := by decide +kernel
theorem dX1_paidAt_23 : decode cX1_paidAt 23 = .ok (.goto 13, 3) := by decide +kernel
theorem dX1_paidAt_26 : decode cX1_paidAt 26 = .ok (.aload_n 0, 1) := by decide +kernel
theorem dX1_paidAt_27 : decode cX1_paidAt 27 = .ok (.iload_n 2, 1) := by decide +kernel
theorem dX1_paidAt_28 : decode cX1_paidAt 28 = .ok (.iload_n 3, 1) := by decide +kernel
theorem dX1_paidAt_29 : decode cX1_paidAt 29 = .ok (.iload 4, 2) := by decide +kernel
theorem dX1_paidAt_31 : decode cX1_paidAt 31 = .ok (.iload 5, 2) := by decide +kernel
theorem dX1_paidAt_33 : decode cX1_paidAt 33 = .ok (.invokevirtual 111, 3) := by decide +kernel
theorem dX1_paidAt_36 : decode cX1_paidAt 36 = .ok (.ireturn, 1) := by decide +kernel
theorem dX1_paidAt_37 : decode cX1_paidAt 37 = .ok (.aload_n 0, 1) := by decide +kernel
theorem dX1_paidAt_38 : decode cX1_paidAt 38 = .ok (.iload_n 1, 1) := by decide +kernel
theorem dX1_paidAt_39 : decode cX1_paidAt 39 = .ok (.aload_n 0, 1) := by decide +kernel
theorem dX1_paidAt_40 : decode cX1_paidAt 40 = .ok (.getfield 10, 3) := by decide +kernel
theorem dX1_paidAt_43 : decode cX1_paidAt 43 = .ok (.iload_n 2, 1) := by decide +kernel
theorem dX1_paidAt_44 : decode cX1_paidAt 44 = .ok (.invokevirtual 61, 3) := by decide +kernel
theorem dX1_paidAt_47 : decode cX1_paidAt 47 = .ok (.aload_n 0, 1) := by decide +kernel
theorem dX1_paidAt_48 : decode cX1_paidAt 48 = .ok (.getfield 16, 3) := by decide +kernel
theorem dX1_paidAt_51 : decode cX1_paidAt 51 = .ok (.iload_n 3, 1) := by decide +kernel
theorem dX1_paidAt_52 : decode cX1_paidAt 52 = .ok (.invokevirtual 61, 3) := by decide +kernel
theorem dX1_paidAt_55 : decode cX1_paidAt 55 = .ok (.aload_n 0, 1) := by decide +kernel
theorem dX1_paidAt_56 : decode cX1_paidAt 56 = .ok (.getfield 19, 3) := by decide +kernel
theorem dX1_paidAt_59 : decode cX1_paidAt 59 = .ok (.iload 4, 2) := by decide +kernel
theorem dX1_paidAt_61 : decode cX1_paidAt 61 = .ok (.invokevirtual 61, 3) := by decide +kernel
theorem dX1_paidAt_64 : decode cX1_paidAt 64 = .ok (.invokevirtual 132, 3) := by decide +kernel
theorem dX1_paidAt_67 : decode cX1_paidAt 67 = .ok (.istore 5, 2) := by decide +kernel
theorem dX1_paidAt_69 : decode cX1_paidAt 69 = .ok (.iload 5, 2) := by decide +kernel
theorem dX1_paidAt_71 : decode cX1_paidAt 71 = .ok (.bipush (-9), 2) := by decide +kernel
theorem dX1_paidAt_73 : decode cX1_paidAt 73 = .ok (.if_icmp .ne 7, 3) := by decide +kernel
theorem dX1_paidAt_76 : decode cX1_paidAt 76 = .ok (.iconst 0, 1) := by decide +kernel
theorem dX1_paidAt_77 : decode cX1_paidAt 77 = .ok (.goto 5, 3) := by decide +kernel
theorem dX1_paidAt_80 : decode cX1_paidAt 80 = .ok (.iload 5, 2) := by decide +kernel
theorem dX1_paidAt_82 : decode cX1_paidAt 82 = .ok (.ireturn, 1) := by decide +kernel
set_option maxRecDepth 20000 in
theorem ggX1_leastPart_X1_commonDivisor : GoodIn wsX1_leastPart wsX1_commonDivisor := goodIn_r _ [9] (by decide +kernel) (by decide +kernel)
set_option maxRecDepth 20000 in
theorem gX1_leastPart_X1_commonDivisor : GoodIn wsX1_leastPart (va_wsS RX1 189 yX1_commonDivisor wsX1_commonDivisor) := goodIn_app (goodIn_of _ (by decide +kernel)) ggX1_leastPart_X1_commonDivisor
theorem dX1_leastPart_0 : decode cX1_leastPart 0 = .ok (.lload_n 0, 1) := by decide +kernel
theorem dX1_leastPart_1 : decode cX1_leastPart 1 = .ok (.invokestatic 185, 3) := by decide +kernel
theorem dX1_leastPart_4 : decode cX1_leastPart 4 = .ok (.lload_n 2, 1) := by decide +kernel
theorem dX1_leastPart_5 : decode cX1_leastPart 5 = .ok (.invokestatic 189, 3) := by decide +kernel
theorem dX1_leastPart_8 : decode cX1_leastPart 8 = .ok (.lstore 5, 2) := by decide +kernel
theorem dX1_leastPart_10 : decode cX1_leastPart 10 = .ok (.lload 5, 2) := by decide +kernel
theorem dX1_leastPart_12 : decode cX1_leastPart 12 = .ok (.lconst 0, 1) := by decide +kernel
theorem dX1_leastPart_13 : decode cX1_leastPart 13 = .ok (.lcmp, 1) := by decide +kernel
theorem dX1_leastPart_14 : decode cX1_leastPart 14 = .ok (.ifCond .gt 7, 3) := by decide +kernel
theorem dX1_leastPart_17 : decode cX1_leastPart 17 = .ok (.ldc2_w 90, 3) := by decide +kernel
theorem dX1_leastPart_20 : decode cX1_leastPart 20 = .ok (.lreturn, 1) := by decide +kernel
theorem dX1_leastPart_21 : decode cX1_leastPart 21 = .ok (.iload 4, 2) := by decide +kernel
theorem dX1_leastPart_23 : decode cX1_leastPart 23 = .ok (.ifCond .ne 7, 3) := by decide +kernel
theorem dX1_leastPart_26 : decode cX1_leastPart 26 = .ok (.lload_n 0, 1) := by decide +kernel
theorem dX1_leastPart_27 : decode cX1_leastPart 27 = .ok (.goto 4, 3) := by decide +kernel
theorem dX1_leastPart_30 : decode cX1_leastPart 30 = .ok (.lload_n 2, 1) := by decide +kernel
theorem dX1_leastPart_31 : decode cX1_leastPart 31 = .ok (.lload 5, 2) := by decide +kernel
theorem dX1_leastPart_33 : decode cX1_leastPart 33 = .ok (.ldiv, 1) := by decide +kernel
theorem dX1_leastPart_34 : decode cX1_leastPart 34 = .ok (.lreturn, 1) := by decide +kernel
theorem dX1_commonDivisor_0 : decode cX1_commonDivisor 0 = .ok (.lload_n 0, 1) := by decide +kernel
theorem dX1_commonDivisor_1 : decode cX1_commonDivisor 1 = .ok (.lstore 4, 2) := by decide +kernel
theorem dX1_commonDivisor_3 : decode cX1_commonDivisor 3 = .ok (.lload_n 2, 1) := by decide +kernel
theorem dX1_commonDivisor_4 : decode cX1_commonDivisor 4 = .ok (.lstore 6, 2) := by decide +kernel
theorem dX1_commonDivisor_6 : decode cX1_commonDivisor 6 = .ok (.iconst 0, 1) := by decide +kernel
theorem dX1_commonDivisor_7 : decode cX1_commonDivisor 7 = .ok (.istore 8, 2) := by decide +kernel
theorem dX1_commonDivisor_9 : decode cX1_commonDivisor 9 = .ok (.iload 8, 2) := by decide +kernel
theorem dX1_commonDivisor_11 : decode cX1_commonDivisor 11 = .ok (.bipush 100, 2) := by decide +kernel
theorem dX1_commonDivisor_13 : decode cX1_commonDivisor 13 = .ok (.if_icmp .ge 31, 3) := by decide +kernel
theorem dX1_commonDivisor_16 : decode cX1_commonDivisor 16 = .ok (.lload 6, 2) := by decide +kernel
theorem dX1_commonDivisor_18 : decode cX1_commonDivisor 18 = .ok (.lconst 0, 1) := by decide +kernel
theorem dX1_commonDivisor_19 : decode cX1_commonDivisor 19 = .ok (.lcmp, 1) := by decide +kernel
theorem dX1_commonDivisor_20 : decode cX1_commonDivisor 20 = .ok (.ifCond .eq 24, 3) := by decide +kernel
theorem dX1_commonDivisor_23 : decode cX1_commonDivisor 23 = .ok (.lload 4, 2) := by decide +kernel
theorem dX1_commonDivisor_25 : decode cX1_commonDivisor 25 = .ok (.lload 6, 2) := by decide +kernel
theorem dX1_commonDivisor_27 : decode cX1_commonDivisor 27 = .ok (.lrem, 1) := by decide +kernel
theorem dX1_commonDivisor_28 : decode cX1_commonDivisor 28 = .ok (.lstore 9, 2) := by decide +kernel
theorem dX1_commonDivisor_30 : decode cX1_commonDivisor 30 = .ok (.lload 6, 2) := by decide +kernel
theorem dX1_commonDivisor_32 : decode cX1_commonDivisor 32 = .ok (.lstore 4, 2) := by decide +kernel
theorem dX1_commonDivisor_34 : decode cX1_commonDivisor 34 = .ok (.lload 9, 2) := by decide +kernel
theorem dX1_commonDivisor_36 : decode cX1_commonDivisor 36 = .ok (.lstore 6, 2) := by decide +kernel
theorem dX1_commonDivisor_38 : decode cX1_commonDivisor 38 = .ok (.iinc 8 1, 3) := by decide +kernel
theorem dX1_commonDivisor_41 : decode cX1_commonDivisor 41 = .ok (.goto (-32), 3) := by decide +kernel
theorem dX1_commonDivisor_44 : decode cX1_commonDivisor 44 = .ok (.lload 4, 2) := by decide +kernel
theorem dX1_commonDivisor_46 : decode cX1_commonDivisor 46 = .ok (.lreturn, 1) := by decide +kernel
set_option maxRecDepth 20000 in
theorem ggX1_bestOffer_X1_offerBrings : GoodIn wsX1_bestOffer wsX1_offerBrings := goodIn_r _ [4, 5, 6, 7, 8, 9, 10, 11, 12, 13, 14, 15, 16, 17, 18, 19, 20, 21, 22, 23, 24, 25, 26, 27, 28, 29, 30, 31, 32, 33, 34] (by decide +kernel) (by decide +kernel)
set_option maxRecDepth 20000 in
theorem gX1_bestOffer_X1_offerBrings : GoodIn wsX1_bestOffer (va_wsS RX1 147 yX1_offerBrings wsX1_offerBrings) := goodIn_app (goodIn_of _ (by decide +kernel)) ggX1_bestOffer_X1_offerBrings
theorem dX1_bestOffer_0 : decode cX1_bestOffer 0 = .ok (.iconst 0, 1) := by decide +kernel
theorem dX1_bestOffer_1 : decode cX1_bestOffer 1 = .ok (.istore 5, 2) := by decide +kernel
theorem dX1_bestOffer_3 : decode cX1_bestOffer 3 = .ok (.iconst 1, 1) := by decide +kernel
theorem dX1_bestOffer_4 : decode cX1_bestOffer 4 = .ok (.istore 6, 2) := by decide +kernel
theorem dX1_bestOffer_6 : decode cX1_bestOffer 6 = .ok (.iload 6, 2) := by decide +kernel
theorem dX1_bestOffer_8 : decode cX1_bestOffer 8 = .ok (.aload_n 0, 1) := by decide +kernel
theorem dX1_bestOffer_9 : decode cX1_bestOffer 9 = .ok (.getfield 58, 3) := by decide +kernel
theorem dX1_bestOffer_12 : decode cX1_bestOffer 12 = .ok (.if_icmp .gt 33, 3) := by decide +kernel
theorem dX1_bestOffer_15 : decode cX1_bestOffer 15 = .ok (.aload_n 0, 1) := by decide +kernel
theorem dX1_bestOffer_16 : decode cX1_bestOffer 16 = .ok (.iload 6, 2) := by decide +kernel
theorem dX1_bestOffer_18 : decode cX1_bestOffer 18 = .ok (.lload_n 1, 1) := by decide +kernel
theorem dX1_bestOffer_19 : decode cX1_bestOffer 19 = .ok (.lload_n 3, 1) := by decide +kernel
theorem dX1_bestOffer_20 : decode cX1_bestOffer 20 = .ok (.invokestatic 147, 3) := by decide +kernel
theorem dX1_bestOffer_23 : decode cX1_bestOffer 23 = .ok (.aload_n 0, 1) := by decide +kernel
theorem dX1_bestOffer_24 : decode cX1_bestOffer 24 = .ok (.iload 5, 2) := by decide +kernel
theorem dX1_bestOffer_26 : decode cX1_bestOffer 26 = .ok (.lload_n 1, 1) := by decide +kernel
theorem dX1_bestOffer_27 : decode cX1_bestOffer 27 = .ok (.lload_n 3, 1) := by decide +kernel
theorem dX1_bestOffer_28 : decode cX1_bestOffer 28 = .ok (.invokestatic 147, 3) := by decide +kernel
theorem dX1_bestOffer_31 : decode cX1_bestOffer 31 = .ok (.lcmp, 1) := by decide +kernel
theorem dX1_bestOffer_32 : decode cX1_bestOffer 32 = .ok (.ifCond .le 7, 3) := by decide +kernel
theorem dX1_bestOffer_35 : decode cX1_bestOffer 35 = .ok (.iload 6, 2) := by decide +kernel
theorem dX1_bestOffer_37 : decode cX1_bestOffer 37 = .ok (.istore 5, 2) := by decide +kernel
theorem dX1_bestOffer_39 : decode cX1_bestOffer 39 = .ok (.iinc 6 1, 3) := by decide +kernel
theorem dX1_bestOffer_42 : decode cX1_bestOffer 42 = .ok (.goto (-36), 3) := by decide +kernel
theorem dX1_bestOffer_45 : decode cX1_bestOffer 45 = .ok (.iload 5, 2) := by decide +kernel
theorem dX1_bestOffer_47 : decode cX1_bestOffer 47 = .ok (.ireturn, 1) := by decide +kernel
set_option maxRecDepth 20000 in
theorem ggX1_offerBrings_X0_takeAt : GoodIn wsX1_offerBrings wsX0_takeAt := goodIn_r _ [5, 6, 7, 8, 4, 9, 10, 11, 12, 13, 14, 15, 16, 17, 18, 19, 20, 26, 27, 28, 29, 30] (by decide +kernel) (by decide +kernel)
set_option maxRecDepth 20000 in
theorem gX1_offerBrings_X0_takeAt : GoodIn wsX1_offerBrings (wsV RX1 77 RX0 yX0_takeAt wsX0_takeAt) := goodIn_app (goodIn_of _ (by decide +kernel)) ggX1_offerBrings_X0_takeAt
set_option maxRecDepth 20000 in
theorem ggX1_offerBrings_X0_allWeights : GoodIn wsX1_offerBrings wsX0_allWeights := goodIn_r _ [24, 12, 13, 14, 4, 15, 16, 17, 18, 19, 10, 20, 26, 27, 28, 29, 30] (by decide +kernel) (by decide +kernel)
set_option maxRecDepth 20000 in
theorem gX1_offerBrings_X0_allWeights : GoodIn wsX1_offerBrings (wsV RX1 80 RX0 yX0_allWeights wsX0_allWeights) := goodIn_app (goodIn_of _ (by decide +kernel)) ggX1_offerBrings_X0_allWeights
set_option maxRecDepth 20000 in
theorem ggX1_offerBrings_X0_shareAt : GoodIn wsX1_offerBrings wsX0_shareAt := goodIn_r _ [15, 16, 17, 18, 19, 10, 20, 26, 27, 28, 29, 30] (by decide +kernel) (by decide +kernel)
set_option maxRecDepth 20000 in
theorem gX1_offerBrings_X0_shareAt : GoodIn wsX1_offerBrings (wsV RX1 74 RX0 yX0_shareAt wsX0_shareAt) := goodIn_app (goodIn_of _ (by decide +kernel)) ggX1_offerBrings_X0_shareAt
theorem dX1_offerBrings_0 : decode cX1_offerBrings 0 = .ok (.aload_n 0, 1) := by decide +kernel
theorem dX1_offerBrings_1 : decode cX1_offerBrings 1 = .ok (.iload_n 1, 1) := by decide +kernel
theorem dX1_offerBrings_2 : decode cX1_offerBrings 2 = .ok (.invokevirtual 77, 3) := by decide +kernel
theorem dX1_offerBrings_5 : decode cX1_offerBrings 5 = .ok (.i2l, 1) := by decide +kernel
theorem dX1_offerBrings_6 : decode cX1_offerBrings 6 = .ok (.lload 4, 2) := by decide +kernel
theorem dX1_offerBrings_8 : decode cX1_offerBrings 8 = .ok (.lmul, 1) := by decide +kernel
theorem dX1_offerBrings_9 : decode cX1_offerBrings 9 = .ok (.aload_n 0, 1) := by decide +kernel
theorem dX1_offerBrings_10 : decode cX1_offerBrings 10 = .ok (.invokevirtual 80, 3) := by decide +kernel
theorem dX1_offerBrings_13 : decode cX1_offerBrings 13 = .ok (.aload_n 0, 1) := by decide +kernel
theorem dX1_offerBrings_14 : decode cX1_offerBrings 14 = .ok (.iload_n 1, 1) := by decide +kernel
theorem dX1_offerBrings_15 : decode cX1_offerBrings 15 = .ok (.invokevirtual 74, 3) := by decide +kernel
theorem dX1_offerBrings_18 : decode cX1_offerBrings 18 = .ok (.isub, 1) := by decide +kernel
theorem dX1_offerBrings_19 : decode cX1_offerBrings 19 = .ok (.i2l, 1) := by decide +kernel
theorem dX1_offerBrings_20 : decode cX1_offerBrings 20 = .ok (.lload_n 2, 1) := by decide +kernel
theorem dX1_offerBrings_21 : decode cX1_offerBrings 21 = .ok (.lmul, 1) := by decide +kernel
theorem dX1_offerBrings_22 : decode cX1_offerBrings 22 = .ok (.ladd, 1) := by decide +kernel
theorem dX1_offerBrings_23 : decode cX1_offerBrings 23 = .ok (.lreturn, 1) := by decide +kernel
set_option maxRecDepth 20000 in
theorem ggX1_bestSum_X0_worthAt : GoodIn wsX1_bestSum wsX0_worthAt := goodIn_r _ [5, 6, 7, 17, 18, 19, 20, 21] (by decide +kernel) (by decide +kernel)
set_option maxRecDepth 20000 in
theorem gX1_bestSum_X0_worthAt : GoodIn wsX1_bestSum (wsV RX1 61 RX0 yX0_worthAt wsX0_worthAt) := goodIn_app (goodIn_of _ (by decide +kernel)) ggX1_bestSum_X0_worthAt
set_option maxRecDepth 20000 in
theorem ggX1_bestSum_X1_pairsFrom : GoodIn wsX1_bestSum wsX1_pairsFrom := goodIn_r _ [11, 1, 2, 3, 4, 5, 6, 7, 12, 13, 14, 15, 16, 17, 18, 19, 20, 21] (by decide +kernel) (by decide +kernel)
set_option maxRecDepth 20000 in
theorem gX1_bestSum_X1_pairsFrom : GoodIn wsX1_bestSum (va_wsS RX1 155 yX1_pairsFrom wsX1_pairsFrom) := goodIn_app (goodIn_of _ (by decide +kernel)) ggX1_bestSum_X1_pairsFrom
theorem dX1_bestSum_0 : decode cX1_bestSum 0 = .ok (.iconst 0, 1) := by decide +kernel
theorem dX1_bestSum_1 : decode cX1_bestSum 1 = .ok (.istore_n 2, 1) := by decide +kernel
theorem dX1_bestSum_2 : decode cX1_bestSum 2 = .ok (.iconst (-1), 1) := by decide +kernel
theorem dX1_bestSum_3 : decode cX1_bestSum 3 = .ok (.istore_n 3, 1) := by decide +kernel
theorem dX1_bestSum_4 : decode cX1_bestSum 4 = .ok (.iconst 0, 1) := by decide +kernel
theorem dX1_bestSum_5 : decode cX1_bestSum 5 = .ok (.istore 4, 2) := by decide +kernel
theorem dX1_bestSum_7 : decode cX1_bestSum 7 = .ok (.iload 4, 2) := by decide +kernel
theorem dX1_bestSum_9 : decode cX1_bestSum 9 = .ok (.aload_n 0, 1) := by decide +kernel
theorem dX1_bestSum_10 : decode cX1_bestSum 10 = .ok (.getfield 58, 3) := by decide +kernel
theorem dX1_bestSum_13 : decode cX1_bestSum 13 = .ok (.if_icmp .ge 78, 3) := by decide +kernel
theorem dX1_bestSum_16 : decode cX1_bestSum 16 = .ok (.iconst 0, 1) := by decide +kernel
theorem dX1_bestSum_17 : decode cX1_bestSum 17 = .ok (.istore 5, 2) := by decide +kernel
theorem dX1_bestSum_19 : decode cX1_bestSum 19 = .ok (.iload 5, 2) := by decide +kernel
theorem dX1_bestSum_21 : decode cX1_bestSum 21 = .ok (.aload_n 1, 1) := by decide +kernel
theorem dX1_bestSum_22 : decode cX1_bestSum 22 = .ok (.getfield 58, 3) := by decide +kernel
theorem dX1_bestSum_25 : decode cX1_bestSum 25 = .ok (.if_icmp .ge 60, 3) := by decide +kernel
theorem dX1_bestSum_28 : decode cX1_bestSum 28 = .ok (.aload_n 0, 1) := by decide +kernel
theorem dX1_bestSum_29 : decode cX1_bestSum 29 = .ok (.iload 4, 2) := by decide +kernel
theorem dX1_bestSum_31 : decode cX1_bestSum 31 = .ok (.invokevirtual 61, 3) := by decide +kernel
theorem dX1_bestSum_34 : decode cX1_bestSum 34 = .ok (.aload_n 1, 1) := by decide +kernel
theorem dX1_bestSum_35 : decode cX1_bestSum 35 = .ok (.iload 5, 2) := by decide +kernel
theorem dX1_bestSum_37 : decode cX1_bestSum 37 = .ok (.invokevirtual 61, 3) := by decide +kernel
theorem dX1_bestSum_40 : decode cX1_bestSum 40 = .ok (.iadd, 1) := by decide +kernel
theorem dX1_bestSum_41 : decode cX1_bestSum 41 = .ok (.istore 6, 2) := by decide +kernel
theorem dX1_bestSum_43 : decode cX1_bestSum 43 = .ok (.iload 6, 2) := by decide +kernel
theorem dX1_bestSum_45 : decode cX1_bestSum 45 = .ok (.aload_n 0, 1) := by decide +kernel
theorem dX1_bestSum_46 : decode cX1_bestSum 46 = .ok (.aload_n 1, 1) := by decide +kernel
theorem dX1_bestSum_47 : decode cX1_bestSum 47 = .ok (.iload 6, 2) := by decide +kernel
theorem dX1_bestSum_49 : decode cX1_bestSum 49 = .ok (.invokestatic 155, 3) := by decide +kernel
theorem dX1_bestSum_52 : decode cX1_bestSum 52 = .ok (.imul, 1) := by decide +kernel
theorem dX1_bestSum_53 : decode cX1_bestSum 53 = .ok (.istore 7, 2) := by decide +kernel
theorem dX1_bestSum_55 : decode cX1_bestSum 55 = .ok (.iload 7, 2) := by decide +kernel
theorem dX1_bestSum_57 : decode cX1_bestSum 57 = .ok (.iload_n 3, 1) := by decide +kernel
theorem dX1_bestSum_58 : decode cX1_bestSum 58 = .ok (.if_icmp .gt 15, 3) := by decide +kernel
theorem dX1_bestSum_61 : decode cX1_bestSum 61 = .ok (.iload 7, 2) := by decide +kernel
theorem dX1_bestSum_63 : decode cX1_bestSum 63 = .ok (.iload_n 3, 1) := by decide +kernel
theorem dX1_bestSum_64 : decode cX1_bestSum 64 = .ok (.if_icmp .ne 15, 3) := by decide +kernel
theorem dX1_bestSum_67 : decode cX1_bestSum 67 = .ok (.iload 6, 2) := by decide +kernel
theorem dX1_bestSum_69 : decode cX1_bestSum 69 = .ok (.iload_n 2, 1) := by decide +kernel
theorem dX1_bestSum_70 : decode cX1_bestSum 70 = .ok (.if_icmp .ge 9, 3) := by decide +kernel
theorem dX1_bestSum_73 : decode cX1_bestSum 73 = .ok (.iload 6, 2) := by decide +kernel
theorem dX1_bestSum_75 : decode cX1_bestSum 75 = .ok (.istore_n 2, 1) := by decide +kernel
theorem dX1_bestSum_76 : decode cX1_bestSum 76 = .ok (.iload 7, 2) := by decide +kernel
theorem dX1_bestSum_78 : decode cX1_bestSum 78 = .ok (.istore_n 3, 1) := by decide +kernel
theorem dX1_bestSum_79 : decode cX1_bestSum 79 = .ok (.iinc 5 1, 3) := by decide +kernel
theorem dX1_bestSum_82 : decode cX1_bestSum 82 = .ok (.goto (-63), 3) := by decide +kernel
theorem dX1_bestSum_85 : decode cX1_bestSum 85 = .ok (.iinc 4 1, 3) := by decide +kernel
theorem dX1_bestSum_88 : decode cX1_bestSum 88 = .ok (.goto (-81), 3) := by decide +kernel
theorem dX1_bestSum_91 : decode cX1_bestSum 91 = .ok (.iload_n 2, 1) := by decide +kernel
theorem dX1_bestSum_92 : decode cX1_bestSum 92 = .ok (.ireturn, 1) := by decide +kernel
set_option maxRecDepth 20000 in
theorem ggX1_pairsFrom_X0_worthAt : GoodIn wsX1_pairsFrom wsX0_worthAt := goodIn_r _ [5, 6, 7, 13, 14, 15, 16, 17] (by decide +kernel) (by decide +kernel)
set_option maxRecDepth 20000 in
theorem gX1_pairsFrom_X0_worthAt : GoodIn wsX1_pairsFrom (wsV RX1 61 RX0 yX0_worthAt wsX0_worthAt) := goodIn_app (goodIn_of _ (by decide +kernel)) ggX1_pairsFrom_X0_worthAt
set_option maxRecDepth 20000 in
theorem ggX1_pairsFrom_X0_weightAt : GoodIn wsX1_pairsFrom wsX0_weightAt := goodIn_r _ [11, 6, 12, 13, 14, 15, 16, 17] (by decide +kernel) (by decide +kernel)
set_option maxRecDepth 20000 in
theorem gX1_pairsFrom_X0_weightAt : GoodIn wsX1_pairsFrom (wsV RX1 71 RX0 yX0_weightAt wsX0_weightAt) := goodIn_app (goodIn_of _ (by decide +kernel)) ggX1_pairsFrom_X0_weightAt
theorem dX1_pairsFrom_0 : decode cX1_pairsFrom 0 = .ok (.iconst 0, 1) := by decide +kernel
theorem dX1_pairsFrom_1 : decode cX1_pairsFrom 1 = .ok (.istore_n 3, 1) := by decide +kernel
theorem dX1_pairsFrom_2 : decode cX1_pairsFrom 2 = .ok (.iconst 0, 1) := by decide +kernel
theorem dX1_pairsFrom_3 : decode cX1_pairsFrom 3 = .ok (.istore 4, 2) := by decide +kernel
theorem dX1_pairsFrom_5 : decode cX1_pairsFrom 5 = .ok (.iload 4, 2) := by decide +kernel
theorem dX1_pairsFrom_7 : decode cX1_pairsFrom 7 = .ok (.aload_n 0, 1) := by decide +kernel
theorem dX1_pairsFrom_8 : decode cX1_pairsFrom 8 = .ok (.getfield 58, 3) := by decide +kernel
theorem dX1_pairsFrom_11 : decode cX1_pairsFrom 11 = .ok (.if_icmp .ge 60, 3) := by decide +kernel
theorem dX1_pairsFrom_14 : decode cX1_pairsFrom 14 = .ok (.iconst 0, 1) := by decide +kernel
theorem dX1_pairsFrom_15 : decode cX1_pairsFrom 15 = .ok (.istore 5, 2) := by decide +kernel
theorem dX1_pairsFrom_17 : decode cX1_pairsFrom 17 = .ok (.iload 5, 2) := by decide +kernel
theorem dX1_pairsFrom_19 : decode cX1_pairsFrom 19 = .ok (.aload_n 1, 1) := by decide +kernel
theorem dX1_pairsFrom_20 : decode cX1_pairsFrom 20 = .ok (.getfield 58, 3) := by decide +kernel
theorem dX1_pairsFrom_23 : decode cX1_pairsFrom 23 = .ok (.if_icmp .ge 42, 3) := by decide +kernel
theorem dX1_pairsFrom_26 : decode cX1_pairsFrom 26 = .ok (.aload_n 0, 1) := by decide +kernel
theorem dX1_pairsFrom_27 : decode cX1_pairsFrom 27 = .ok (.iload 4, 2) := by decide +kernel
theorem dX1_pairsFrom_29 : decode cX1_pairsFrom 29 = .ok (.invokevirtual 61, 3) := by decide +kernel
theorem dX1_pairsFrom_32 : decode cX1_pairsFrom 32 = .ok (.aload_n 1, 1) := by decide +kernel
theorem dX1_pairsFrom_33 : decode cX1_pairsFrom 33 = .ok (.iload 5, 2) := by decide +kernel
theorem dX1_pairsFrom_35 : decode cX1_pairsFrom 35 = .ok (.invokevirtual 61, 3) := by decide +kernel
theorem dX1_pairsFrom_38 : decode cX1_pairsFrom 38 = .ok (.iadd, 1) := by decide +kernel
theorem dX1_pairsFrom_39 : decode cX1_pairsFrom 39 = .ok (.iload_n 2, 1) := by decide +kernel
theorem dX1_pairsFrom_40 : decode cX1_pairsFrom 40 = .ok (.if_icmp .lt 19, 3) := by decide +kernel
theorem dX1_pairsFrom_43 : decode cX1_pairsFrom 43 = .ok (.iload_n 3, 1) := by decide +kernel
theorem dX1_pairsFrom_44 : decode cX1_pairsFrom 44 = .ok (.aload_n 0, 1) := by decide +kernel
theorem dX1_pairsFrom_45 : decode cX1_pairsFrom 45 = .ok (.iload 4, 2) := by decide +kernel
theorem dX1_pairsFrom_47 : decode cX1_pairsFrom 47 = .ok (.invokevirtual 71, 3) := by decide +kernel
theorem dX1_pairsFrom_50 : decode cX1_pairsFrom 50 = .ok (.aload_n 1, 1) := by decide +kernel
theorem dX1_pairsFrom_51 : decode cX1_pairsFrom 51 = .ok (.iload 5, 2) := by decide +kernel
theorem dX1_pairsFrom_53 : decode cX1_pairsFrom 53 = .ok (.invokevirtual 71, 3) := by decide +kernel
theorem dX1_pairsFrom_56 : decode cX1_pairsFrom 56 = .ok (.imul, 1) := by decide +kernel
theorem dX1_pairsFrom_57 : decode cX1_pairsFrom 57 = .ok (.iadd, 1) := by decide +kernel
theorem dX1_pairsFrom_58 : decode cX1_pairsFrom 58 = .ok (.istore_n 3, 1) := by decide +kernel
theorem dX1_pairsFrom_59 : decode cX1_pairsFrom 59 = .ok (.iinc 5 1, 3) := by decide +kernel
theorem dX1_pairsFrom_62 : decode cX1_pairsFrom 62 = .ok (.goto (-45), 3) := by decide +kernel
theorem dX1_pairsFrom_65 : decode cX1_pairsFrom 65 = .ok (.iinc 4 1, 3) := by decide +kernel
theorem dX1_pairsFrom_68 : decode cX1_pairsFrom 68 = .ok (.goto (-63), 3) := by decide +kernel
theorem dX1_pairsFrom_71 : decode cX1_pairsFrom 71 = .ok (.iload_n 3, 1) := by decide +kernel
theorem dX1_pairsFrom_72 : decode cX1_pairsFrom 72 = .ok (.ireturn, 1) := by decide +kernel
set_option maxRecDepth 20000 in
theorem ggX1_bothAlone_X0_bestPlace : GoodIn wsX1_bothAlone wsX0_bestPlace := goodIn_r _ [5, 6, 7, 8, 9, 4, 10, 11, 12, 13, 14, 15, 16, 17, 18, 19, 20, 21, 22, 23, 24, 30, 31, 32, 33, 34] (by decide +kernel) (by decide +kernel)
set_option maxRecDepth 20000 in
theorem gX1_bothAlone_X0_bestPlace : GoodIn wsX1_bothAlone (wsV RX1 84 RX0 yX0_bestPlace wsX0_bestPlace) := goodIn_app (goodIn_of _ (by decide +kernel)) ggX1_bothAlone_X0_bestPlace
set_option maxRecDepth 20000 in
theorem ggX1_bothAlone_X0_takeAt : GoodIn wsX1_bothAlone wsX0_takeAt := goodIn_r _ [10, 11, 12, 13, 4, 14, 6, 15, 16, 17, 18, 19, 20, 21, 22, 23, 24, 30, 31, 32, 33, 34] (by decide +kernel) (by decide +kernel)
set_option maxRecDepth 20000 in
theorem gX1_bothAlone_X0_takeAt : GoodIn wsX1_bothAlone (wsV RX1 77 RX0 yX0_takeAt wsX0_takeAt) := goodIn_app (goodIn_of _ (by decide +kernel)) ggX1_bothAlone_X0_takeAt
set_option maxRecDepth 20000 in
theorem ggX1_bothAlone_X0_allWeights : GoodIn wsX1_bothAlone wsX0_allWeights := goodIn_r _ [29, 16, 17, 18, 4, 19, 20, 21, 22, 23, 6, 24, 30, 31, 32, 33, 34] (by decide +kernel) (by decide +kernel)
set_option maxRecDepth 20000 in
theorem gX1_bothAlone_X0_allWeights : GoodIn wsX1_bothAlone (wsV RX1 80 RX0 yX0_allWeights wsX0_allWeights) := goodIn_app (goodIn_of _ (by decide +kernel)) ggX1_bothAlone_X0_allWeights
theorem dX1_bothAlone_0 : decode cX1_bothAlone 0 = .ok (.aload_n 0, 1) := by decide +kernel
theorem dX1_bothAlone_1 : decode cX1_bothAlone 1 = .ok (.aload_n 0, 1) := by decide +kernel
theorem dX1_bothAlone_2 : decode cX1_bothAlone 2 = .ok (.invokevirtual 84, 3) := by decide +kernel
theorem dX1_bothAlone_5 : decode cX1_bothAlone 5 = .ok (.invokevirtual 77, 3) := by decide +kernel
theorem dX1_bothAlone_8 : decode cX1_bothAlone 8 = .ok (.aload_n 1, 1) := by decide +kernel
theorem dX1_bothAlone_9 : decode cX1_bothAlone 9 = .ok (.invokevirtual 80, 3) := by decide +kernel
theorem dX1_bothAlone_12 : decode cX1_bothAlone 12 = .ok (.imul, 1) := by decide +kernel
theorem dX1_bothAlone_13 : decode cX1_bothAlone 13 = .ok (.aload_n 1, 1) := by decide +kernel
theorem dX1_bothAlone_14 : decode cX1_bothAlone 14 = .ok (.aload_n 1, 1) := by decide +kernel
theorem dX1_bothAlone_15 : decode cX1_bothAlone 15 = .ok (.invokevirtual 84, 3) := by decide +kernel
theorem dX1_bothAlone_18 : decode cX1_bothAlone 18 = .ok (.invokevirtual 77, 3) := by decide +kernel
theorem dX1_bothAlone_21 : decode cX1_bothAlone 21 = .ok (.aload_n 0, 1) := by decide +kernel
theorem dX1_bothAlone_22 : decode cX1_bothAlone 22 = .ok (.invokevirtual 80, 3) := by decide +kernel
theorem dX1_bothAlone_25 : decode cX1_bothAlone 25 = .ok (.imul, 1) := by decide +kernel
theorem dX1_bothAlone_26 : decode cX1_bothAlone 26 = .ok (.iadd, 1) := by decide +kernel
theorem dX1_bothAlone_27 : decode cX1_bothAlone 27 = .ok (.ireturn, 1) := by decide +kernel
theorem dX1_samplesFrom_0 : decode cX1_samplesFrom 0 = .ok (.iconst 0, 1) := by decide +kernel
theorem dX1_samplesFrom_1 : decode cX1_samplesFrom 1 = .ok (.istore_n 2, 1) := by decide +kernel
theorem dX1_samplesFrom_2 : decode cX1_samplesFrom 2 = .ok (.iconst 0, 1) := by decide +kernel
theorem dX1_samplesFrom_3 : decode cX1_samplesFrom 3 = .ok (.istore_n 3, 1) := by decide +kernel
theorem dX1_samplesFrom_4 : decode cX1_samplesFrom 4 = .ok (.iload_n 3, 1) := by decide +kernel
theorem dX1_samplesFrom_5 : decode cX1_samplesFrom 5 = .ok (.aload_n 0, 1) := by decide +kernel
theorem dX1_samplesFrom_6 : decode cX1_samplesFrom 6 = .ok (.getfield 30, 3) := by decide +kernel
theorem dX1_samplesFrom_9 : decode cX1_samplesFrom 9 = .ok (.if_icmp .ge 22, 3) := by decide +kernel
theorem dX1_samplesFrom_12 : decode cX1_samplesFrom 12 = .ok (.aload_n 0, 1) := by decide +kernel
theorem dX1_samplesFrom_13 : decode cX1_samplesFrom 13 = .ok (.getfield 22, 3) := by decide +kernel
theorem dX1_samplesFrom_16 : decode cX1_samplesFrom 16 = .ok (.iload_n 3, 1) := by decide +kernel
theorem dX1_samplesFrom_17 : decode cX1_samplesFrom 17 = .ok (.iaload, 1) := by decide +kernel
theorem dX1_samplesFrom_18 : decode cX1_samplesFrom 18 = .ok (.iload_n 1, 1) := by decide +kernel
theorem dX1_samplesFrom_19 : decode cX1_samplesFrom 19 = .ok (.if_icmp .lt 6, 3) := by decide +kernel
theorem dX1_samplesFrom_22 : decode cX1_samplesFrom 22 = .ok (.iinc 2 1, 3) := by decide +kernel
theorem dX1_samplesFrom_25 : decode cX1_samplesFrom 25 = .ok (.iinc 3 1, 3) := by decide +kernel
theorem dX1_samplesFrom_28 : decode cX1_samplesFrom 28 = .ok (.goto (-24), 3) := by decide +kernel
theorem dX1_samplesFrom_31 : decode cX1_samplesFrom 31 = .ok (.iload_n 2, 1) := by decide +kernel
theorem dX1_samplesFrom_32 : decode cX1_samplesFrom 32 = .ok (.ireturn, 1) := by decide +kernel
set_option maxRecDepth 20000 in
theorem ggX2_init_X2_renews : GoodIn wsX2_init wsX2_renews := goodIn_r _ [17, 6, 7, 8, 18, 19, 20, 21, 22, 23, 24, 25, 26, 27, 28, 29, 30, 31] (by decide +kernel) (by decide +kernel)
set_option maxRecDepth 20000 in
theorem gX2_init_X2_renews : GoodIn wsX2_init (wsV RX2 35 RX2 yX2_renews wsX2_renews) := goodIn_app (goodIn_of _ (by decide +kernel)) ggX2_init_X2_renews
theorem dX2_init_0 : decode cX2_init 0 = .ok (.aload_n 0, 1) := by decide +kernel
theorem dX2_init_1 : decode cX2_init 1 = .ok (.invokespecial 1, 3) := by decide +kernel
theorem dX2_init_4 : decode cX2_init 4 = .ok (.aload_n 0, 1) := by decide +kernel
theorem dX2_init_5 : decode cX2_init 5 = .ok (.iconst 1, 1) := by decide +kernel
theorem dX2_init_6 : decode cX2_init 6 = .ok (.putfield 7, 3) := by decide +kernel
theorem dX2_init_9 : decode cX2_init 9 = .ok (.aload_n 0, 1) := by decide +kernel
theorem dX2_init_10 : decode cX2_init 10 = .ok (.iconst 3, 1) := by decide +kernel
theorem dX2_init_11 : decode cX2_init 11 = .ok (.newarray .int, 2) := by decide +kernel
theorem dX2_init_13 : decode cX2_init 13 = .ok (.putfield 13, 3) := by decide +kernel
theorem dX2_init_16 : decode cX2_init 16 = .ok (.aload_n 0, 1) := by decide +kernel
theorem dX2_init_17 : decode cX2_init 17 = .ok (.bipush 15, 2) := by decide +kernel
theorem dX2_init_19 : decode cX2_init 19 = .ok (.newarray .int, 2) := by decide +kernel
theorem dX2_init_21 : decode cX2_init 21 = .ok (.putfield 17, 3) := by decide +kernel
theorem dX2_init_24 : decode cX2_init 24 = .ok (.aload_n 0, 1) := by decide +kernel
theorem dX2_init_25 : decode cX2_init 25 = .ok (.bipush 15, 2) := by decide +kernel
theorem dX2_init_27 : decode cX2_init 27 = .ok (.newarray .int, 2) := by decide +kernel
theorem dX2_init_29 : decode cX2_init 29 = .ok (.putfield 20, 3) := by decide +kernel
theorem dX2_init_32 : decode cX2_init 32 = .ok (.aload_n 0, 1) := by decide +kernel
theorem dX2_init_33 : decode cX2_init 33 = .ok (.bipush 12, 2) := by decide +kernel
theorem dX2_init_35 : decode cX2_init 35 = .ok (.newarray .int, 2) := by decide +kernel
theorem dX2_init_37 : decode cX2_init 37 = .ok (.putfield 23, 3) := by decide +kernel
theorem dX2_init_40 : decode cX2_init 40 = .ok (.aload_n 0, 1) := by decide +kernel
theorem dX2_init_41 : decode cX2_init 41 = .ok (.iconst 3, 1) := by decide +kernel
theorem dX2_init_42 : decode cX2_init 42 = .ok (.newarray .int, 2) := by decide +kernel
theorem dX2_init_44 : decode cX2_init 44 = .ok (.putfield 26, 3) := by decide +kernel
theorem dX2_init_47 : decode cX2_init 47 = .ok (.aload_n 0, 1) := by decide +kernel
theorem dX2_init_48 : decode cX2_init 48 = .ok (.iconst 3, 1) := by decide +kernel
theorem dX2_init_49 : decode cX2_init 49 = .ok (.newarray .int, 2) := by decide +kernel
theorem dX2_init_51 : decode cX2_init 51 = .ok (.putfield 29, 3) := by decide +kernel
theorem dX2_init_54 : decode cX2_init 54 = .ok (.aload_n 0, 1) := by decide +kernel
theorem dX2_init_55 : decode cX2_init 55 = .ok (.iconst 3, 1) := by decide +kernel
theorem dX2_init_56 : decode cX2_init 56 = .ok (.newarray .int, 2) := by decide +kernel
theorem dX2_init_58 : decode cX2_init 58 = .ok (.putfield 32, 3) := by decide +kernel
theorem dX2_init_61 : decode cX2_init 61 = .ok (.aload_n 0, 1) := by decide +kernel
theorem dX2_init_62 : decode cX2_init 62 = .ok (.invokevirtual 35, 3) := by decide +kernel
theorem dX2_init_65 : decode cX2_init 65 = .ok (.return_, 1) := by decide +kernel
theorem dX2_in_0 : decode cX2_in 0 = .ok (.iload_n 0, 1) := by decide +kernel
theorem dX2_in_1 : decode cX2_in 1 = .ok (.iload_n 1, 1) := by decide +kernel
theorem dX2_in_2 : decode cX2_in 2 = .ok (.if_icmp .lt 12, 3) := by decide +kernel
theorem dX2_in_5 : decode cX2_in 5 = .ok (.iload_n 0, 1) := by decide +kernel
theorem dX2_in_6 : decode cX2_in 6 = .ok (.iload_n 2, 1) := by decide +kernel
theorem dX2_in_7 : decode cX2_in 7 = .ok (.if_icmp .gt 7, 3) := by decide +kernel
theorem dX2_in_10 : decode cX2_in 10 = .ok (.iconst 1, 1) := by decide +kernel
theorem dX2_in_11 : decode cX2_in 11 = .ok (.goto 4, 3) := by decide +kernel
theorem dX2_in_14 : decode cX2_in 14 = .ok (.iconst 0, 1) := by decide +kernel
theorem dX2_in_15 : decode cX2_in 15 = .ok (.ireturn, 1) := by decide +kernel
theorem dX2_renews_0 : decode cX2_renews 0 = .ok (.iconst 0, 1) := by decide +kernel
theorem dX2_renews_1 : decode cX2_renews 1 = .ok (.istore_n 1, 1) := by decide +kernel
theorem dX2_renews_2 : decode cX2_renews 2 = .ok (.iload_n 1, 1) := by decide +kernel
theorem dX2_renews_3 : decode cX2_renews 3 = .ok (.iconst 3, 1) := by decide +kernel
theorem dX2_renews_4 : decode cX2_renews 4 = .ok (.if_icmp .ge 34, 3) := by decide +kernel
theorem dX2_renews_7 : decode cX2_renews 7 = .ok (.aload_n 0, 1) := by decide +kernel
theorem dX2_renews_8 : decode cX2_renews 8 = .ok (.getfield 13, 3) := by decide +kernel
theorem dX2_renews_11 : decode cX2_renews 11 = .ok (.iload_n 1, 1) := by decide +kernel
theorem dX2_renews_12 : decode cX2_renews 12 = .ok (.iconst 1, 1) := by decide +kernel
theorem dX2_renews_13 : decode cX2_renews 13 = .ok (.iastore, 1) := by decide +kernel
theorem dX2_renews_14 : decode cX2_renews 14 = .ok (.aload_n 0, 1) := by decide +kernel
theorem dX2_renews_15 : decode cX2_renews 15 = .ok (.getfield 17, 3) := by decide +kernel
theorem dX2_renews_18 : decode cX2_renews 18 = .ok (.iconst 5, 1) := by decide +kernel
theorem dX2_renews_19 : decode cX2_renews 19 = .ok (.iload_n 1, 1) := by decide +kernel
theorem dX2_renews_20 : decode cX2_renews 20 = .ok (.imul, 1) := by decide +kernel
theorem dX2_renews_21 : decode cX2_renews 21 = .ok (.iconst 0, 1) := by decide +kernel
theorem dX2_renews_22 : decode cX2_renews 22 = .ok (.iastore, 1) := by decide +kernel
theorem dX2_renews_23 : decode cX2_renews 23 = .ok (.aload_n 0, 1) := by decide +kernel
theorem dX2_renews_24 : decode cX2_renews 24 = .ok (.getfield 20, 3) := by decide +kernel
theorem dX2_renews_27 : decode cX2_renews 27 = .ok (.iconst 5, 1) := by decide +kernel
theorem dX2_renews_28 : decode cX2_renews 28 = .ok (.iload_n 1, 1) := by decide +kernel
theorem dX2_renews_29 : decode cX2_renews 29 = .ok (.imul, 1) := by decide +kernel
theorem dX2_renews_30 : decode cX2_renews 30 = .ok (.iconst 1, 1) := by decide +kernel
theorem dX2_renews_31 : decode cX2_renews 31 = .ok (.iastore, 1) := by decide +kernel
theorem dX2_renews_32 : decode cX2_renews 32 = .ok (.iinc 1 1, 3) := by decide +kernel
theorem dX2_renews_35 : decode cX2_renews 35 = .ok (.goto (-33), 3) := by decide +kernel
theorem dX2_renews_38 : decode cX2_renews 38 = .ok (.return_, 1) := by decide +kernel
set_option maxRecDepth 20000 in
theorem ggX2_isBuyer_X2_in : GoodIn wsX2_isBuyer wsX2_in := goodIn_r _ [5] (by decide +kernel) (by decide +kernel)
set_option maxRecDepth 20000 in
theorem gX2_isBuyer_X2_in : GoodIn wsX2_isBuyer (va_wsS RX2 41 yX2_in wsX2_in) := goodIn_app (goodIn_of _ (by decide +kernel)) ggX2_isBuyer_X2_in
theorem dX2_isBuyer_0 : decode cX2_isBuyer 0 = .ok (.iload_n 1, 1) := by decide +kernel
theorem dX2_isBuyer_1 : decode cX2_isBuyer 1 = .ok (.iconst 0, 1) := by decide +kernel
theorem dX2_isBuyer_2 : decode cX2_isBuyer 2 = .ok (.aload_n 0, 1) := by decide +kernel
theorem dX2_isBuyer_3 : decode cX2_isBuyer 3 = .ok (.getfield 7, 3) := by decide +kernel
theorem dX2_isBuyer_6 : decode cX2_isBuyer 6 = .ok (.iconst 1, 1) := by decide +kernel
theorem dX2_isBuyer_7 : decode cX2_isBuyer 7 = .ok (.isub, 1) := by decide +kernel
theorem dX2_isBuyer_8 : decode cX2_isBuyer 8 = .ok (.invokestatic 41, 3) := by decide +kernel
theorem dX2_isBuyer_11 : decode cX2_isBuyer 11 = .ok (.ireturn, 1) := by decide +kernel
