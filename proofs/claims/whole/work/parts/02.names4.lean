set_option maxRecDepth 20000 in
theorem ggX2_buyers_X2_in : GoodIn wsX2_buyers wsX2_in := goodIn_r _ [6] (by decide +kernel) (by decide +kernel)
set_option maxRecDepth 20000 in
theorem gX2_buyers_X2_in : GoodIn wsX2_buyers (va_wsS RX2 41 yX2_in wsX2_in) := goodIn_app (goodIn_of _ (by decide +kernel)) ggX2_buyers_X2_in
set_option maxRecDepth 20000 in
theorem ggX2_buyers_X2_renews : GoodIn wsX2_buyers wsX2_renews := goodIn_r _ [10, 11, 12, 13, 14, 15, 16, 17, 18, 19, 20, 21, 22, 23, 24, 25, 26, 27] (by decide +kernel) (by decide +kernel)
set_option maxRecDepth 20000 in
theorem gX2_buyers_X2_renews : GoodIn wsX2_buyers (wsV RX2 35 RX2 yX2_renews wsX2_renews) := goodIn_app (goodIn_of _ (by decide +kernel)) ggX2_buyers_X2_renews
theorem dX2_buyers_0 : decode cX2_buyers 0 = .ok (.aload_n 0, 1) := by decide +kernel
theorem dX2_buyers_1 : decode cX2_buyers 1 = .ok (.iconst 0, 1) := by decide +kernel
theorem dX2_buyers_2 : decode cX2_buyers 2 = .ok (.putfield 38, 3) := by decide +kernel
theorem dX2_buyers_5 : decode cX2_buyers 5 = .ok (.iload_n 1, 1) := by decide +kernel
theorem dX2_buyers_6 : decode cX2_buyers 6 = .ok (.iconst 1, 1) := by decide +kernel
theorem dX2_buyers_7 : decode cX2_buyers 7 = .ok (.iconst 3, 1) := by decide +kernel
theorem dX2_buyers_8 : decode cX2_buyers 8 = .ok (.invokestatic 41, 3) := by decide +kernel
theorem dX2_buyers_11 : decode cX2_buyers 11 = .ok (.ifCond .ne 5, 3) := by decide +kernel
theorem dX2_buyers_14 : decode cX2_buyers 14 = .ok (.iconst (-1), 1) := by decide +kernel
theorem dX2_buyers_15 : decode cX2_buyers 15 = .ok (.ireturn, 1) := by decide +kernel
theorem dX2_buyers_16 : decode cX2_buyers 16 = .ok (.aload_n 0, 1) := by decide +kernel
theorem dX2_buyers_17 : decode cX2_buyers 17 = .ok (.getfield 7, 3) := by decide +kernel
theorem dX2_buyers_20 : decode cX2_buyers 20 = .ok (.istore_n 2, 1) := by decide +kernel
theorem dX2_buyers_21 : decode cX2_buyers 21 = .ok (.aload_n 0, 1) := by decide +kernel
theorem dX2_buyers_22 : decode cX2_buyers 22 = .ok (.iload_n 1, 1) := by decide +kernel
theorem dX2_buyers_23 : decode cX2_buyers 23 = .ok (.putfield 7, 3) := by decide +kernel
theorem dX2_buyers_26 : decode cX2_buyers 26 = .ok (.aload_n 0, 1) := by decide +kernel
theorem dX2_buyers_27 : decode cX2_buyers 27 = .ok (.invokevirtual 35, 3) := by decide +kernel
theorem dX2_buyers_30 : decode cX2_buyers 30 = .ok (.iload_n 2, 1) := by decide +kernel
theorem dX2_buyers_31 : decode cX2_buyers 31 = .ok (.ireturn, 1) := by decide +kernel
set_option maxRecDepth 20000 in
theorem ggX2_book_X2_isBuyer : GoodIn wsX2_book wsX2_isBuyer := goodIn_r _ [9, 10, 11, 12, 8, 13, 14, 15, 16, 17, 18, 19, 20, 21, 22, 23, 24, 25, 26, 27] (by decide +kernel) (by decide +kernel)
set_option maxRecDepth 20000 in
theorem gX2_book_X2_isBuyer : GoodIn wsX2_book (wsV RX2 45 RX2 yX2_isBuyer wsX2_isBuyer) := goodIn_app (goodIn_of _ (by decide +kernel)) ggX2_book_X2_isBuyer
set_option maxRecDepth 20000 in
theorem ggX2_book_X2_in : GoodIn wsX2_book wsX2_in := goodIn_r _ [13] (by decide +kernel) (by decide +kernel)
set_option maxRecDepth 20000 in
theorem gX2_book_X2_in : GoodIn wsX2_book (va_wsS RX2 41 yX2_in wsX2_in) := goodIn_app (goodIn_of _ (by decide +kernel)) ggX2_book_X2_in
theorem dX2_book_0 : decode cX2_book 0 = .ok (.aload_n 0, 1) := by decide +kernel
theorem dX2_book_1 : decode cX2_book 1 = .ok (.iconst 0, 1) := by decide +kernel
theorem dX2_book_2 : decode cX2_book 2 = .ok (.putfield 38, 3) := by decide +kernel
theorem dX2_book_5 : decode cX2_book 5 = .ok (.aload_n 0, 1) := by decide +kernel
theorem dX2_book_6 : decode cX2_book 6 = .ok (.iload_n 1, 1) := by decide +kernel
theorem dX2_book_7 : decode cX2_book 7 = .ok (.invokevirtual 45, 3) := by decide +kernel
theorem dX2_book_10 : decode cX2_book 10 = .ok (.ifCond .eq 24, 3) := by decide +kernel
theorem dX2_book_13 : decode cX2_book 13 = .ok (.iload_n 2, 1) := by decide +kernel
theorem dX2_book_14 : decode cX2_book 14 = .ok (.iconst 0, 1) := by decide +kernel
theorem dX2_book_15 : decode cX2_book 15 = .ok (.sipush 1000, 3) := by decide +kernel
theorem dX2_book_18 : decode cX2_book 18 = .ok (.invokestatic 41, 3) := by decide +kernel
theorem dX2_book_21 : decode cX2_book 21 = .ok (.ifCond .eq 13, 3) := by decide +kernel
theorem dX2_book_24 : decode cX2_book 24 = .ok (.iload_n 3, 1) := by decide +kernel
theorem dX2_book_25 : decode cX2_book 25 = .ok (.iconst 1, 1) := by decide +kernel
theorem dX2_book_26 : decode cX2_book 26 = .ok (.bipush 9, 2) := by decide +kernel
theorem dX2_book_28 : decode cX2_book 28 = .ok (.invokestatic 41, 3) := by decide +kernel
theorem dX2_book_31 : decode cX2_book 31 = .ok (.ifCond .ne 5, 3) := by decide +kernel
theorem dX2_book_34 : decode cX2_book 34 = .ok (.iconst (-1), 1) := by decide +kernel
theorem dX2_book_35 : decode cX2_book 35 = .ok (.ireturn, 1) := by decide +kernel
theorem dX2_book_36 : decode cX2_book 36 = .ok (.aload_n 0, 1) := by decide +kernel
theorem dX2_book_37 : decode cX2_book 37 = .ok (.getfield 13, 3) := by decide +kernel
theorem dX2_book_40 : decode cX2_book 40 = .ok (.iload_n 1, 1) := by decide +kernel
theorem dX2_book_41 : decode cX2_book 41 = .ok (.iconst 1, 1) := by decide +kernel
theorem dX2_book_42 : decode cX2_book 42 = .ok (.iastore, 1) := by decide +kernel
theorem dX2_book_43 : decode cX2_book 43 = .ok (.aload_n 0, 1) := by decide +kernel
theorem dX2_book_44 : decode cX2_book 44 = .ok (.getfield 17, 3) := by decide +kernel
theorem dX2_book_47 : decode cX2_book 47 = .ok (.iconst 5, 1) := by decide +kernel
theorem dX2_book_48 : decode cX2_book 48 = .ok (.iload_n 1, 1) := by decide +kernel
theorem dX2_book_49 : decode cX2_book 49 = .ok (.imul, 1) := by decide +kernel
theorem dX2_book_50 : decode cX2_book 50 = .ok (.iload_n 2, 1) := by decide +kernel
theorem dX2_book_51 : decode cX2_book 51 = .ok (.iastore, 1) := by decide +kernel
theorem dX2_book_52 : decode cX2_book 52 = .ok (.aload_n 0, 1) := by decide +kernel
theorem dX2_book_53 : decode cX2_book 53 = .ok (.getfield 20, 3) := by decide +kernel
theorem dX2_book_56 : decode cX2_book 56 = .ok (.iconst 5, 1) := by decide +kernel
theorem dX2_book_57 : decode cX2_book 57 = .ok (.iload_n 1, 1) := by decide +kernel
theorem dX2_book_58 : decode cX2_book 58 = .ok (.imul, 1) := by decide +kernel
theorem dX2_book_59 : decode cX2_book 59 = .ok (.iload_n 3, 1) := by decide +kernel
theorem dX2_book_60 : decode cX2_book 60 = .ok (.iastore, 1) := by decide +kernel
theorem dX2_book_61 : decode cX2_book 61 = .ok (.iconst 1, 1) := by decide +kernel
theorem dX2_book_62 : decode cX2_book 62 = .ok (.ireturn, 1) := by decide +kernel
set_option maxRecDepth 20000 in
theorem ggX2_more_X2_isBuyer : GoodIn wsX2_more wsX2_isBuyer := goodIn_r _ [9, 10, 11, 12, 8, 13, 14, 15, 16, 17, 18, 19, 20, 21, 22, 23, 24, 25, 26, 27] (by decide +kernel) (by decide +kernel)
set_option maxRecDepth 20000 in
theorem gX2_more_X2_isBuyer : GoodIn wsX2_more (wsV RX2 45 RX2 yX2_isBuyer wsX2_isBuyer) := goodIn_app (goodIn_of _ (by decide +kernel)) ggX2_more_X2_isBuyer
set_option maxRecDepth 20000 in
theorem ggX2_more_X2_in : GoodIn wsX2_more wsX2_in := goodIn_r _ [13] (by decide +kernel) (by decide +kernel)
set_option maxRecDepth 20000 in
theorem gX2_more_X2_in : GoodIn wsX2_more (va_wsS RX2 41 yX2_in wsX2_in) := goodIn_app (goodIn_of _ (by decide +kernel)) ggX2_more_X2_in
theorem dX2_more_0 : decode cX2_more 0 = .ok (.aload_n 0, 1) := by decide +kernel
theorem dX2_more_1 : decode cX2_more 1 = .ok (.iconst 0, 1) := by decide +kernel
theorem dX2_more_2 : decode cX2_more 2 = .ok (.putfield 38, 3) := by decide +kernel
theorem dX2_more_5 : decode cX2_more 5 = .ok (.aload_n 0, 1) := by decide +kernel
theorem dX2_more_6 : decode cX2_more 6 = .ok (.iload_n 1, 1) := by decide +kernel
theorem dX2_more_7 : decode cX2_more 7 = .ok (.invokevirtual 45, 3) := by decide +kernel
theorem dX2_more_10 : decode cX2_more 10 = .ok (.ifCond .eq 45, 3) := by decide +kernel
theorem dX2_more_13 : decode cX2_more 13 = .ok (.iload_n 2, 1) := by decide +kernel
theorem dX2_more_14 : decode cX2_more 14 = .ok (.iconst 0, 1) := by decide +kernel
theorem dX2_more_15 : decode cX2_more 15 = .ok (.sipush 1000, 3) := by decide +kernel
theorem dX2_more_18 : decode cX2_more 18 = .ok (.invokestatic 41, 3) := by decide +kernel
theorem dX2_more_21 : decode cX2_more 21 = .ok (.ifCond .eq 34, 3) := by decide +kernel
theorem dX2_more_24 : decode cX2_more 24 = .ok (.iload_n 3, 1) := by decide +kernel
theorem dX2_more_25 : decode cX2_more 25 = .ok (.iconst 1, 1) := by decide +kernel
theorem dX2_more_26 : decode cX2_more 26 = .ok (.bipush 9, 2) := by decide +kernel
theorem dX2_more_28 : decode cX2_more 28 = .ok (.invokestatic 41, 3) := by decide +kernel
theorem dX2_more_31 : decode cX2_more 31 = .ok (.ifCond .eq 24, 3) := by decide +kernel
theorem dX2_more_34 : decode cX2_more 34 = .ok (.iload_n 2, 1) := by decide +kernel
theorem dX2_more_35 : decode cX2_more 35 = .ok (.aload_n 0, 1) := by decide +kernel
theorem dX2_more_36 : decode cX2_more 36 = .ok (.getfield 17, 3) := by decide +kernel
theorem dX2_more_39 : decode cX2_more 39 = .ok (.iconst 5, 1) := by decide +kernel
theorem dX2_more_40 : decode cX2_more 40 = .ok (.iload_n 1, 1) := by decide +kernel
theorem dX2_more_41 : decode cX2_more 41 = .ok (.imul, 1) := by decide +kernel
theorem dX2_more_42 : decode cX2_more 42 = .ok (.aload_n 0, 1) := by decide +kernel
theorem dX2_more_43 : decode cX2_more 43 = .ok (.getfield 13, 3) := by decide +kernel
theorem dX2_more_46 : decode cX2_more 46 = .ok (.iload_n 1, 1) := by decide +kernel
theorem dX2_more_47 : decode cX2_more 47 = .ok (.iaload, 1) := by decide +kernel
theorem dX2_more_48 : decode cX2_more 48 = .ok (.iadd, 1) := by decide +kernel
theorem dX2_more_49 : decode cX2_more 49 = .ok (.iconst 1, 1) := by decide +kernel
theorem dX2_more_50 : decode cX2_more 50 = .ok (.isub, 1) := by decide +kernel
theorem dX2_more_51 : decode cX2_more 51 = .ok (.iaload, 1) := by decide +kernel
theorem dX2_more_52 : decode cX2_more 52 = .ok (.if_icmp .gt 5, 3) := by decide +kernel
theorem dX2_more_55 : decode cX2_more 55 = .ok (.iconst (-1), 1) := by decide +kernel
theorem dX2_more_56 : decode cX2_more 56 = .ok (.ireturn, 1) := by decide +kernel
theorem dX2_more_57 : decode cX2_more 57 = .ok (.aload_n 0, 1) := by decide +kernel
theorem dX2_more_58 : decode cX2_more 58 = .ok (.getfield 13, 3) := by decide +kernel
theorem dX2_more_61 : decode cX2_more 61 = .ok (.iload_n 1, 1) := by decide +kernel
theorem dX2_more_62 : decode cX2_more 62 = .ok (.iaload, 1) := by decide +kernel
theorem dX2_more_63 : decode cX2_more 63 = .ok (.iconst 5, 1) := by decide +kernel
theorem dX2_more_64 : decode cX2_more 64 = .ok (.if_icmp .ne 6, 3) := by decide +kernel
theorem dX2_more_67 : decode cX2_more 67 = .ok (.bipush (-3), 2) := by decide +kernel
theorem dX2_more_69 : decode cX2_more 69 = .ok (.ireturn, 1) := by decide +kernel
theorem dX2_more_70 : decode cX2_more 70 = .ok (.aload_n 0, 1) := by decide +kernel
theorem dX2_more_71 : decode cX2_more 71 = .ok (.getfield 17, 3) := by decide +kernel
theorem dX2_more_74 : decode cX2_more 74 = .ok (.iconst 5, 1) := by decide +kernel
theorem dX2_more_75 : decode cX2_more 75 = .ok (.iload_n 1, 1) := by decide +kernel
theorem dX2_more_76 : decode cX2_more 76 = .ok (.imul, 1) := by decide +kernel
theorem dX2_more_77 : decode cX2_more 77 = .ok (.aload_n 0, 1) := by decide +kernel
theorem dX2_more_78 : decode cX2_more 78 = .ok (.getfield 13, 3) := by decide +kernel
theorem dX2_more_81 : decode cX2_more 81 = .ok (.iload_n 1, 1) := by decide +kernel
theorem dX2_more_82 : decode cX2_more 82 = .ok (.iaload, 1) := by decide +kernel
theorem dX2_more_83 : decode cX2_more 83 = .ok (.iadd, 1) := by decide +kernel
theorem dX2_more_84 : decode cX2_more 84 = .ok (.iload_n 2, 1) := by decide +kernel
theorem dX2_more_85 : decode cX2_more 85 = .ok (.iastore, 1) := by decide +kernel
theorem dX2_more_86 : decode cX2_more 86 = .ok (.aload_n 0, 1) := by decide +kernel
theorem dX2_more_87 : decode cX2_more 87 = .ok (.getfield 20, 3) := by decide +kernel
theorem dX2_more_90 : decode cX2_more 90 = .ok (.iconst 5, 1) := by decide +kernel
theorem dX2_more_91 : decode cX2_more 91 = .ok (.iload_n 1, 1) := by decide +kernel
theorem dX2_more_92 : decode cX2_more 92 = .ok (.imul, 1) := by decide +kernel
theorem dX2_more_93 : decode cX2_more 93 = .ok (.aload_n 0, 1) := by decide +kernel
theorem dX2_more_94 : decode cX2_more 94 = .ok (.getfield 13, 3) := by decide +kernel
theorem dX2_more_97 : decode cX2_more 97 = .ok (.iload_n 1, 1) := by decide +kernel
theorem dX2_more_98 : decode cX2_more 98 = .ok (.iaload, 1) := by decide +kernel
theorem dX2_more_99 : decode cX2_more 99 = .ok (.iadd, 1) := by decide +kernel
theorem dX2_more_100 : decode cX2_more 100 = .ok (.iload_n 3, 1) := by decide +kernel
theorem dX2_more_101 : decode cX2_more 101 = .ok (.iastore, 1) := by decide +kernel
theorem dX2_more_102 : decode cX2_more 102 = .ok (.aload_n 0, 1) := by decide +kernel
theorem dX2_more_103 : decode cX2_more 103 = .ok (.getfield 13, 3) := by decide +kernel
theorem dX2_more_106 : decode cX2_more 106 = .ok (.iload_n 1, 1) := by decide +kernel
theorem dX2_more_107 : decode cX2_more 107 = .ok (.dup2, 1) := by decide +kernel
theorem dX2_more_108 : decode cX2_more 108 = .ok (.iaload, 1) := by decide +kernel
theorem dX2_more_109 : decode cX2_more 109 = .ok (.iconst 1, 1) := by decide +kernel
theorem dX2_more_110 : decode cX2_more 110 = .ok (.iadd, 1) := by decide +kernel
theorem dX2_more_111 : decode cX2_more 111 = .ok (.iastore, 1) := by decide +kernel
theorem dX2_more_112 : decode cX2_more 112 = .ok (.aload_n 0, 1) := by decide +kernel
theorem dX2_more_113 : decode cX2_more 113 = .ok (.getfield 13, 3) := by decide +kernel
theorem dX2_more_116 : decode cX2_more 116 = .ok (.iload_n 1, 1) := by decide +kernel
theorem dX2_more_117 : decode cX2_more 117 = .ok (.iaload, 1) := by decide +kernel
theorem dX2_more_118 : decode cX2_more 118 = .ok (.ireturn, 1) := by decide +kernel
theorem dX2_share_0 : decode cX2_share 0 = .ok (.iconst 0, 1) := by decide +kernel
theorem dX2_share_1 : decode cX2_share 1 = .ok (.istore_n 3, 1) := by decide +kernel
theorem dX2_share_2 : decode cX2_share 2 = .ok (.iload_n 2, 1) := by decide +kernel
theorem dX2_share_3 : decode cX2_share 3 = .ok (.istore 4, 2) := by decide +kernel
theorem dX2_share_5 : decode cX2_share 5 = .ok (.iload 4, 2) := by decide +kernel
theorem dX2_share_7 : decode cX2_share 7 = .ok (.aload_n 0, 1) := by decide +kernel
theorem dX2_share_8 : decode cX2_share 8 = .ok (.getfield 13, 3) := by decide +kernel
theorem dX2_share_11 : decode cX2_share 11 = .ok (.iload_n 1, 1) := by decide +kernel
theorem dX2_share_12 : decode cX2_share 12 = .ok (.iaload, 1) := by decide +kernel
theorem dX2_share_13 : decode cX2_share 13 = .ok (.if_icmp .ge 23, 3) := by decide +kernel
theorem dX2_share_16 : decode cX2_share 16 = .ok (.iload_n 3, 1) := by decide +kernel
theorem dX2_share_17 : decode cX2_share 17 = .ok (.aload_n 0, 1) := by decide +kernel
theorem dX2_share_18 : decode cX2_share 18 = .ok (.getfield 20, 3) := by decide +kernel
theorem dX2_share_21 : decode cX2_share 21 = .ok (.iconst 5, 1) := by decide +kernel
theorem dX2_share_22 : decode cX2_share 22 = .ok (.iload_n 1, 1) := by decide +kernel
theorem dX2_share_23 : decode cX2_share 23 = .ok (.imul, 1) := by decide +kernel
theorem dX2_share_24 : decode cX2_share 24 = .ok (.iload 4, 2) := by decide +kernel
theorem dX2_share_26 : decode cX2_share 26 = .ok (.iadd, 1) := by decide +kernel
theorem dX2_share_27 : decode cX2_share 27 = .ok (.iaload, 1) := by decide +kernel
theorem dX2_share_28 : decode cX2_share 28 = .ok (.iadd, 1) := by decide +kernel
theorem dX2_share_29 : decode cX2_share 29 = .ok (.istore_n 3, 1) := by decide +kernel
theorem dX2_share_30 : decode cX2_share 30 = .ok (.iinc 4 1, 3) := by decide +kernel
theorem dX2_share_33 : decode cX2_share 33 = .ok (.goto (-28), 3) := by decide +kernel
theorem dX2_share_36 : decode cX2_share 36 = .ok (.iload_n 3, 1) := by decide +kernel
theorem dX2_share_37 : decode cX2_share 37 = .ok (.ireturn, 1) := by decide +kernel
set_option maxRecDepth 20000 in
theorem ggX2_take_X2_share : GoodIn wsX2_take wsX2_share := goodIn_r _ [7, 1, 8, 9, 10, 11, 12, 13, 14, 15, 16, 17, 18, 19, 20, 21, 22] (by decide +kernel) (by decide +kernel)
set_option maxRecDepth 20000 in
theorem gX2_take_X2_share : GoodIn wsX2_take (wsV RX2 49 RX2 yX2_share wsX2_share) := goodIn_app (goodIn_of _ (by decide +kernel)) ggX2_take_X2_share
theorem dX2_take_0 : decode cX2_take 0 = .ok (.iload_n 2, 1) := by decide +kernel
theorem dX2_take_1 : decode cX2_take 1 = .ok (.aload_n 0, 1) := by decide +kernel
theorem dX2_take_2 : decode cX2_take 2 = .ok (.getfield 13, 3) := by decide +kernel
theorem dX2_take_5 : decode cX2_take 5 = .ok (.iload_n 1, 1) := by decide +kernel
theorem dX2_take_6 : decode cX2_take 6 = .ok (.iaload, 1) := by decide +kernel
theorem dX2_take_7 : decode cX2_take 7 = .ok (.if_icmp .ne 7, 3) := by decide +kernel
theorem dX2_take_10 : decode cX2_take 10 = .ok (.iconst 0, 1) := by decide +kernel
theorem dX2_take_11 : decode cX2_take 11 = .ok (.goto 20, 3) := by decide +kernel
theorem dX2_take_14 : decode cX2_take 14 = .ok (.aload_n 0, 1) := by decide +kernel
theorem dX2_take_15 : decode cX2_take 15 = .ok (.getfield 17, 3) := by decide +kernel
theorem dX2_take_18 : decode cX2_take 18 = .ok (.iconst 5, 1) := by decide +kernel
theorem dX2_take_19 : decode cX2_take 19 = .ok (.iload_n 1, 1) := by decide +kernel
theorem dX2_take_20 : decode cX2_take 20 = .ok (.imul, 1) := by decide +kernel
theorem dX2_take_21 : decode cX2_take 21 = .ok (.iload_n 2, 1) := by decide +kernel
theorem dX2_take_22 : decode cX2_take 22 = .ok (.iadd, 1) := by decide +kernel
theorem dX2_take_23 : decode cX2_take 23 = .ok (.iaload, 1) := by decide +kernel
theorem dX2_take_24 : decode cX2_take 24 = .ok (.aload_n 0, 1) := by decide +kernel
theorem dX2_take_25 : decode cX2_take 25 = .ok (.iload_n 1, 1) := by decide +kernel
theorem dX2_take_26 : decode cX2_take 26 = .ok (.iload_n 2, 1) := by decide +kernel
theorem dX2_take_27 : decode cX2_take 27 = .ok (.invokevirtual 49, 3) := by decide +kernel
theorem dX2_take_30 : decode cX2_take 30 = .ok (.imul, 1) := by decide +kernel
theorem dX2_take_31 : decode cX2_take 31 = .ok (.ireturn, 1) := by decide +kernel
set_option maxRecDepth 20000 in
theorem ggX2_bestOf_X2_take : GoodIn wsX2_bestOf wsX2_take := goodIn_r _ [6, 1, 7, 8, 9, 10, 5, 11, 12, 13, 14, 15, 16, 17, 18, 19, 20, 21, 22, 23, 24, 25, 26] (by decide +kernel) (by decide +kernel)
set_option maxRecDepth 20000 in
theorem gX2_bestOf_X2_take : GoodIn wsX2_bestOf (wsV RX2 53 RX2 yX2_take wsX2_take) := goodIn_app (goodIn_of _ (by decide +kernel)) ggX2_bestOf_X2_take
theorem dX2_bestOf_0 : decode cX2_bestOf 0 = .ok (.iconst 0, 1) := by decide +kernel
theorem dX2_bestOf_1 : decode cX2_bestOf 1 = .ok (.istore_n 2, 1) := by decide +kernel
theorem dX2_bestOf_2 : decode cX2_bestOf 2 = .ok (.iconst 1, 1) := by decide +kernel
theorem dX2_bestOf_3 : decode cX2_bestOf 3 = .ok (.istore_n 3, 1) := by decide +kernel
theorem dX2_bestOf_4 : decode cX2_bestOf 4 = .ok (.iload_n 3, 1) := by decide +kernel
theorem dX2_bestOf_5 : decode cX2_bestOf 5 = .ok (.aload_n 0, 1) := by decide +kernel
theorem dX2_bestOf_6 : decode cX2_bestOf 6 = .ok (.getfield 13, 3) := by decide +kernel
theorem dX2_bestOf_9 : decode cX2_bestOf 9 = .ok (.iload_n 1, 1) := by decide +kernel
theorem dX2_bestOf_10 : decode cX2_bestOf 10 = .ok (.iaload, 1) := by decide +kernel
theorem dX2_bestOf_11 : decode cX2_bestOf 11 = .ok (.if_icmp .ge 30, 3) := by decide +kernel
theorem dX2_bestOf_14 : decode cX2_bestOf 14 = .ok (.aload_n 0, 1) := by decide +kernel
theorem dX2_bestOf_15 : decode cX2_bestOf 15 = .ok (.iload_n 1, 1) := by decide +kernel
theorem dX2_bestOf_16 : decode cX2_bestOf 16 = .ok (.iload_n 3, 1) := by decide +kernel
theorem dX2_bestOf_17 : decode cX2_bestOf 17 = .ok (.invokevirtual 53, 3) := by decide +kernel
theorem dX2_bestOf_20 : decode cX2_bestOf 20 = .ok (.aload_n 0, 1) := by decide +kernel
theorem dX2_bestOf_21 : decode cX2_bestOf 21 = .ok (.iload_n 1, 1) := by decide +kernel
theorem dX2_bestOf_22 : decode cX2_bestOf 22 = .ok (.iload_n 2, 1) := by decide +kernel
theorem dX2_bestOf_23 : decode cX2_bestOf 23 = .ok (.invokevirtual 53, 3) := by decide +kernel
theorem dX2_bestOf_26 : decode cX2_bestOf 26 = .ok (.if_icmp .le 7, 3) := by decide +kernel
theorem dX2_bestOf_29 : decode cX2_bestOf 29 = .ok (.iload_n 3, 1) := by decide +kernel
theorem dX2_bestOf_30 : decode cX2_bestOf 30 = .ok (.goto 4, 3) := by decide +kernel
theorem dX2_bestOf_33 : decode cX2_bestOf 33 = .ok (.iload_n 2, 1) := by decide +kernel
theorem dX2_bestOf_34 : decode cX2_bestOf 34 = .ok (.istore_n 2, 1) := by decide +kernel
theorem dX2_bestOf_35 : decode cX2_bestOf 35 = .ok (.iinc 3 1, 3) := by decide +kernel
theorem dX2_bestOf_38 : decode cX2_bestOf 38 = .ok (.goto (-34), 3) := by decide +kernel
theorem dX2_bestOf_41 : decode cX2_bestOf 41 = .ok (.iload_n 2, 1) := by decide +kernel
theorem dX2_bestOf_42 : decode cX2_bestOf 42 = .ok (.ireturn, 1) := by decide +kernel
set_option maxRecDepth 20000 in
theorem ggX2_isPlace_X2_in : GoodIn wsX2_isPlace wsX2_in := goodIn_r _ [5] (by decide +kernel) (by decide +kernel)
set_option maxRecDepth 20000 in
theorem gX2_isPlace_X2_in : GoodIn wsX2_isPlace (va_wsS RX2 41 yX2_in wsX2_in) := goodIn_app (goodIn_of _ (by decide +kernel)) ggX2_isPlace_X2_in
theorem dX2_isPlace_0 : decode cX2_isPlace 0 = .ok (.iload_n 2, 1) := by decide +kernel
theorem dX2_isPlace_1 : decode cX2_isPlace 1 = .ok (.iconst 0, 1) := by decide +kernel
theorem dX2_isPlace_2 : decode cX2_isPlace 2 = .ok (.aload_n 0, 1) := by decide +kernel
theorem dX2_isPlace_3 : decode cX2_isPlace 3 = .ok (.getfield 13, 3) := by decide +kernel
theorem dX2_isPlace_6 : decode cX2_isPlace 6 = .ok (.iload_n 1, 1) := by decide +kernel
theorem dX2_isPlace_7 : decode cX2_isPlace 7 = .ok (.iaload, 1) := by decide +kernel
theorem dX2_isPlace_8 : decode cX2_isPlace 8 = .ok (.iconst 1, 1) := by decide +kernel
theorem dX2_isPlace_9 : decode cX2_isPlace 9 = .ok (.isub, 1) := by decide +kernel
theorem dX2_isPlace_10 : decode cX2_isPlace 10 = .ok (.invokestatic 41, 3) := by decide +kernel
theorem dX2_isPlace_13 : decode cX2_isPlace 13 = .ok (.ireturn, 1) := by decide +kernel
set_option maxRecDepth 20000 in
theorem ggX2_about_X2_isBuyer : GoodIn wsX2_about wsX2_isBuyer := goodIn_r _ [8, 9, 10, 11, 7, 12, 26, 27, 28, 29, 30, 31, 32, 33, 34, 35, 36, 37, 38, 39] (by decide +kernel) (by decide +kernel)
set_option maxRecDepth 20000 in
theorem gX2_about_X2_isBuyer : GoodIn wsX2_about (wsV RX2 45 RX2 yX2_isBuyer wsX2_isBuyer) := goodIn_app (goodIn_of _ (by decide +kernel)) ggX2_about_X2_isBuyer
set_option maxRecDepth 20000 in
theorem ggX2_about_X2_isPlace : GoodIn wsX2_about wsX2_isPlace := goodIn_r _ [16, 17, 10, 11, 7, 12, 26, 27, 28, 29, 30, 31, 32, 33, 34, 35, 36, 37, 38, 39] (by decide +kernel) (by decide +kernel)
set_option maxRecDepth 20000 in
theorem gX2_about_X2_isPlace : GoodIn wsX2_about (wsV RX2 56 RX2 yX2_isPlace wsX2_isPlace) := goodIn_app (goodIn_of _ (by decide +kernel)) ggX2_about_X2_isPlace
set_option maxRecDepth 20000 in
theorem ggX2_about_X2_in : GoodIn wsX2_about wsX2_in := goodIn_r _ [12] (by decide +kernel) (by decide +kernel)
set_option maxRecDepth 20000 in
theorem gX2_about_X2_in : GoodIn wsX2_about (va_wsS RX2 41 yX2_in wsX2_in) := goodIn_app (goodIn_of _ (by decide +kernel)) ggX2_about_X2_in
set_option maxRecDepth 20000 in
theorem ggX2_about_X2_share : GoodIn wsX2_about wsX2_share := goodIn_r _ [21, 17, 3, 26, 27, 28, 29, 30, 31, 32, 33, 34, 35, 36, 37, 38, 39] (by decide +kernel) (by decide +kernel)
set_option maxRecDepth 20000 in
theorem gX2_about_X2_share : GoodIn wsX2_about (wsV RX2 49 RX2 yX2_share wsX2_share) := goodIn_app (goodIn_of _ (by decide +kernel)) ggX2_about_X2_share
set_option maxRecDepth 20000 in
theorem ggX2_about_X2_take : GoodIn wsX2_about wsX2_take := goodIn_r _ [25, 17, 2, 18, 19, 20, 7, 21, 3, 26, 27, 28, 29, 30, 31, 32, 33, 34, 35, 36, 37, 38, 39] (by decide +kernel) (by decide +kernel)
set_option maxRecDepth 20000 in
theorem gX2_about_X2_take : GoodIn wsX2_about (wsV RX2 53 RX2 yX2_take wsX2_take) := goodIn_app (goodIn_of _ (by decide +kernel)) ggX2_about_X2_take
theorem dX2_about_0 : decode cX2_about 0 = .ok (.aload_n 0, 1) := by decide +kernel
theorem dX2_about_1 : decode cX2_about 1 = .ok (.iconst 0, 1) := by decide +kernel
theorem dX2_about_2 : decode cX2_about 2 = .ok (.putfield 38, 3) := by decide +kernel
theorem dX2_about_5 : decode cX2_about 5 = .ok (.aload_n 0, 1) := by decide +kernel
theorem dX2_about_6 : decode cX2_about 6 = .ok (.iload_n 1, 1) := by decide +kernel
theorem dX2_about_7 : decode cX2_about 7 = .ok (.invokevirtual 45, 3) := by decide +kernel
theorem dX2_about_10 : decode cX2_about 10 = .ok (.ifCond .eq 21, 3) := by decide +kernel
theorem dX2_about_13 : decode cX2_about 13 = .ok (.aload_n 0, 1) := by decide +kernel
theorem dX2_about_14 : decode cX2_about 14 = .ok (.iload_n 1, 1) := by decide +kernel
theorem dX2_about_15 : decode cX2_about 15 = .ok (.iload_n 2, 1) := by decide +kernel
theorem dX2_about_16 : decode cX2_about 16 = .ok (.invokevirtual 56, 3) := by decide +kernel
theorem dX2_about_19 : decode cX2_about 19 = .ok (.ifCond .eq 12, 3) := by decide +kernel
theorem dX2_about_22 : decode cX2_about 22 = .ok (.iload_n 3, 1) := by decide +kernel
theorem dX2_about_23 : decode cX2_about 23 = .ok (.iconst 0, 1) := by decide +kernel
theorem dX2_about_24 : decode cX2_about 24 = .ok (.iconst 3, 1) := by decide +kernel
theorem dX2_about_25 : decode cX2_about 25 = .ok (.invokestatic 41, 3) := by decide +kernel
theorem dX2_about_28 : decode cX2_about 28 = .ok (.ifCond .ne 5, 3) := by decide +kernel
theorem dX2_about_31 : decode cX2_about 31 = .ok (.iconst (-1), 1) := by decide +kernel
theorem dX2_about_32 : decode cX2_about 32 = .ok (.ireturn, 1) := by decide +kernel
theorem dX2_about_33 : decode cX2_about 33 = .ok (.iload_n 3, 1) := by decide +kernel
theorem dX2_about_34 : decode cX2_about 34 = .ok (.ifCond .ne 16, 3) := by decide +kernel
theorem dX2_about_37 : decode cX2_about 37 = .ok (.aload_n 0, 1) := by decide +kernel
theorem dX2_about_38 : decode cX2_about 38 = .ok (.getfield 17, 3) := by decide +kernel
theorem dX2_about_41 : decode cX2_about 41 = .ok (.iconst 5, 1) := by decide +kernel
theorem dX2_about_42 : decode cX2_about 42 = .ok (.iload_n 1, 1) := by decide +kernel
theorem dX2_about_43 : decode cX2_about 43 = .ok (.imul, 1) := by decide +kernel
theorem dX2_about_44 : decode cX2_about 44 = .ok (.iload_n 2, 1) := by decide +kernel
theorem dX2_about_45 : decode cX2_about 45 = .ok (.iadd, 1) := by decide +kernel
theorem dX2_about_46 : decode cX2_about 46 = .ok (.iaload, 1) := by decide +kernel
theorem dX2_about_47 : decode cX2_about 47 = .ok (.goto 41, 3) := by decide +kernel
theorem dX2_about_50 : decode cX2_about 50 = .ok (.iload_n 3, 1) := by decide +kernel
theorem dX2_about_51 : decode cX2_about 51 = .ok (.iconst 1, 1) := by decide +kernel
theorem dX2_about_52 : decode cX2_about 52 = .ok (.if_icmp .ne 16, 3) := by decide +kernel
theorem dX2_about_55 : decode cX2_about 55 = .ok (.aload_n 0, 1) := by decide +kernel
theorem dX2_about_56 : decode cX2_about 56 = .ok (.getfield 20, 3) := by decide +kernel
theorem dX2_about_59 : decode cX2_about 59 = .ok (.iconst 5, 1) := by decide +kernel
theorem dX2_about_60 : decode cX2_about 60 = .ok (.iload_n 1, 1) := by decide +kernel
theorem dX2_about_61 : decode cX2_about 61 = .ok (.imul, 1) := by decide +kernel
theorem dX2_about_62 : decode cX2_about 62 = .ok (.iload_n 2, 1) := by decide +kernel
theorem dX2_about_63 : decode cX2_about 63 = .ok (.iadd, 1) := by decide +kernel
theorem dX2_about_64 : decode cX2_about 64 = .ok (.iaload, 1) := by decide +kernel
theorem dX2_about_65 : decode cX2_about 65 = .ok (.goto 23, 3) := by decide +kernel
theorem dX2_about_68 : decode cX2_about 68 = .ok (.iload_n 3, 1) := by decide +kernel
theorem dX2_about_69 : decode cX2_about 69 = .ok (.iconst 2, 1) := by decide +kernel
theorem dX2_about_70 : decode cX2_about 70 = .ok (.if_icmp .ne 12, 3) := by decide +kernel
theorem dX2_about_73 : decode cX2_about 73 = .ok (.aload_n 0, 1) := by decide +kernel
theorem dX2_about_74 : decode cX2_about 74 = .ok (.iload_n 1, 1) := by decide +kernel
theorem dX2_about_75 : decode cX2_about 75 = .ok (.iload_n 2, 1) := by decide +kernel
theorem dX2_about_76 : decode cX2_about 76 = .ok (.invokevirtual 49, 3) := by decide +kernel
theorem dX2_about_79 : decode cX2_about 79 = .ok (.goto 9, 3) := by decide +kernel
theorem dX2_about_82 : decode cX2_about 82 = .ok (.aload_n 0, 1) := by decide +kernel
theorem dX2_about_83 : decode cX2_about 83 = .ok (.iload_n 1, 1) := by decide +kernel
theorem dX2_about_84 : decode cX2_about 84 = .ok (.iload_n 2, 1) := by decide +kernel
theorem dX2_about_85 : decode cX2_about 85 = .ok (.invokevirtual 53, 3) := by decide +kernel
theorem dX2_about_88 : decode cX2_about 88 = .ok (.ireturn, 1) := by decide +kernel
set_option maxRecDepth 20000 in
theorem ggX2_whole_X2_isBuyer : GoodIn wsX2_whole wsX2_isBuyer := goodIn_r _ [7, 8, 9, 10, 6, 11, 26, 27, 28, 29, 30, 31, 32, 33, 34, 35, 36, 37, 38, 39] (by decide +kernel) (by decide +kernel)
set_option maxRecDepth 20000 in
theorem gX2_whole_X2_isBuyer : GoodIn wsX2_whole (wsV RX2 45 RX2 yX2_isBuyer wsX2_isBuyer) := goodIn_app (goodIn_of _ (by decide +kernel)) ggX2_whole_X2_isBuyer
set_option maxRecDepth 20000 in
theorem ggX2_whole_X2_in : GoodIn wsX2_whole wsX2_in := goodIn_r _ [11] (by decide +kernel) (by decide +kernel)
set_option maxRecDepth 20000 in
theorem gX2_whole_X2_in : GoodIn wsX2_whole (va_wsS RX2 41 yX2_in wsX2_in) := goodIn_app (goodIn_of _ (by decide +kernel)) ggX2_whole_X2_in
set_option maxRecDepth 20000 in
theorem ggX2_whole_X2_share : GoodIn wsX2_whole wsX2_share := goodIn_r _ [15, 2, 16, 26, 27, 28, 29, 30, 31, 32, 33, 34, 35, 36, 37, 38, 39] (by decide +kernel) (by decide +kernel)
set_option maxRecDepth 20000 in
theorem gX2_whole_X2_share : GoodIn wsX2_whole (wsV RX2 49 RX2 yX2_share wsX2_share) := goodIn_app (goodIn_of _ (by decide +kernel)) ggX2_whole_X2_share
set_option maxRecDepth 20000 in
theorem ggX2_whole_X2_bestOf : GoodIn wsX2_whole wsX2_bestOf := goodIn_r _ [20, 2, 21, 22, 23, 6, 24, 25, 12, 13, 14, 15, 16, 26, 27, 28, 29, 30, 31, 32, 33, 34, 35, 36, 37, 38, 39] (by decide +kernel) (by decide +kernel)
set_option maxRecDepth 20000 in
theorem gX2_whole_X2_bestOf : GoodIn wsX2_whole (wsV RX2 60 RX2 yX2_bestOf wsX2_bestOf) := goodIn_app (goodIn_of _ (by decide +kernel)) ggX2_whole_X2_bestOf
theorem dX2_whole_0 : decode cX2_whole 0 = .ok (.aload_n 0, 1) := by decide +kernel
theorem dX2_whole_1 : decode cX2_whole 1 = .ok (.iconst 0, 1) := by decide +kernel
theorem dX2_whole_2 : decode cX2_whole 2 = .ok (.putfield 38, 3) := by decide +kernel
theorem dX2_whole_5 : decode cX2_whole 5 = .ok (.aload_n 0, 1) := by decide +kernel
theorem dX2_whole_6 : decode cX2_whole 6 = .ok (.iload_n 1, 1) := by decide +kernel
theorem dX2_whole_7 : decode cX2_whole 7 = .ok (.invokevirtual 45, 3) := by decide +kernel
theorem dX2_whole_10 : decode cX2_whole 10 = .ok (.ifCond .eq 12, 3) := by decide +kernel
theorem dX2_whole_13 : decode cX2_whole 13 = .ok (.iload_n 2, 1) := by decide +kernel
theorem dX2_whole_14 : decode cX2_whole 14 = .ok (.iconst 0, 1) := by decide +kernel
theorem dX2_whole_15 : decode cX2_whole 15 = .ok (.iconst 2, 1) := by decide +kernel
theorem dX2_whole_16 : decode cX2_whole 16 = .ok (.invokestatic 41, 3) := by decide +kernel
theorem dX2_whole_19 : decode cX2_whole 19 = .ok (.ifCond .ne 5, 3) := by decide +kernel
theorem dX2_whole_22 : decode cX2_whole 22 = .ok (.iconst (-1), 1) := by decide +kernel
theorem dX2_whole_23 : decode cX2_whole 23 = .ok (.ireturn, 1) := by decide +kernel
theorem dX2_whole_24 : decode cX2_whole 24 = .ok (.iload_n 2, 1) := by decide +kernel
theorem dX2_whole_25 : decode cX2_whole 25 = .ok (.ifCond .ne 12, 3) := by decide +kernel
theorem dX2_whole_28 : decode cX2_whole 28 = .ok (.aload_n 0, 1) := by decide +kernel
theorem dX2_whole_29 : decode cX2_whole 29 = .ok (.getfield 13, 3) := by decide +kernel
theorem dX2_whole_32 : decode cX2_whole 32 = .ok (.iload_n 1, 1) := by decide +kernel
theorem dX2_whole_33 : decode cX2_whole 33 = .ok (.iaload, 1) := by decide +kernel
theorem dX2_whole_34 : decode cX2_whole 34 = .ok (.goto 22, 3) := by decide +kernel
theorem dX2_whole_37 : decode cX2_whole 37 = .ok (.iload_n 2, 1) := by decide +kernel
theorem dX2_whole_38 : decode cX2_whole 38 = .ok (.iconst 1, 1) := by decide +kernel
theorem dX2_whole_39 : decode cX2_whole 39 = .ok (.if_icmp .ne 12, 3) := by decide +kernel
theorem dX2_whole_42 : decode cX2_whole 42 = .ok (.aload_n 0, 1) := by decide +kernel
theorem dX2_whole_43 : decode cX2_whole 43 = .ok (.iload_n 1, 1) := by decide +kernel
theorem dX2_whole_44 : decode cX2_whole 44 = .ok (.iconst 0, 1) := by decide +kernel
theorem dX2_whole_45 : decode cX2_whole 45 = .ok (.invokevirtual 49, 3) := by decide +kernel
theorem dX2_whole_48 : decode cX2_whole 48 = .ok (.goto 8, 3) := by decide +kernel
theorem dX2_whole_51 : decode cX2_whole 51 = .ok (.aload_n 0, 1) := by decide +kernel
theorem dX2_whole_52 : decode cX2_whole 52 = .ok (.iload_n 1, 1) := by decide +kernel
theorem dX2_whole_53 : decode cX2_whole 53 = .ok (.invokevirtual 60, 3) := by decide +kernel
theorem dX2_whole_56 : decode cX2_whole 56 = .ok (.ireturn, 1) := by decide +kernel
set_option maxRecDepth 20000 in
theorem ggX2_irons_X2_take : GoodIn wsX2_irons wsX2_take := goodIn_r _ [8, 3, 9, 10, 11, 12, 7, 13, 14, 15, 16, 17, 18, 19, 20, 21, 22, 23, 24, 25, 26, 27, 28] (by decide +kernel) (by decide +kernel)
set_option maxRecDepth 20000 in
theorem gX2_irons_X2_take : GoodIn wsX2_irons (wsV RX2 53 RX2 yX2_take wsX2_take) := goodIn_app (goodIn_of _ (by decide +kernel)) ggX2_irons_X2_take
set_option maxRecDepth 20000 in
theorem ggX2_irons_X2_share : GoodIn wsX2_irons wsX2_share := goodIn_r _ [13, 3, 14, 15, 16, 17, 18, 19, 20, 21, 22, 23, 24, 25, 26, 27, 28] (by decide +kernel) (by decide +kernel)
set_option maxRecDepth 20000 in
theorem gX2_irons_X2_share : GoodIn wsX2_irons (wsV RX2 49 RX2 yX2_share wsX2_share) := goodIn_app (goodIn_of _ (by decide +kernel)) ggX2_irons_X2_share
theorem dX2_irons_0 : decode cX2_irons 0 = .ok (.aload_n 0, 1) := by decide +kernel
theorem dX2_irons_1 : decode cX2_irons 1 = .ok (.lconst 0, 1) := by decide +kernel
theorem dX2_irons_2 : decode cX2_irons 2 = .ok (.putfield 64, 3) := by decide +kernel
theorem dX2_irons_5 : decode cX2_irons 5 = .ok (.aload_n 0, 1) := by decide +kernel
theorem dX2_irons_6 : decode cX2_irons 6 = .ok (.lconst 0, 1) := by decide +kernel
theorem dX2_irons_7 : decode cX2_irons 7 = .ok (.putfield 68, 3) := by decide +kernel
theorem dX2_irons_10 : decode cX2_irons 10 = .ok (.iload_n 2, 1) := by decide +kernel
theorem dX2_irons_11 : decode cX2_irons 11 = .ok (.iconst 1, 1) := by decide +kernel
theorem dX2_irons_12 : decode cX2_irons 12 = .ok (.iadd, 1) := by decide +kernel
theorem dX2_irons_13 : decode cX2_irons 13 = .ok (.istore_n 3, 1) := by decide +kernel
theorem dX2_irons_14 : decode cX2_irons 14 = .ok (.iload_n 3, 1) := by decide +kernel
theorem dX2_irons_15 : decode cX2_irons 15 = .ok (.aload_n 0, 1) := by decide +kernel
theorem dX2_irons_16 : decode cX2_irons 16 = .ok (.getfield 13, 3) := by decide +kernel
theorem dX2_irons_19 : decode cX2_irons 19 = .ok (.iload_n 1, 1) := by decide +kernel
theorem dX2_irons_20 : decode cX2_irons 20 = .ok (.iaload, 1) := by decide +kernel
theorem dX2_irons_21 : decode cX2_irons 21 = .ok (.if_icmp .gt 132, 3) := by decide +kernel
theorem dX2_irons_24 : decode cX2_irons 24 = .ok (.lconst 0, 1) := by decide +kernel
theorem dX2_irons_25 : decode cX2_irons 25 = .ok (.lstore 4, 2) := by decide +kernel
theorem dX2_irons_27 : decode cX2_irons 27 = .ok (.lconst 0, 1) := by decide +kernel
theorem dX2_irons_28 : decode cX2_irons 28 = .ok (.lstore 6, 2) := by decide +kernel
theorem dX2_irons_30 : decode cX2_irons 30 = .ok (.iconst 0, 1) := by decide +kernel
theorem dX2_irons_31 : decode cX2_irons 31 = .ok (.istore 8, 2) := by decide +kernel
theorem dX2_irons_33 : decode cX2_irons 33 = .ok (.iload 8, 2) := by decide +kernel
theorem dX2_irons_35 : decode cX2_irons 35 = .ok (.iload_n 2, 1) := by decide +kernel
theorem dX2_irons_36 : decode cX2_irons 36 = .ok (.if_icmp .gt 72, 3) := by decide +kernel
theorem dX2_irons_39 : decode cX2_irons 39 = .ok (.aload_n 0, 1) := by decide +kernel
theorem dX2_irons_40 : decode cX2_irons 40 = .ok (.iload_n 1, 1) := by decide +kernel
theorem dX2_irons_41 : decode cX2_irons 41 = .ok (.iload 8, 2) := by decide +kernel
theorem dX2_irons_43 : decode cX2_irons 43 = .ok (.invokevirtual 53, 3) := by decide +kernel
theorem dX2_irons_46 : decode cX2_irons 46 = .ok (.aload_n 0, 1) := by decide +kernel
theorem dX2_irons_47 : decode cX2_irons 47 = .ok (.iload_n 1, 1) := by decide +kernel
theorem dX2_irons_48 : decode cX2_irons 48 = .ok (.iload_n 3, 1) := by decide +kernel
theorem dX2_irons_49 : decode cX2_irons 49 = .ok (.invokevirtual 53, 3) := by decide +kernel
theorem dX2_irons_52 : decode cX2_irons 52 = .ok (.isub, 1) := by decide +kernel
theorem dX2_irons_53 : decode cX2_irons 53 = .ok (.i2l, 1) := by decide +kernel
theorem dX2_irons_54 : decode cX2_irons 54 = .ok (.lstore 9, 2) := by decide +kernel
theorem dX2_irons_56 : decode cX2_irons 56 = .ok (.aload_n 0, 1) := by decide +kernel
theorem dX2_irons_57 : decode cX2_irons 57 = .ok (.iload_n 1, 1) := by decide +kernel
theorem dX2_irons_58 : decode cX2_irons 58 = .ok (.iload 8, 2) := by decide +kernel
theorem dX2_irons_60 : decode cX2_irons 60 = .ok (.invokevirtual 49, 3) := by decide +kernel
theorem dX2_irons_63 : decode cX2_irons 63 = .ok (.aload_n 0, 1) := by decide +kernel
theorem dX2_irons_64 : decode cX2_irons 64 = .ok (.iload_n 1, 1) := by decide +kernel
theorem dX2_irons_65 : decode cX2_irons 65 = .ok (.iload_n 3, 1) := by decide +kernel
theorem dX2_irons_66 : decode cX2_irons 66 = .ok (.invokevirtual 49, 3) := by decide +kernel
theorem dX2_irons_69 : decode cX2_irons 69 = .ok (.isub, 1) := by decide +kernel
theorem dX2_irons_70 : decode cX2_irons 70 = .ok (.i2l, 1) := by decide +kernel
theorem dX2_irons_71 : decode cX2_irons 71 = .ok (.lstore 11, 2) := by decide +kernel
theorem dX2_irons_73 : decode cX2_irons 73 = .ok (.lload 6, 2) := by decide +kernel
theorem dX2_irons_75 : decode cX2_irons 75 = .ok (.lconst 0, 1) := by decide +kernel
theorem dX2_irons_76 : decode cX2_irons 76 = .ok (.lcmp, 1) := by decide +kernel
theorem dX2_irons_77 : decode cX2_irons 77 = .ok (.ifCond .eq 17, 3) := by decide +kernel
theorem dX2_irons_80 : decode cX2_irons 80 = .ok (.lload 9, 2) := by decide +kernel
theorem dX2_irons_82 : decode cX2_irons 82 = .ok (.lload 6, 2) := by decide +kernel
theorem dX2_irons_84 : decode cX2_irons 84 = .ok (.lmul, 1) := by decide +kernel
theorem dX2_irons_85 : decode cX2_irons 85 = .ok (.lload 4, 2) := by decide +kernel
theorem dX2_irons_87 : decode cX2_irons 87 = .ok (.lload 11, 2) := by decide +kernel
theorem dX2_irons_89 : decode cX2_irons 89 = .ok (.lmul, 1) := by decide +kernel
theorem dX2_irons_90 : decode cX2_irons 90 = .ok (.lcmp, 1) := by decide +kernel
theorem dX2_irons_91 : decode cX2_irons 91 = .ok (.ifCond .le 11, 3) := by decide +kernel
theorem dX2_irons_94 : decode cX2_irons 94 = .ok (.lload 9, 2) := by decide +kernel
theorem dX2_irons_96 : decode cX2_irons 96 = .ok (.lstore 4, 2) := by decide +kernel
theorem dX2_irons_98 : decode cX2_irons 98 = .ok (.lload 11, 2) := by decide +kernel
theorem dX2_irons_100 : decode cX2_irons 100 = .ok (.lstore 6, 2) := by decide +kernel
theorem dX2_irons_102 : decode cX2_irons 102 = .ok (.iinc 8 1, 3) := by decide +kernel
theorem dX2_irons_105 : decode cX2_irons 105 = .ok (.goto (-72), 3) := by decide +kernel
theorem dX2_irons_108 : decode cX2_irons 108 = .ok (.aload_n 0, 1) := by decide +kernel
theorem dX2_irons_109 : decode cX2_irons 109 = .ok (.getfield 68, 3) := by decide +kernel
theorem dX2_irons_112 : decode cX2_irons 112 = .ok (.lconst 0, 1) := by decide +kernel
theorem dX2_irons_113 : decode cX2_irons 113 = .ok (.lcmp, 1) := by decide +kernel
theorem dX2_irons_114 : decode cX2_irons 114 = .ok (.ifCond .eq 21, 3) := by decide +kernel
theorem dX2_irons_117 : decode cX2_irons 117 = .ok (.lload 4, 2) := by decide +kernel
theorem dX2_irons_119 : decode cX2_irons 119 = .ok (.aload_n 0, 1) := by decide +kernel
theorem dX2_irons_120 : decode cX2_irons 120 = .ok (.getfield 68, 3) := by decide +kernel
theorem dX2_irons_123 : decode cX2_irons 123 = .ok (.lmul, 1) := by decide +kernel
theorem dX2_irons_124 : decode cX2_irons 124 = .ok (.aload_n 0, 1) := by decide +kernel
theorem dX2_irons_125 : decode cX2_irons 125 = .ok (.getfield 64, 3) := by decide +kernel
theorem dX2_irons_128 : decode cX2_irons 128 = .ok (.lload 6, 2) := by decide +kernel
theorem dX2_irons_130 : decode cX2_irons 130 = .ok (.lmul, 1) := by decide +kernel
theorem dX2_irons_131 : decode cX2_irons 131 = .ok (.lcmp, 1) := by decide +kernel
theorem dX2_irons_132 : decode cX2_irons 132 = .ok (.ifCond .ge 15, 3) := by decide +kernel
theorem dX2_irons_135 : decode cX2_irons 135 = .ok (.aload_n 0, 1) := by decide +kernel
theorem dX2_irons_136 : decode cX2_irons 136 = .ok (.lload 4, 2) := by decide +kernel
theorem dX2_irons_138 : decode cX2_irons 138 = .ok (.putfield 64, 3) := by decide +kernel
theorem dX2_irons_141 : decode cX2_irons 141 = .ok (.aload_n 0, 1) := by decide +kernel
theorem dX2_irons_142 : decode cX2_irons 142 = .ok (.lload 6, 2) := by decide +kernel
theorem dX2_irons_144 : decode cX2_irons 144 = .ok (.putfield 68, 3) := by decide +kernel
theorem dX2_irons_147 : decode cX2_irons 147 = .ok (.iinc 3 1, 3) := by decide +kernel
theorem dX2_irons_150 : decode cX2_irons 150 = .ok (.goto (-136), 3) := by decide +kernel
theorem dX2_irons_153 : decode cX2_irons 153 = .ok (.return_, 1) := by decide +kernel
theorem dX2_common_0 : decode cX2_common 0 = .ok (.lload_n 0, 1) := by decide +kernel
theorem dX2_common_1 : decode cX2_common 1 = .ok (.lconst 0, 1) := by decide +kernel
theorem dX2_common_2 : decode cX2_common 2 = .ok (.lcmp, 1) := by decide +kernel
theorem dX2_common_3 : decode cX2_common 3 = .ok (.ifCond .ge 8, 3) := by decide +kernel
theorem dX2_common_6 : decode cX2_common 6 = .ok (.lload_n 0, 1) := by decide +kernel
theorem dX2_common_7 : decode cX2_common 7 = .ok (.lneg, 1) := by decide +kernel
theorem dX2_common_8 : decode cX2_common 8 = .ok (.goto 4, 3) := by decide +kernel
theorem dX2_common_11 : decode cX2_common 11 = .ok (.lload_n 0, 1) := by decide +kernel
theorem dX2_common_12 : decode cX2_common 12 = .ok (.lstore 4, 2) := by decide +kernel
theorem dX2_common_14 : decode cX2_common 14 = .ok (.lload_n 2, 1) := by decide +kernel
theorem dX2_common_15 : decode cX2_common 15 = .ok (.lstore 6, 2) := by decide +kernel
theorem dX2_common_17 : decode cX2_common 17 = .ok (.lload 6, 2) := by decide +kernel
theorem dX2_common_19 : decode cX2_common 19 = .ok (.lconst 0, 1) := by decide +kernel
theorem dX2_common_20 : decode cX2_common 20 = .ok (.lcmp, 1) := by decide +kernel
theorem dX2_common_21 : decode cX2_common 21 = .ok (.ifCond .eq 21, 3) := by decide +kernel
theorem dX2_common_24 : decode cX2_common 24 = .ok (.lload 4, 2) := by decide +kernel
theorem dX2_common_26 : decode cX2_common 26 = .ok (.lload 6, 2) := by decide +kernel
theorem dX2_common_28 : decode cX2_common 28 = .ok (.lrem, 1) := by decide +kernel
theorem dX2_common_29 : decode cX2_common 29 = .ok (.lstore 8, 2) := by decide +kernel
theorem dX2_common_31 : decode cX2_common 31 = .ok (.lload 6, 2) := by decide +kernel
theorem dX2_common_33 : decode cX2_common 33 = .ok (.lstore 4, 2) := by decide +kernel
theorem dX2_common_35 : decode cX2_common 35 = .ok (.lload 8, 2) := by decide +kernel
theorem dX2_common_37 : decode cX2_common 37 = .ok (.lstore 6, 2) := by decide +kernel
theorem dX2_common_39 : decode cX2_common 39 = .ok (.goto (-22), 3) := by decide +kernel
theorem dX2_common_42 : decode cX2_common 42 = .ok (.lload 4, 2) := by decide +kernel
theorem dX2_common_44 : decode cX2_common 44 = .ok (.lreturn, 1) := by decide +kernel
set_option maxRecDepth 20000 in
theorem ggX2_part_X2_common : GoodIn wsX2_part wsX2_common := goodIn_r _ [4] (by decide +kernel) (by decide +kernel)
set_option maxRecDepth 20000 in
theorem gX2_part_X2_common : GoodIn wsX2_part (va_wsS RX2 71 yX2_common wsX2_common) := goodIn_app (goodIn_of _ (by decide +kernel)) ggX2_part_X2_common
theorem dX2_part_0 : decode cX2_part 0 = .ok (.lload_n 1, 1) := by decide +kernel
theorem dX2_part_1 : decode cX2_part 1 = .ok (.lload_n 3, 1) := by decide +kernel
theorem dX2_part_2 : decode cX2_part 2 = .ok (.invokestatic 71, 3) := by decide +kernel
theorem dX2_part_5 : decode cX2_part 5 = .ok (.lstore 6, 2) := by decide +kernel
theorem dX2_part_7 : decode cX2_part 7 = .ok (.iload 5, 2) := by decide +kernel
theorem dX2_part_9 : decode cX2_part 9 = .ok (.ifCond .ne 10, 3) := by decide +kernel
theorem dX2_part_12 : decode cX2_part 12 = .ok (.lload_n 1, 1) := by decide +kernel
theorem dX2_part_13 : decode cX2_part 13 = .ok (.lload 6, 2) := by decide +kernel
theorem dX2_part_15 : decode cX2_part 15 = .ok (.ldiv, 1) := by decide +kernel
theorem dX2_part_16 : decode cX2_part 16 = .ok (.goto 7, 3) := by decide +kernel
theorem dX2_part_19 : decode cX2_part 19 = .ok (.lload_n 3, 1) := by decide +kernel
theorem dX2_part_20 : decode cX2_part 20 = .ok (.lload 6, 2) := by decide +kernel
theorem dX2_part_22 : decode cX2_part 22 = .ok (.ldiv, 1) := by decide +kernel
theorem dX2_part_23 : decode cX2_part 23 = .ok (.lreturn, 1) := by decide +kernel
set_option maxRecDepth 20000 in
theorem ggX2_slope_X2_isBuyer : GoodIn wsX2_slope wsX2_isBuyer := goodIn_r _ [10, 11, 12, 13, 9, 14, 40, 41, 42, 43, 44, 45, 46, 47, 48, 49, 50, 51, 52, 53] (by decide +kernel) (by decide +kernel)
set_option maxRecDepth 20000 in
theorem gX2_slope_X2_isBuyer : GoodIn wsX2_slope (wsV RX2 45 RX2 yX2_isBuyer wsX2_isBuyer) := goodIn_app (goodIn_of _ (by decide +kernel)) ggX2_slope_X2_isBuyer
set_option maxRecDepth 20000 in
theorem ggX2_slope_X2_isPlace : GoodIn wsX2_slope wsX2_isPlace := goodIn_r _ [18, 19, 12, 13, 9, 14, 40, 41, 42, 43, 44, 45, 46, 47, 48, 49, 50, 51, 52, 53] (by decide +kernel) (by decide +kernel)
set_option maxRecDepth 20000 in
theorem gX2_slope_X2_isPlace : GoodIn wsX2_slope (wsV RX2 56 RX2 yX2_isPlace wsX2_isPlace) := goodIn_app (goodIn_of _ (by decide +kernel)) ggX2_slope_X2_isPlace
set_option maxRecDepth 20000 in
theorem ggX2_slope_X2_in : GoodIn wsX2_slope wsX2_in := goodIn_r _ [14] (by decide +kernel) (by decide +kernel)
set_option maxRecDepth 20000 in
theorem gX2_slope_X2_in : GoodIn wsX2_slope (va_wsS RX2 41 yX2_in wsX2_in) := goodIn_app (goodIn_of _ (by decide +kernel)) ggX2_slope_X2_in
set_option maxRecDepth 20000 in
theorem ggX2_slope_X2_irons : GoodIn wsX2_slope wsX2_irons := goodIn_r _ [23, 3, 5, 19, 24, 25, 26, 9, 27, 28, 29, 30, 31, 32, 4, 40, 41, 42, 43, 44, 45, 46, 47, 48, 49, 50, 51, 52, 53] (by decide +kernel) (by decide +kernel)
set_option maxRecDepth 20000 in
theorem gX2_slope_X2_irons : GoodIn wsX2_slope (wsV RX2 77 RX2 yX2_irons wsX2_irons) := goodIn_app (goodIn_of _ (by decide +kernel)) ggX2_slope_X2_irons
set_option maxRecDepth 20000 in
theorem ggX2_slope_X2_take : GoodIn wsX2_slope wsX2_take := goodIn_r _ [27, 19, 28, 29, 30, 31, 9, 32, 4, 40, 41, 42, 43, 44, 45, 46, 47, 48, 49, 50, 51, 52, 53] (by decide +kernel) (by decide +kernel)
set_option maxRecDepth 20000 in
theorem gX2_slope_X2_take : GoodIn wsX2_slope (wsV RX2 53 RX2 yX2_take wsX2_take) := goodIn_app (goodIn_of _ (by decide +kernel)) ggX2_slope_X2_take
set_option maxRecDepth 20000 in
theorem ggX2_slope_X2_part : GoodIn wsX2_slope wsX2_part := goodIn_r _ [36, 37, 38, 9, 39] (by decide +kernel) (by decide +kernel)
set_option maxRecDepth 20000 in
theorem gX2_slope_X2_part : GoodIn wsX2_slope (wsV RX2 81 RX2 yX2_part wsX2_part) := goodIn_app (goodIn_of _ (by decide +kernel)) ggX2_slope_X2_part
theorem dX2_slope_0 : decode cX2_slope 0 = .ok (.aload_n 0, 1) := by decide +kernel
theorem dX2_slope_1 : decode cX2_slope 1 = .ok (.iconst 0, 1) := by decide +kernel
theorem dX2_slope_2 : decode cX2_slope 2 = .ok (.putfield 38, 3) := by decide +kernel
theorem dX2_slope_5 : decode cX2_slope 5 = .ok (.aload_n 0, 1) := by decide +kernel
theorem dX2_slope_6 : decode cX2_slope 6 = .ok (.iload_n 1, 1) := by decide +kernel
theorem dX2_slope_7 : decode cX2_slope 7 = .ok (.invokevirtual 45, 3) := by decide +kernel
theorem dX2_slope_10 : decode cX2_slope 10 = .ok (.ifCond .eq 22, 3) := by decide +kernel
theorem dX2_slope_13 : decode cX2_slope 13 = .ok (.aload_n 0, 1) := by decide +kernel
theorem dX2_slope_14 : decode cX2_slope 14 = .ok (.iload_n 1, 1) := by decide +kernel
theorem dX2_slope_15 : decode cX2_slope 15 = .ok (.iload_n 2, 1) := by decide +kernel
theorem dX2_slope_16 : decode cX2_slope 16 = .ok (.invokevirtual 56, 3) := by decide +kernel
theorem dX2_slope_19 : decode cX2_slope 19 = .ok (.ifCond .eq 13, 3) := by decide +kernel
theorem dX2_slope_22 : decode cX2_slope 22 = .ok (.iload 4, 2) := by decide +kernel
theorem dX2_slope_24 : decode cX2_slope 24 = .ok (.iconst 0, 1) := by decide +kernel
theorem dX2_slope_25 : decode cX2_slope 25 = .ok (.iconst 1, 1) := by decide +kernel
theorem dX2_slope_26 : decode cX2_slope 26 = .ok (.invokestatic 41, 3) := by decide +kernel
theorem dX2_slope_29 : decode cX2_slope 29 = .ok (.ifCond .ne 7, 3) := by decide +kernel
theorem dX2_slope_32 : decode cX2_slope 32 = .ok (.ldc2_w 75, 3) := by decide +kernel
theorem dX2_slope_35 : decode cX2_slope 35 = .ok (.lreturn, 1) := by decide +kernel
theorem dX2_slope_36 : decode cX2_slope 36 = .ok (.iload_n 3, 1) := by decide +kernel
theorem dX2_slope_37 : decode cX2_slope 37 = .ok (.ifCond .eq 12, 3) := by decide +kernel
theorem dX2_slope_40 : decode cX2_slope 40 = .ok (.aload_n 0, 1) := by decide +kernel
theorem dX2_slope_41 : decode cX2_slope 41 = .ok (.iload_n 1, 1) := by decide +kernel
theorem dX2_slope_42 : decode cX2_slope 42 = .ok (.iload_n 2, 1) := by decide +kernel
theorem dX2_slope_43 : decode cX2_slope 43 = .ok (.invokevirtual 77, 3) := by decide +kernel
theorem dX2_slope_46 : decode cX2_slope 46 = .ok (.goto 38, 3) := by decide +kernel
theorem dX2_slope_49 : decode cX2_slope 49 = .ok (.aload_n 0, 1) := by decide +kernel
theorem dX2_slope_50 : decode cX2_slope 50 = .ok (.aload_n 0, 1) := by decide +kernel
theorem dX2_slope_51 : decode cX2_slope 51 = .ok (.iload_n 1, 1) := by decide +kernel
theorem dX2_slope_52 : decode cX2_slope 52 = .ok (.iload_n 2, 1) := by decide +kernel
theorem dX2_slope_53 : decode cX2_slope 53 = .ok (.invokevirtual 53, 3) := by decide +kernel
theorem dX2_slope_56 : decode cX2_slope 56 = .ok (.aload_n 0, 1) := by decide +kernel
theorem dX2_slope_57 : decode cX2_slope 57 = .ok (.iload_n 1, 1) := by decide +kernel
theorem dX2_slope_58 : decode cX2_slope 58 = .ok (.iload_n 2, 1) := by decide +kernel
theorem dX2_slope_59 : decode cX2_slope 59 = .ok (.iconst 1, 1) := by decide +kernel
theorem dX2_slope_60 : decode cX2_slope 60 = .ok (.iadd, 1) := by decide +kernel
theorem dX2_slope_61 : decode cX2_slope 61 = .ok (.invokevirtual 53, 3) := by decide +kernel
theorem dX2_slope_64 : decode cX2_slope 64 = .ok (.isub, 1) := by decide +kernel
theorem dX2_slope_65 : decode cX2_slope 65 = .ok (.i2l, 1) := by decide +kernel
theorem dX2_slope_66 : decode cX2_slope 66 = .ok (.putfield 64, 3) := by decide +kernel
theorem dX2_slope_69 : decode cX2_slope 69 = .ok (.aload_n 0, 1) := by decide +kernel
theorem dX2_slope_70 : decode cX2_slope 70 = .ok (.aload_n 0, 1) := by decide +kernel
theorem dX2_slope_71 : decode cX2_slope 71 = .ok (.getfield 20, 3) := by decide +kernel
theorem dX2_slope_74 : decode cX2_slope 74 = .ok (.iconst 5, 1) := by decide +kernel
theorem dX2_slope_75 : decode cX2_slope 75 = .ok (.iload_n 1, 1) := by decide +kernel
theorem dX2_slope_76 : decode cX2_slope 76 = .ok (.imul, 1) := by decide +kernel
theorem dX2_slope_77 : decode cX2_slope 77 = .ok (.iload_n 2, 1) := by decide +kernel
theorem dX2_slope_78 : decode cX2_slope 78 = .ok (.iadd, 1) := by decide +kernel
theorem dX2_slope_79 : decode cX2_slope 79 = .ok (.iaload, 1) := by decide +kernel
theorem dX2_slope_80 : decode cX2_slope 80 = .ok (.i2l, 1) := by decide +kernel
theorem dX2_slope_81 : decode cX2_slope 81 = .ok (.putfield 68, 3) := by decide +kernel
theorem dX2_slope_84 : decode cX2_slope 84 = .ok (.aload_n 0, 1) := by decide +kernel
theorem dX2_slope_85 : decode cX2_slope 85 = .ok (.aload_n 0, 1) := by decide +kernel
theorem dX2_slope_86 : decode cX2_slope 86 = .ok (.getfield 64, 3) := by decide +kernel
theorem dX2_slope_89 : decode cX2_slope 89 = .ok (.aload_n 0, 1) := by decide +kernel
theorem dX2_slope_90 : decode cX2_slope 90 = .ok (.getfield 68, 3) := by decide +kernel
theorem dX2_slope_93 : decode cX2_slope 93 = .ok (.iload 4, 2) := by decide +kernel
theorem dX2_slope_95 : decode cX2_slope 95 = .ok (.invokevirtual 81, 3) := by decide +kernel
theorem dX2_slope_98 : decode cX2_slope 98 = .ok (.lreturn, 1) := by decide +kernel
set_option maxRecDepth 20000 in
theorem ggX2_getter_X2_irons : GoodIn wsX2_getter wsX2_irons := goodIn_r _ [9, 3, 4, 10, 11, 12, 13, 8, 14, 15, 16, 17, 18, 19, 20, 21, 22, 23, 24, 25, 26, 27, 28, 29, 30, 31, 32, 33, 34] (by decide +kernel) (by decide +kernel)
set_option maxRecDepth 20000 in
theorem gX2_getter_X2_irons : GoodIn wsX2_getter (wsV RX2 77 RX2 yX2_irons wsX2_irons) := goodIn_app (goodIn_of _ (by decide +kernel)) ggX2_getter_X2_irons
theorem dX2_getter_0 : decode cX2_getter 0 = .ok (.bipush (-9), 2) := by decide +kernel
theorem dX2_getter_2 : decode cX2_getter 2 = .ok (.istore_n 1, 1) := by decide +kernel
theorem dX2_getter_3 : decode cX2_getter 3 = .ok (.lconst 0, 1) := by decide +kernel
theorem dX2_getter_4 : decode cX2_getter 4 = .ok (.lstore_n 2, 1) := by decide +kernel
theorem dX2_getter_5 : decode cX2_getter 5 = .ok (.lconst 1, 1) := by decide +kernel
theorem dX2_getter_6 : decode cX2_getter 6 = .ok (.lstore 4, 2) := by decide +kernel
theorem dX2_getter_8 : decode cX2_getter 8 = .ok (.iconst 0, 1) := by decide +kernel
theorem dX2_getter_9 : decode cX2_getter 9 = .ok (.istore 6, 2) := by decide +kernel
theorem dX2_getter_11 : decode cX2_getter 11 = .ok (.iload 6, 2) := by decide +kernel
theorem dX2_getter_13 : decode cX2_getter 13 = .ok (.aload_n 0, 1) := by decide +kernel
theorem dX2_getter_14 : decode cX2_getter 14 = .ok (.getfield 7, 3) := by decide +kernel
theorem dX2_getter_17 : decode cX2_getter 17 = .ok (.if_icmp .ge 53, 3) := by decide +kernel
theorem dX2_getter_20 : decode cX2_getter 20 = .ok (.aload_n 0, 1) := by decide +kernel
theorem dX2_getter_21 : decode cX2_getter 21 = .ok (.iload 6, 2) := by decide +kernel
theorem dX2_getter_23 : decode cX2_getter 23 = .ok (.aload_n 0, 1) := by decide +kernel
theorem dX2_getter_24 : decode cX2_getter 24 = .ok (.getfield 26, 3) := by decide +kernel
theorem dX2_getter_27 : decode cX2_getter 27 = .ok (.iload 6, 2) := by decide +kernel
theorem dX2_getter_29 : decode cX2_getter 29 = .ok (.iaload, 1) := by decide +kernel
theorem dX2_getter_30 : decode cX2_getter 30 = .ok (.invokevirtual 77, 3) := by decide +kernel
theorem dX2_getter_33 : decode cX2_getter 33 = .ok (.aload_n 0, 1) := by decide +kernel
theorem dX2_getter_34 : decode cX2_getter 34 = .ok (.getfield 64, 3) := by decide +kernel
theorem dX2_getter_37 : decode cX2_getter 37 = .ok (.lload 4, 2) := by decide +kernel
theorem dX2_getter_39 : decode cX2_getter 39 = .ok (.lmul, 1) := by decide +kernel
theorem dX2_getter_40 : decode cX2_getter 40 = .ok (.lload_n 2, 1) := by decide +kernel
theorem dX2_getter_41 : decode cX2_getter 41 = .ok (.aload_n 0, 1) := by decide +kernel
theorem dX2_getter_42 : decode cX2_getter 42 = .ok (.getfield 68, 3) := by decide +kernel
theorem dX2_getter_45 : decode cX2_getter 45 = .ok (.lmul, 1) := by decide +kernel
theorem dX2_getter_46 : decode cX2_getter 46 = .ok (.lcmp, 1) := by decide +kernel
theorem dX2_getter_47 : decode cX2_getter 47 = .ok (.ifCond .le 17, 3) := by decide +kernel
theorem dX2_getter_50 : decode cX2_getter 50 = .ok (.aload_n 0, 1) := by decide +kernel
theorem dX2_getter_51 : decode cX2_getter 51 = .ok (.getfield 64, 3) := by decide +kernel
theorem dX2_getter_54 : decode cX2_getter 54 = .ok (.lstore_n 2, 1) := by decide +kernel
theorem dX2_getter_55 : decode cX2_getter 55 = .ok (.aload_n 0, 1) := by decide +kernel
theorem dX2_getter_56 : decode cX2_getter 56 = .ok (.getfield 68, 3) := by decide +kernel
theorem dX2_getter_59 : decode cX2_getter 59 = .ok (.lstore 4, 2) := by decide +kernel
theorem dX2_getter_61 : decode cX2_getter 61 = .ok (.iload 6, 2) := by decide +kernel
theorem dX2_getter_63 : decode cX2_getter 63 = .ok (.istore_n 1, 1) := by decide +kernel
theorem dX2_getter_64 : decode cX2_getter 64 = .ok (.iinc 6 1, 3) := by decide +kernel
theorem dX2_getter_67 : decode cX2_getter 67 = .ok (.goto (-56), 3) := by decide +kernel
theorem dX2_getter_70 : decode cX2_getter 70 = .ok (.iload_n 1, 1) := by decide +kernel
theorem dX2_getter_71 : decode cX2_getter 71 = .ok (.ireturn, 1) := by decide +kernel
set_option maxRecDepth 20000 in
theorem ggX2_paid_X2_getter : GoodIn wsX2_paid wsX2_getter := goodIn_r _ [7, 8, 1, 9, 10, 11, 12, 13, 6, 14, 15, 16, 17, 18, 19, 2, 20, 21, 22, 23, 24, 25, 26, 27, 28, 29, 30, 31, 32, 33, 34, 35, 36, 37, 38] (by decide +kernel) (by decide +kernel)
set_option maxRecDepth 20000 in
theorem gX2_paid_X2_getter : GoodIn wsX2_paid (wsV RX2 85 RX2 yX2_getter wsX2_getter) := goodIn_app (goodIn_of _ (by decide +kernel)) ggX2_paid_X2_getter
theorem dX2_paid_0 : decode cX2_paid 0 = .ok (.aload_n 0, 1) := by decide +kernel
theorem dX2_paid_1 : decode cX2_paid 1 = .ok (.invokevirtual 85, 3) := by decide +kernel
theorem dX2_paid_4 : decode cX2_paid 4 = .ok (.iload_n 1, 1) := by decide +kernel
theorem dX2_paid_5 : decode cX2_paid 5 = .ok (.if_icmp .eq 5, 3) := by decide +kernel
theorem dX2_paid_8 : decode cX2_paid 8 = .ok (.iconst 0, 1) := by decide +kernel
theorem dX2_paid_9 : decode cX2_paid 9 = .ok (.ireturn, 1) := by decide +kernel
theorem dX2_paid_10 : decode cX2_paid 10 = .ok (.aload_n 0, 1) := by decide +kernel
theorem dX2_paid_11 : decode cX2_paid 11 = .ok (.getfield 26, 3) := by decide +kernel
theorem dX2_paid_14 : decode cX2_paid 14 = .ok (.iload_n 1, 1) := by decide +kernel
theorem dX2_paid_15 : decode cX2_paid 15 = .ok (.iaload, 1) := by decide +kernel
theorem dX2_paid_16 : decode cX2_paid 16 = .ok (.istore_n 2, 1) := by decide +kernel
theorem dX2_paid_17 : decode cX2_paid 17 = .ok (.iconst 0, 1) := by decide +kernel
theorem dX2_paid_18 : decode cX2_paid 18 = .ok (.istore_n 3, 1) := by decide +kernel
theorem dX2_paid_19 : decode cX2_paid 19 = .ok (.iload_n 2, 1) := by decide +kernel
theorem dX2_paid_20 : decode cX2_paid 20 = .ok (.istore 4, 2) := by decide +kernel
theorem dX2_paid_22 : decode cX2_paid 22 = .ok (.iload 4, 2) := by decide +kernel
theorem dX2_paid_24 : decode cX2_paid 24 = .ok (.ifCond .lt 41, 3) := by decide +kernel
theorem dX2_paid_27 : decode cX2_paid 27 = .ok (.aload_n 0, 1) := by decide +kernel
theorem dX2_paid_28 : decode cX2_paid 28 = .ok (.getfield 26, 3) := by decide +kernel
theorem dX2_paid_31 : decode cX2_paid 31 = .ok (.iload_n 1, 1) := by decide +kernel
theorem dX2_paid_32 : decode cX2_paid 32 = .ok (.iload 4, 2) := by decide +kernel
theorem dX2_paid_34 : decode cX2_paid 34 = .ok (.iastore, 1) := by decide +kernel
theorem dX2_paid_35 : decode cX2_paid 35 = .ok (.aload_n 0, 1) := by decide +kernel
theorem dX2_paid_36 : decode cX2_paid 36 = .ok (.invokevirtual 85, 3) := by decide +kernel
theorem dX2_paid_39 : decode cX2_paid 39 = .ok (.iload_n 1, 1) := by decide +kernel
theorem dX2_paid_40 : decode cX2_paid 40 = .ok (.if_icmp .ne 17, 3) := by decide +kernel
theorem dX2_paid_43 : decode cX2_paid 43 = .ok (.aload_n 0, 1) := by decide +kernel
theorem dX2_paid_44 : decode cX2_paid 44 = .ok (.getfield 17, 3) := by decide +kernel
theorem dX2_paid_47 : decode cX2_paid 47 = .ok (.iconst 5, 1) := by decide +kernel
theorem dX2_paid_48 : decode cX2_paid 48 = .ok (.iload_n 1, 1) := by decide +kernel
theorem dX2_paid_49 : decode cX2_paid 49 = .ok (.imul, 1) := by decide +kernel
theorem dX2_paid_50 : decode cX2_paid 50 = .ok (.iload 4, 2) := by decide +kernel
theorem dX2_paid_52 : decode cX2_paid 52 = .ok (.iadd, 1) := by decide +kernel
theorem dX2_paid_53 : decode cX2_paid 53 = .ok (.iaload, 1) := by decide +kernel
theorem dX2_paid_54 : decode cX2_paid 54 = .ok (.goto 4, 3) := by decide +kernel
theorem dX2_paid_57 : decode cX2_paid 57 = .ok (.iload_n 3, 1) := by decide +kernel
theorem dX2_paid_58 : decode cX2_paid 58 = .ok (.istore_n 3, 1) := by decide +kernel
theorem dX2_paid_59 : decode cX2_paid 59 = .ok (.iinc 4 (-1), 3) := by decide +kernel
theorem dX2_paid_62 : decode cX2_paid 62 = .ok (.goto (-40), 3) := by decide +kernel
theorem dX2_paid_65 : decode cX2_paid 65 = .ok (.aload_n 0, 1) := by decide +kernel
theorem dX2_paid_66 : decode cX2_paid 66 = .ok (.getfield 26, 3) := by decide +kernel
theorem dX2_paid_69 : decode cX2_paid 69 = .ok (.iload_n 1, 1) := by decide +kernel
theorem dX2_paid_70 : decode cX2_paid 70 = .ok (.iload_n 2, 1) := by decide +kernel
theorem dX2_paid_71 : decode cX2_paid 71 = .ok (.iastore, 1) := by decide +kernel
theorem dX2_paid_72 : decode cX2_paid 72 = .ok (.iload_n 3, 1) := by decide +kernel
theorem dX2_paid_73 : decode cX2_paid 73 = .ok (.ireturn, 1) := by decide +kernel
set_option maxRecDepth 20000 in
theorem ggX2_isPlaces_X2_isPlace : GoodIn wsX2_isPlaces wsX2_isPlace := goodIn_r _ [7, 8, 9, 10, 6, 11, 12, 13, 14, 15, 16, 17, 18, 19, 20, 21, 22, 23, 24, 25] (by decide +kernel) (by decide +kernel)
set_option maxRecDepth 20000 in
theorem gX2_isPlaces_X2_isPlace : GoodIn wsX2_isPlaces (wsV RX2 56 RX2 yX2_isPlace wsX2_isPlace) := goodIn_app (goodIn_of _ (by decide +kernel)) ggX2_isPlaces_X2_isPlace
theorem dX2_isPlaces_0 : decode cX2_isPlaces 0 = .ok (.aload_n 0, 1) := by decide +kernel
theorem dX2_isPlaces_1 : decode cX2_isPlaces 1 = .ok (.getfield 26, 3) := by decide +kernel
theorem dX2_isPlaces_4 : decode cX2_isPlaces 4 = .ok (.iconst 0, 1) := by decide +kernel
theorem dX2_isPlaces_5 : decode cX2_isPlaces 5 = .ok (.iload_n 1, 1) := by decide +kernel
theorem dX2_isPlaces_6 : decode cX2_isPlaces 6 = .ok (.iastore, 1) := by decide +kernel
theorem dX2_isPlaces_7 : decode cX2_isPlaces 7 = .ok (.aload_n 0, 1) := by decide +kernel
theorem dX2_isPlaces_8 : decode cX2_isPlaces 8 = .ok (.getfield 26, 3) := by decide +kernel
theorem dX2_isPlaces_11 : decode cX2_isPlaces 11 = .ok (.iconst 1, 1) := by decide +kernel
theorem dX2_isPlaces_12 : decode cX2_isPlaces 12 = .ok (.iload_n 2, 1) := by decide +kernel
theorem dX2_isPlaces_13 : decode cX2_isPlaces 13 = .ok (.iastore, 1) := by decide +kernel
theorem dX2_isPlaces_14 : decode cX2_isPlaces 14 = .ok (.aload_n 0, 1) := by decide +kernel
theorem dX2_isPlaces_15 : decode cX2_isPlaces 15 = .ok (.getfield 26, 3) := by decide +kernel
theorem dX2_isPlaces_18 : decode cX2_isPlaces 18 = .ok (.iconst 2, 1) := by decide +kernel
theorem dX2_isPlaces_19 : decode cX2_isPlaces 19 = .ok (.iload_n 3, 1) := by decide +kernel
theorem dX2_isPlaces_20 : decode cX2_isPlaces 20 = .ok (.iastore, 1) := by decide +kernel
theorem dX2_isPlaces_21 : decode cX2_isPlaces 21 = .ok (.iconst 1, 1) := by decide +kernel
theorem dX2_isPlaces_22 : decode cX2_isPlaces 22 = .ok (.istore 4, 2) := by decide +kernel
theorem dX2_isPlaces_24 : decode cX2_isPlaces 24 = .ok (.iconst 0, 1) := by decide +kernel
theorem dX2_isPlaces_25 : decode cX2_isPlaces 25 = .ok (.istore 5, 2) := by decide +kernel
theorem dX2_isPlaces_27 : decode cX2_isPlaces 27 = .ok (.iload 5, 2) := by decide +kernel
theorem dX2_isPlaces_29 : decode cX2_isPlaces 29 = .ok (.aload_n 0, 1) := by decide +kernel
theorem dX2_isPlaces_30 : decode cX2_isPlaces 30 = .ok (.getfield 7, 3) := by decide +kernel
theorem dX2_isPlaces_33 : decode cX2_isPlaces 33 = .ok (.if_icmp .ge 27, 3) := by decide +kernel
theorem dX2_isPlaces_36 : decode cX2_isPlaces 36 = .ok (.iload 4, 2) := by decide +kernel
theorem dX2_isPlaces_38 : decode cX2_isPlaces 38 = .ok (.aload_n 0, 1) := by decide +kernel
theorem dX2_isPlaces_39 : decode cX2_isPlaces 39 = .ok (.iload 5, 2) := by decide +kernel
theorem dX2_isPlaces_41 : decode cX2_isPlaces 41 = .ok (.aload_n 0, 1) := by decide +kernel
theorem dX2_isPlaces_42 : decode cX2_isPlaces 42 = .ok (.getfield 26, 3) := by decide +kernel
theorem dX2_isPlaces_45 : decode cX2_isPlaces 45 = .ok (.iload 5, 2) := by decide +kernel
theorem dX2_isPlaces_47 : decode cX2_isPlaces 47 = .ok (.iaload, 1) := by decide +kernel
theorem dX2_isPlaces_48 : decode cX2_isPlaces 48 = .ok (.invokevirtual 56, 3) := by decide +kernel
theorem dX2_isPlaces_51 : decode cX2_isPlaces 51 = .ok (.iand, 1) := by decide +kernel
theorem dX2_isPlaces_52 : decode cX2_isPlaces 52 = .ok (.istore 4, 2) := by decide +kernel
theorem dX2_isPlaces_54 : decode cX2_isPlaces 54 = .ok (.iinc 5 1, 3) := by decide +kernel
theorem dX2_isPlaces_57 : decode cX2_isPlaces 57 = .ok (.goto (-30), 3) := by decide +kernel
theorem dX2_isPlaces_60 : decode cX2_isPlaces 60 = .ok (.iload 4, 2) := by decide +kernel
theorem dX2_isPlaces_62 : decode cX2_isPlaces 62 = .ok (.ireturn, 1) := by decide +kernel
set_option maxRecDepth 20000 in
theorem ggX2_gets_X2_isPlaces : GoodIn wsX2_gets wsX2_isPlaces := goodIn_r _ [6, 7, 8, 9, 10, 11, 5, 12, 13, 14, 15, 16, 37, 38, 39, 40, 41, 42, 43, 44, 45, 46, 47, 48, 49, 50] (by decide +kernel) (by decide +kernel)
set_option maxRecDepth 20000 in
theorem gX2_gets_X2_isPlaces : GoodIn wsX2_gets (wsV RX2 89 RX2 yX2_isPlaces wsX2_isPlaces) := goodIn_app (goodIn_of _ (by decide +kernel)) ggX2_gets_X2_isPlaces
set_option maxRecDepth 20000 in
theorem ggX2_gets_X2_getter : GoodIn wsX2_gets wsX2_getter := goodIn_r _ [20, 8, 7, 21, 22, 23, 24, 25, 5, 26, 13, 27, 28, 29, 30, 31, 32, 33, 34, 35, 36, 37, 38, 39, 40, 41, 42, 43, 44, 45, 46, 47, 48, 49, 50] (by decide +kernel) (by decide +kernel)
set_option maxRecDepth 20000 in
theorem gX2_gets_X2_getter : GoodIn wsX2_gets (wsV RX2 85 RX2 yX2_getter wsX2_getter) := goodIn_app (goodIn_of _ (by decide +kernel)) ggX2_gets_X2_getter
theorem dX2_gets_0 : decode cX2_gets 0 = .ok (.aload_n 0, 1) := by decide +kernel
theorem dX2_gets_1 : decode cX2_gets 1 = .ok (.iconst 0, 1) := by decide +kernel
theorem dX2_gets_2 : decode cX2_gets 2 = .ok (.putfield 38, 3) := by decide +kernel
theorem dX2_gets_5 : decode cX2_gets 5 = .ok (.aload_n 0, 1) := by decide +kernel
theorem dX2_gets_6 : decode cX2_gets 6 = .ok (.iload_n 1, 1) := by decide +kernel
theorem dX2_gets_7 : decode cX2_gets 7 = .ok (.iload_n 2, 1) := by decide +kernel
theorem dX2_gets_8 : decode cX2_gets 8 = .ok (.iload_n 3, 1) := by decide +kernel
theorem dX2_gets_9 : decode cX2_gets 9 = .ok (.invokevirtual 89, 3) := by decide +kernel
theorem dX2_gets_12 : decode cX2_gets 12 = .ok (.ifCond .eq 10, 3) := by decide +kernel
theorem dX2_gets_15 : decode cX2_gets 15 = .ok (.aload_n 0, 1) := by decide +kernel
theorem dX2_gets_16 : decode cX2_gets 16 = .ok (.invokevirtual 85, 3) := by decide +kernel
theorem dX2_gets_19 : decode cX2_gets 19 = .ok (.goto 4, 3) := by decide +kernel
theorem dX2_gets_22 : decode cX2_gets 22 = .ok (.iconst (-1), 1) := by decide +kernel
theorem dX2_gets_23 : decode cX2_gets 23 = .ok (.ireturn, 1) := by decide +kernel
set_option maxRecDepth 20000 in
theorem ggX2_pays_X2_isPlaces : GoodIn wsX2_pays wsX2_isPlaces := goodIn_r _ [6, 7, 8, 9, 10, 11, 5, 12, 13, 14, 15, 16, 45, 46, 47, 48, 49, 50, 51, 52, 53, 54, 55, 56, 57, 58] (by decide +kernel) (by decide +kernel)
set_option maxRecDepth 20000 in
theorem gX2_pays_X2_isPlaces : GoodIn wsX2_pays (wsV RX2 89 RX2 yX2_isPlaces wsX2_isPlaces) := goodIn_app (goodIn_of _ (by decide +kernel)) ggX2_pays_X2_isPlaces
set_option maxRecDepth 20000 in
theorem ggX2_pays_X2_isBuyer : GoodIn wsX2_pays wsX2_isBuyer := goodIn_r _ [20, 8, 14, 15, 5, 16, 45, 46, 47, 48, 49, 50, 51, 52, 53, 54, 55, 56, 57, 58] (by decide +kernel) (by decide +kernel)
set_option maxRecDepth 20000 in
theorem gX2_pays_X2_isBuyer : GoodIn wsX2_pays (wsV RX2 45 RX2 yX2_isBuyer wsX2_isBuyer) := goodIn_app (goodIn_of _ (by decide +kernel)) ggX2_pays_X2_isBuyer
set_option maxRecDepth 20000 in
theorem ggX2_pays_X2_paid : GoodIn wsX2_pays wsX2_paid := goodIn_r _ [24, 7, 25, 26, 27, 28, 5, 29, 8, 30, 31, 32, 33, 34, 35, 13, 36, 37, 38, 39, 40, 41, 42, 43, 44, 45, 46, 47, 48, 49, 50, 51, 52, 53, 54, 55, 56, 57, 58] (by decide +kernel) (by decide +kernel)
set_option maxRecDepth 20000 in
theorem gX2_pays_X2_paid : GoodIn wsX2_pays (wsV RX2 92 RX2 yX2_paid wsX2_paid) := goodIn_app (goodIn_of _ (by decide +kernel)) ggX2_pays_X2_paid
theorem dX2_pays_0 : decode cX2_pays 0 = .ok (.aload_n 0, 1) := by decide +kernel
theorem dX2_pays_1 : decode cX2_pays 1 = .ok (.iconst 0, 1) := by decide +kernel
theorem dX2_pays_2 : decode cX2_pays 2 = .ok (.putfield 38, 3) := by decide +kernel
theorem dX2_pays_5 : decode cX2_pays 5 = .ok (.aload_n 0, 1) := by decide +kernel
theorem dX2_pays_6 : decode cX2_pays 6 = .ok (.iload_n 1, 1) := by decide +kernel
theorem dX2_pays_7 : decode cX2_pays 7 = .ok (.iload_n 2, 1) := by decide +kernel
theorem dX2_pays_8 : decode cX2_pays 8 = .ok (.iload_n 3, 1) := by decide +kernel
theorem dX2_pays_9 : decode cX2_pays 9 = .ok (.invokevirtual 89, 3) := by decide +kernel
theorem dX2_pays_12 : decode cX2_pays 12 = .ok (.ifCond .eq 21, 3) := by decide +kernel
theorem dX2_pays_15 : decode cX2_pays 15 = .ok (.aload_n 0, 1) := by decide +kernel
theorem dX2_pays_16 : decode cX2_pays 16 = .ok (.iload 4, 2) := by decide +kernel
theorem dX2_pays_18 : decode cX2_pays 18 = .ok (.invokevirtual 45, 3) := by decide +kernel
theorem dX2_pays_21 : decode cX2_pays 21 = .ok (.ifCond .eq 12, 3) := by decide +kernel
theorem dX2_pays_24 : decode cX2_pays 24 = .ok (.aload_n 0, 1) := by decide +kernel
theorem dX2_pays_25 : decode cX2_pays 25 = .ok (.iload 4, 2) := by decide +kernel
theorem dX2_pays_27 : decode cX2_pays 27 = .ok (.invokevirtual 92, 3) := by decide +kernel
theorem dX2_pays_30 : decode cX2_pays 30 = .ok (.goto 4, 3) := by decide +kernel
theorem dX2_pays_33 : decode cX2_pays 33 = .ok (.iconst (-1), 1) := by decide +kernel
theorem dX2_pays_34 : decode cX2_pays 34 = .ok (.ireturn, 1) := by decide +kernel
set_option maxRecDepth 20000 in
theorem ggX2_gain_X2_isPlaces : GoodIn wsX2_gain wsX2_isPlaces := goodIn_r _ [9, 4, 10, 11, 12, 13, 8, 14, 15, 16, 17, 18, 46, 47, 48, 49, 50, 51, 52, 53, 54, 55, 56, 57, 58, 59] (by decide +kernel) (by decide +kernel)
set_option maxRecDepth 20000 in
theorem gX2_gain_X2_isPlaces : GoodIn wsX2_gain (wsV RX2 89 RX2 yX2_isPlaces wsX2_isPlaces) := goodIn_app (goodIn_of _ (by decide +kernel)) ggX2_gain_X2_isPlaces
set_option maxRecDepth 20000 in
theorem ggX2_gain_X2_isBuyer : GoodIn wsX2_gain wsX2_isBuyer := goodIn_r _ [22, 10, 16, 17, 8, 18, 46, 47, 48, 49, 50, 51, 52, 53, 54, 55, 56, 57, 58, 59] (by decide +kernel) (by decide +kernel)
set_option maxRecDepth 20000 in
theorem gX2_gain_X2_isBuyer : GoodIn wsX2_gain (wsV RX2 45 RX2 yX2_isBuyer wsX2_isBuyer) := goodIn_app (goodIn_of _ (by decide +kernel)) ggX2_gain_X2_isBuyer
set_option maxRecDepth 20000 in
theorem ggX2_gain_X2_isPlace : GoodIn wsX2_gain wsX2_isPlace := goodIn_r _ [14, 15, 16, 17, 8, 18, 46, 47, 48, 49, 50, 51, 52, 53, 54, 55, 56, 57, 58, 59] (by decide +kernel) (by decide +kernel)
set_option maxRecDepth 20000 in
theorem gX2_gain_X2_isPlace : GoodIn wsX2_gain (wsV RX2 56 RX2 yX2_isPlace wsX2_isPlace) := goodIn_app (goodIn_of _ (by decide +kernel)) ggX2_gain_X2_isPlace
set_option maxRecDepth 20000 in
theorem ggX2_gain_X2_getter : GoodIn wsX2_gain wsX2_getter := goodIn_r _ [26, 10, 4, 27, 28, 29, 30, 31, 8, 32, 15, 33, 34, 35, 36, 3, 37, 38, 39, 40, 41, 46, 47, 48, 49, 50, 51, 52, 53, 54, 55, 56, 57, 58, 59] (by decide +kernel) (by decide +kernel)
set_option maxRecDepth 20000 in
theorem gX2_gain_X2_getter : GoodIn wsX2_gain (wsV RX2 85 RX2 yX2_getter wsX2_getter) := goodIn_app (goodIn_of _ (by decide +kernel)) ggX2_gain_X2_getter
set_option maxRecDepth 20000 in
theorem ggX2_gain_X2_paid : GoodIn wsX2_gain wsX2_paid := goodIn_r _ [45, 4, 3, 23, 24, 25, 8, 26, 10, 27, 28, 29, 30, 31, 32, 15, 33, 34, 35, 36, 37, 38, 39, 40, 41, 46, 47, 48, 49, 50, 51, 52, 53, 54, 55, 56, 57, 58, 59] (by decide +kernel) (by decide +kernel)
set_option maxRecDepth 20000 in
theorem gX2_gain_X2_paid : GoodIn wsX2_gain (wsV RX2 92 RX2 yX2_paid wsX2_paid) := goodIn_app (goodIn_of _ (by decide +kernel)) ggX2_gain_X2_paid
theorem dX2_gain_0 : decode cX2_gain 0 = .ok (.aload_n 0, 1) := by decide +kernel
theorem dX2_gain_1 : decode cX2_gain 1 = .ok (.iconst 0, 1) := by decide +kernel
theorem dX2_gain_2 : decode cX2_gain 2 = .ok (.putfield 38, 3) := by decide +kernel
theorem dX2_gain_5 : decode cX2_gain 5 = .ok (.aload_n 0, 1) := by decide +kernel
theorem dX2_gain_6 : decode cX2_gain 6 = .ok (.iload_n 1, 1) := by decide +kernel
theorem dX2_gain_7 : decode cX2_gain 7 = .ok (.iload_n 2, 1) := by decide +kernel
theorem dX2_gain_8 : decode cX2_gain 8 = .ok (.iload_n 3, 1) := by decide +kernel
theorem dX2_gain_9 : decode cX2_gain 9 = .ok (.invokevirtual 89, 3) := by decide +kernel
theorem dX2_gain_12 : decode cX2_gain 12 = .ok (.ifCond .eq 23, 3) := by decide +kernel
theorem dX2_gain_15 : decode cX2_gain 15 = .ok (.aload_n 0, 1) := by decide +kernel
theorem dX2_gain_16 : decode cX2_gain 16 = .ok (.iload 4, 2) := by decide +kernel
theorem dX2_gain_18 : decode cX2_gain 18 = .ok (.invokevirtual 45, 3) := by decide +kernel
theorem dX2_gain_21 : decode cX2_gain 21 = .ok (.ifCond .eq 14, 3) := by decide +kernel
theorem dX2_gain_24 : decode cX2_gain 24 = .ok (.aload_n 0, 1) := by decide +kernel
theorem dX2_gain_25 : decode cX2_gain 25 = .ok (.iload 4, 2) := by decide +kernel
theorem dX2_gain_27 : decode cX2_gain 27 = .ok (.iload 5, 2) := by decide +kernel
theorem dX2_gain_29 : decode cX2_gain 29 = .ok (.invokevirtual 56, 3) := by decide +kernel
theorem dX2_gain_32 : decode cX2_gain 32 = .ok (.ifCond .ne 7, 3) := by decide +kernel
theorem dX2_gain_35 : decode cX2_gain 35 = .ok (.ldc2_w 75, 3) := by decide +kernel
theorem dX2_gain_38 : decode cX2_gain 38 = .ok (.lreturn, 1) := by decide +kernel
theorem dX2_gain_39 : decode cX2_gain 39 = .ok (.aload_n 0, 1) := by decide +kernel
theorem dX2_gain_40 : decode cX2_gain 40 = .ok (.getfield 17, 3) := by decide +kernel
theorem dX2_gain_43 : decode cX2_gain 43 = .ok (.iconst 5, 1) := by decide +kernel
theorem dX2_gain_44 : decode cX2_gain 44 = .ok (.iload 4, 2) := by decide +kernel
theorem dX2_gain_46 : decode cX2_gain 46 = .ok (.imul, 1) := by decide +kernel
theorem dX2_gain_47 : decode cX2_gain 47 = .ok (.aload_n 0, 1) := by decide +kernel
theorem dX2_gain_48 : decode cX2_gain 48 = .ok (.getfield 26, 3) := by decide +kernel
theorem dX2_gain_51 : decode cX2_gain 51 = .ok (.iload 4, 2) := by decide +kernel
theorem dX2_gain_53 : decode cX2_gain 53 = .ok (.iaload, 1) := by decide +kernel
theorem dX2_gain_54 : decode cX2_gain 54 = .ok (.iadd, 1) := by decide +kernel
theorem dX2_gain_55 : decode cX2_gain 55 = .ok (.iaload, 1) := by decide +kernel
theorem dX2_gain_56 : decode cX2_gain 56 = .ok (.istore 6, 2) := by decide +kernel
theorem dX2_gain_58 : decode cX2_gain 58 = .ok (.aload_n 0, 1) := by decide +kernel
theorem dX2_gain_59 : decode cX2_gain 59 = .ok (.getfield 26, 3) := by decide +kernel
theorem dX2_gain_62 : decode cX2_gain 62 = .ok (.iload 4, 2) := by decide +kernel
theorem dX2_gain_64 : decode cX2_gain 64 = .ok (.iload 5, 2) := by decide +kernel
theorem dX2_gain_66 : decode cX2_gain 66 = .ok (.iastore, 1) := by decide +kernel
theorem dX2_gain_67 : decode cX2_gain 67 = .ok (.aload_n 0, 1) := by decide +kernel
theorem dX2_gain_68 : decode cX2_gain 68 = .ok (.invokevirtual 85, 3) := by decide +kernel
theorem dX2_gain_71 : decode cX2_gain 71 = .ok (.iload 4, 2) := by decide +kernel
theorem dX2_gain_73 : decode cX2_gain 73 = .ok (.if_icmp .ne 16, 3) := by decide +kernel
theorem dX2_gain_76 : decode cX2_gain 76 = .ok (.iload 6, 2) := by decide +kernel
theorem dX2_gain_78 : decode cX2_gain 78 = .ok (.aload_n 0, 1) := by decide +kernel
theorem dX2_gain_79 : decode cX2_gain 79 = .ok (.iload 4, 2) := by decide +kernel
theorem dX2_gain_81 : decode cX2_gain 81 = .ok (.invokevirtual 92, 3) := by decide +kernel
theorem dX2_gain_84 : decode cX2_gain 84 = .ok (.isub, 1) := by decide +kernel
theorem dX2_gain_85 : decode cX2_gain 85 = .ok (.i2l, 1) := by decide +kernel
theorem dX2_gain_86 : decode cX2_gain 86 = .ok (.goto 4, 3) := by decide +kernel
theorem dX2_gain_89 : decode cX2_gain 89 = .ok (.lconst 0, 1) := by decide +kernel
theorem dX2_gain_90 : decode cX2_gain 90 = .ok (.lreturn, 1) := by decide +kernel
set_option maxRecDepth 20000 in
theorem ggX2_all_X2_share : GoodIn wsX2_all wsX2_share := goodIn_r _ [6, 7, 8, 9, 10, 11, 12, 13, 14, 15, 16, 17, 18, 19, 20, 21, 22] (by decide +kernel) (by decide +kernel)
set_option maxRecDepth 20000 in
theorem gX2_all_X2_share : GoodIn wsX2_all (wsV RX2 49 RX2 yX2_share wsX2_share) := goodIn_app (goodIn_of _ (by decide +kernel)) ggX2_all_X2_share
theorem dX2_all_0 : decode cX2_all 0 = .ok (.iconst 1, 1) := by decide +kernel
theorem dX2_all_1 : decode cX2_all 1 = .ok (.istore_n 1, 1) := by decide +kernel
theorem dX2_all_2 : decode cX2_all 2 = .ok (.iconst 0, 1) := by decide +kernel
theorem dX2_all_3 : decode cX2_all 3 = .ok (.istore_n 2, 1) := by decide +kernel
theorem dX2_all_4 : decode cX2_all 4 = .ok (.iload_n 2, 1) := by decide +kernel
theorem dX2_all_5 : decode cX2_all 5 = .ok (.aload_n 0, 1) := by decide +kernel
theorem dX2_all_6 : decode cX2_all 6 = .ok (.getfield 7, 3) := by decide +kernel
theorem dX2_all_9 : decode cX2_all 9 = .ok (.if_icmp .ge 18, 3) := by decide +kernel
theorem dX2_all_12 : decode cX2_all 12 = .ok (.iload_n 1, 1) := by decide +kernel
theorem dX2_all_13 : decode cX2_all 13 = .ok (.aload_n 0, 1) := by decide +kernel
theorem dX2_all_14 : decode cX2_all 14 = .ok (.iload_n 2, 1) := by decide +kernel
theorem dX2_all_15 : decode cX2_all 15 = .ok (.iconst 0, 1) := by decide +kernel
theorem dX2_all_16 : decode cX2_all 16 = .ok (.invokevirtual 49, 3) := by decide +kernel
theorem dX2_all_19 : decode cX2_all 19 = .ok (.imul, 1) := by decide +kernel
theorem dX2_all_20 : decode cX2_all 20 = .ok (.istore_n 1, 1) := by decide +kernel
theorem dX2_all_21 : decode cX2_all 21 = .ok (.iinc 2 1, 3) := by decide +kernel
theorem dX2_all_24 : decode cX2_all 24 = .ok (.goto (-20), 3) := by decide +kernel
theorem dX2_all_27 : decode cX2_all 27 = .ok (.iload_n 1, 1) := by decide +kernel
theorem dX2_all_28 : decode cX2_all 28 = .ok (.ireturn, 1) := by decide +kernel
