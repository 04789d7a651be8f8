set_option maxRecDepth 20000 in
theorem ggX1_buyers_X0_begin : GoodIn wsX1_buyers wsX0_begin := goodIn_r _ [9, 10, 11, 12, 13, 14, 15, 8, 16, 17, 18, 19, 20, 21, 22, 23, 24, 25, 26, 27, 28, 29, 30, 31, 32, 33, 34, 35, 36, 37, 38, 47, 48, 49, 50, 51] (by decide +kernel) (by decide +kernel)
set_option maxRecDepth 20000 in
theorem gX1_buyers_X0_begin : GoodIn wsX1_buyers (wsV RX1 40 RX0 yX0_begin wsX0_begin) := goodIn_app (goodIn_of _ (by decide +kernel)) ggX1_buyers_X0_begin
theorem dX1_buyers_0 : decode cX1_buyers 0 = .ok (.iload_n 1, 1) := by decide +kernel
theorem dX1_buyers_1 : decode cX1_buyers 1 = .ok (.iconst 1, 1) := by decide +kernel
theorem dX1_buyers_2 : decode cX1_buyers 2 = .ok (.if_icmp .lt 8, 3) := by decide +kernel
theorem dX1_buyers_5 : decode cX1_buyers 5 = .ok (.iload_n 1, 1) := by decide +kernel
theorem dX1_buyers_6 : decode cX1_buyers 6 = .ok (.iconst 3, 1) := by decide +kernel
theorem dX1_buyers_7 : decode cX1_buyers 7 = .ok (.if_icmp .le 5, 3) := by decide +kernel
theorem dX1_buyers_10 : decode cX1_buyers 10 = .ok (.iconst (-1), 1) := by decide +kernel
theorem dX1_buyers_11 : decode cX1_buyers 11 = .ok (.ireturn, 1) := by decide +kernel
theorem dX1_buyers_12 : decode cX1_buyers 12 = .ok (.aload_n 0, 1) := by decide +kernel
theorem dX1_buyers_13 : decode cX1_buyers 13 = .ok (.getfield 26, 3) := by decide +kernel
theorem dX1_buyers_16 : decode cX1_buyers 16 = .ok (.istore_n 2, 1) := by decide +kernel
theorem dX1_buyers_17 : decode cX1_buyers 17 = .ok (.aload_n 0, 1) := by decide +kernel
theorem dX1_buyers_18 : decode cX1_buyers 18 = .ok (.iload_n 1, 1) := by decide +kernel
theorem dX1_buyers_19 : decode cX1_buyers 19 = .ok (.putfield 26, 3) := by decide +kernel
theorem dX1_buyers_22 : decode cX1_buyers 22 = .ok (.aload_n 0, 1) := by decide +kernel
theorem dX1_buyers_23 : decode cX1_buyers 23 = .ok (.getfield 10, 3) := by decide +kernel
theorem dX1_buyers_26 : decode cX1_buyers 26 = .ok (.iconst 0, 1) := by decide +kernel
theorem dX1_buyers_27 : decode cX1_buyers 27 = .ok (.iconst 1, 1) := by decide +kernel
theorem dX1_buyers_28 : decode cX1_buyers 28 = .ok (.invokevirtual 40, 3) := by decide +kernel
theorem dX1_buyers_31 : decode cX1_buyers 31 = .ok (.aload_n 0, 1) := by decide +kernel
theorem dX1_buyers_32 : decode cX1_buyers 32 = .ok (.getfield 16, 3) := by decide +kernel
theorem dX1_buyers_35 : decode cX1_buyers 35 = .ok (.iconst 0, 1) := by decide +kernel
theorem dX1_buyers_36 : decode cX1_buyers 36 = .ok (.iconst 1, 1) := by decide +kernel
theorem dX1_buyers_37 : decode cX1_buyers 37 = .ok (.invokevirtual 40, 3) := by decide +kernel
theorem dX1_buyers_40 : decode cX1_buyers 40 = .ok (.aload_n 0, 1) := by decide +kernel
theorem dX1_buyers_41 : decode cX1_buyers 41 = .ok (.getfield 19, 3) := by decide +kernel
theorem dX1_buyers_44 : decode cX1_buyers 44 = .ok (.iconst 0, 1) := by decide +kernel
theorem dX1_buyers_45 : decode cX1_buyers 45 = .ok (.iconst 1, 1) := by decide +kernel
theorem dX1_buyers_46 : decode cX1_buyers 46 = .ok (.invokevirtual 40, 3) := by decide +kernel
theorem dX1_buyers_49 : decode cX1_buyers 49 = .ok (.iload_n 2, 1) := by decide +kernel
theorem dX1_buyers_50 : decode cX1_buyers 50 = .ok (.ireturn, 1) := by decide +kernel
set_option maxRecDepth 20000 in
theorem ggX1_book_X1_isBuyer : GoodIn wsX1_book wsX1_isBuyer := goodIn_r _ [5, 6, 59, 60, 61, 62, 63, 64, 65, 66] (by decide +kernel) (by decide +kernel)
set_option maxRecDepth 20000 in
theorem gX1_book_X1_isBuyer : GoodIn wsX1_book (wsV RX1 44 RX1 yX1_isBuyer wsX1_isBuyer) := goodIn_app (goodIn_of _ (by decide +kernel)) ggX1_book_X1_isBuyer
set_option maxRecDepth 20000 in
theorem ggX1_book_X1_isWorth : GoodIn wsX1_book wsX1_isWorth := goodIn_r _ [9] (by decide +kernel) (by decide +kernel)
set_option maxRecDepth 20000 in
theorem gX1_book_X1_isWorth : GoodIn wsX1_book (va_wsS RX1 48 yX1_isWorth wsX1_isWorth) := goodIn_app (goodIn_of _ (by decide +kernel)) ggX1_book_X1_isWorth
set_option maxRecDepth 20000 in
theorem ggX1_book_X1_isWeight : GoodIn wsX1_book wsX1_isWeight := goodIn_r _ [12] (by decide +kernel) (by decide +kernel)
set_option maxRecDepth 20000 in
theorem gX1_book_X1_isWeight : GoodIn wsX1_book (va_wsS RX1 51 yX1_isWeight wsX1_isWeight) := goodIn_app (goodIn_of _ (by decide +kernel)) ggX1_book_X1_isWeight
set_option maxRecDepth 20000 in
theorem ggX1_book_X1_bookOf : GoodIn wsX1_book wsX1_bookOf := goodIn_r _ [16, 17, 18, 19, 59, 60, 61, 62, 63, 64, 65, 66] (by decide +kernel) (by decide +kernel)
set_option maxRecDepth 20000 in
theorem gX1_book_X1_bookOf : GoodIn wsX1_book (wsV RX1 54 RX1 yX1_bookOf wsX1_bookOf) := goodIn_app (goodIn_of _ (by decide +kernel)) ggX1_book_X1_bookOf
set_option maxRecDepth 20000 in
theorem ggX1_book_X0_begin : GoodIn wsX1_book wsX0_begin := goodIn_r _ [24, 25, 26, 27, 28, 29, 30, 23, 31, 32, 33, 34, 35, 36, 37, 38, 39, 40, 41, 42, 43, 44, 45, 46, 47, 48, 49, 50, 51, 52, 53, 54, 55, 56, 57, 58] (by decide +kernel) (by decide +kernel)
set_option maxRecDepth 20000 in
theorem gX1_book_X0_begin : GoodIn wsX1_book (wsV RX1 40 RX0 yX0_begin wsX0_begin) := goodIn_app (goodIn_of _ (by decide +kernel)) ggX1_book_X0_begin
theorem dX1_book_0 : decode cX1_book 0 = .ok (.aload_n 0, 1) := by decide +kernel
theorem dX1_book_1 : decode cX1_book 1 = .ok (.iload_n 1, 1) := by decide +kernel
theorem dX1_book_2 : decode cX1_book 2 = .ok (.invokevirtual 44, 3) := by decide +kernel
theorem dX1_book_5 : decode cX1_book 5 = .ok (.ifCond .eq 17, 3) := by decide +kernel
theorem dX1_book_8 : decode cX1_book 8 = .ok (.iload_n 2, 1) := by decide +kernel
theorem dX1_book_9 : decode cX1_book 9 = .ok (.invokestatic 48, 3) := by decide +kernel
theorem dX1_book_12 : decode cX1_book 12 = .ok (.ifCond .eq 10, 3) := by decide +kernel
theorem dX1_book_15 : decode cX1_book 15 = .ok (.iload_n 3, 1) := by decide +kernel
theorem dX1_book_16 : decode cX1_book 16 = .ok (.invokestatic 51, 3) := by decide +kernel
theorem dX1_book_19 : decode cX1_book 19 = .ok (.ifCond .ne 5, 3) := by decide +kernel
theorem dX1_book_22 : decode cX1_book 22 = .ok (.iconst (-1), 1) := by decide +kernel
theorem dX1_book_23 : decode cX1_book 23 = .ok (.ireturn, 1) := by decide +kernel
theorem dX1_book_24 : decode cX1_book 24 = .ok (.aload_n 0, 1) := by decide +kernel
theorem dX1_book_25 : decode cX1_book 25 = .ok (.iload_n 1, 1) := by decide +kernel
theorem dX1_book_26 : decode cX1_book 26 = .ok (.invokevirtual 54, 3) := by decide +kernel
theorem dX1_book_29 : decode cX1_book 29 = .ok (.astore 4, 2) := by decide +kernel
theorem dX1_book_31 : decode cX1_book 31 = .ok (.aload 4, 2) := by decide +kernel
theorem dX1_book_33 : decode cX1_book 33 = .ok (.iload_n 2, 1) := by decide +kernel
theorem dX1_book_34 : decode cX1_book 34 = .ok (.iload_n 3, 1) := by decide +kernel
theorem dX1_book_35 : decode cX1_book 35 = .ok (.invokevirtual 40, 3) := by decide +kernel
theorem dX1_book_38 : decode cX1_book 38 = .ok (.aload 4, 2) := by decide +kernel
theorem dX1_book_40 : decode cX1_book 40 = .ok (.getfield 58, 3) := by decide +kernel
theorem dX1_book_43 : decode cX1_book 43 = .ok (.ireturn, 1) := by decide +kernel
set_option maxRecDepth 20000 in
theorem ggX1_more_X1_isBuyer : GoodIn wsX1_more wsX1_isBuyer := goodIn_r _ [5, 6, 60, 61, 62, 63, 64, 65, 66, 67] (by decide +kernel) (by decide +kernel)
set_option maxRecDepth 20000 in
theorem gX1_more_X1_isBuyer : GoodIn wsX1_more (wsV RX1 44 RX1 yX1_isBuyer wsX1_isBuyer) := goodIn_app (goodIn_of _ (by decide +kernel)) ggX1_more_X1_isBuyer
set_option maxRecDepth 20000 in
theorem ggX1_more_X1_isWorth : GoodIn wsX1_more wsX1_isWorth := goodIn_r _ [9] (by decide +kernel) (by decide +kernel)
set_option maxRecDepth 20000 in
theorem gX1_more_X1_isWorth : GoodIn wsX1_more (va_wsS RX1 48 yX1_isWorth wsX1_isWorth) := goodIn_app (goodIn_of _ (by decide +kernel)) ggX1_more_X1_isWorth
set_option maxRecDepth 20000 in
theorem ggX1_more_X1_isWeight : GoodIn wsX1_more wsX1_isWeight := goodIn_r _ [12] (by decide +kernel) (by decide +kernel)
set_option maxRecDepth 20000 in
theorem gX1_more_X1_isWeight : GoodIn wsX1_more (va_wsS RX1 51 yX1_isWeight wsX1_isWeight) := goodIn_app (goodIn_of _ (by decide +kernel)) ggX1_more_X1_isWeight
set_option maxRecDepth 20000 in
theorem ggX1_more_X1_bookOf : GoodIn wsX1_more wsX1_bookOf := goodIn_r _ [16, 17, 18, 19, 60, 61, 62, 63, 64, 65, 66, 67] (by decide +kernel) (by decide +kernel)
set_option maxRecDepth 20000 in
theorem gX1_more_X1_bookOf : GoodIn wsX1_more (wsV RX1 54 RX1 yX1_bookOf wsX1_bookOf) := goodIn_app (goodIn_of _ (by decide +kernel)) ggX1_more_X1_bookOf
set_option maxRecDepth 20000 in
theorem ggX1_more_X0_worthAt : GoodIn wsX1_more wsX0_worthAt := goodIn_r _ [24, 25, 26, 55, 56, 57, 58, 59] (by decide +kernel) (by decide +kernel)
set_option maxRecDepth 20000 in
theorem gX1_more_X0_worthAt : GoodIn wsX1_more (wsV RX1 61 RX0 yX0_worthAt wsX0_worthAt) := goodIn_app (goodIn_of _ (by decide +kernel)) ggX1_more_X0_worthAt
set_option maxRecDepth 20000 in
theorem ggX1_more_X0_add : GoodIn wsX1_more wsX0_add := goodIn_r _ [30, 25, 26, 31, 32, 33, 34, 23, 35, 36, 37, 38, 39, 40, 41, 42, 43, 44, 45, 46, 21, 22, 24, 47, 48, 49, 50, 51, 52, 53, 54, 55, 56, 57, 58, 59] (by decide +kernel) (by decide +kernel)
set_option maxRecDepth 20000 in
theorem gX1_more_X0_add : GoodIn wsX1_more (wsV RX1 65 RX0 yX0_add wsX0_add) := goodIn_app (goodIn_of _ (by decide +kernel)) ggX1_more_X0_add
theorem dX1_more_0 : decode cX1_more 0 = .ok (.aload_n 0, 1) := by decide +kernel
theorem dX1_more_1 : decode cX1_more 1 = .ok (.iload_n 1, 1) := by decide +kernel
theorem dX1_more_2 : decode cX1_more 2 = .ok (.invokevirtual 44, 3) := by decide +kernel
theorem dX1_more_5 : decode cX1_more 5 = .ok (.ifCond .eq 17, 3) := by decide +kernel
theorem dX1_more_8 : decode cX1_more 8 = .ok (.iload_n 2, 1) := by decide +kernel
theorem dX1_more_9 : decode cX1_more 9 = .ok (.invokestatic 48, 3) := by decide +kernel
theorem dX1_more_12 : decode cX1_more 12 = .ok (.ifCond .eq 10, 3) := by decide +kernel
theorem dX1_more_15 : decode cX1_more 15 = .ok (.iload_n 3, 1) := by decide +kernel
theorem dX1_more_16 : decode cX1_more 16 = .ok (.invokestatic 51, 3) := by decide +kernel
theorem dX1_more_19 : decode cX1_more 19 = .ok (.ifCond .ne 5, 3) := by decide +kernel
theorem dX1_more_22 : decode cX1_more 22 = .ok (.iconst (-1), 1) := by decide +kernel
theorem dX1_more_23 : decode cX1_more 23 = .ok (.ireturn, 1) := by decide +kernel
theorem dX1_more_24 : decode cX1_more 24 = .ok (.aload_n 0, 1) := by decide +kernel
theorem dX1_more_25 : decode cX1_more 25 = .ok (.iload_n 1, 1) := by decide +kernel
theorem dX1_more_26 : decode cX1_more 26 = .ok (.invokevirtual 54, 3) := by decide +kernel
theorem dX1_more_29 : decode cX1_more 29 = .ok (.astore 4, 2) := by decide +kernel
theorem dX1_more_31 : decode cX1_more 31 = .ok (.iload_n 2, 1) := by decide +kernel
theorem dX1_more_32 : decode cX1_more 32 = .ok (.aload 4, 2) := by decide +kernel
theorem dX1_more_34 : decode cX1_more 34 = .ok (.aload 4, 2) := by decide +kernel
theorem dX1_more_36 : decode cX1_more 36 = .ok (.getfield 58, 3) := by decide +kernel
theorem dX1_more_39 : decode cX1_more 39 = .ok (.iconst 1, 1) := by decide +kernel
theorem dX1_more_40 : decode cX1_more 40 = .ok (.isub, 1) := by decide +kernel
theorem dX1_more_41 : decode cX1_more 41 = .ok (.invokevirtual 61, 3) := by decide +kernel
theorem dX1_more_44 : decode cX1_more 44 = .ok (.if_icmp .gt 5, 3) := by decide +kernel
theorem dX1_more_47 : decode cX1_more 47 = .ok (.iconst (-1), 1) := by decide +kernel
theorem dX1_more_48 : decode cX1_more 48 = .ok (.ireturn, 1) := by decide +kernel
theorem dX1_more_49 : decode cX1_more 49 = .ok (.aload 4, 2) := by decide +kernel
theorem dX1_more_51 : decode cX1_more 51 = .ok (.getfield 58, 3) := by decide +kernel
theorem dX1_more_54 : decode cX1_more 54 = .ok (.iconst 5, 1) := by decide +kernel
theorem dX1_more_55 : decode cX1_more 55 = .ok (.if_icmp .lt 6, 3) := by decide +kernel
theorem dX1_more_58 : decode cX1_more 58 = .ok (.bipush (-3), 2) := by decide +kernel
theorem dX1_more_60 : decode cX1_more 60 = .ok (.ireturn, 1) := by decide +kernel
theorem dX1_more_61 : decode cX1_more 61 = .ok (.aload 4, 2) := by decide +kernel
theorem dX1_more_63 : decode cX1_more 63 = .ok (.iload_n 2, 1) := by decide +kernel
theorem dX1_more_64 : decode cX1_more 64 = .ok (.iload_n 3, 1) := by decide +kernel
theorem dX1_more_65 : decode cX1_more 65 = .ok (.invokevirtual 65, 3) := by decide +kernel
theorem dX1_more_68 : decode cX1_more 68 = .ok (.aload 4, 2) := by decide +kernel
theorem dX1_more_70 : decode cX1_more 70 = .ok (.getfield 58, 3) := by decide +kernel
theorem dX1_more_73 : decode cX1_more 73 = .ok (.ireturn, 1) := by decide +kernel
set_option maxRecDepth 20000 in
theorem ggX1_about_X1_isBuyer : GoodIn wsX1_about wsX1_isBuyer := goodIn_r _ [5, 6, 44, 45, 46, 47, 48, 49, 50, 51] (by decide +kernel) (by decide +kernel)
set_option maxRecDepth 20000 in
theorem gX1_about_X1_isBuyer : GoodIn wsX1_about (wsV RX1 44 RX1 yX1_isBuyer wsX1_isBuyer) := goodIn_app (goodIn_of _ (by decide +kernel)) ggX1_about_X1_isBuyer
set_option maxRecDepth 20000 in
theorem ggX1_about_X1_bookOf : GoodIn wsX1_about wsX1_bookOf := goodIn_r _ [10, 11, 12, 13, 44, 45, 46, 47, 48, 49, 50, 51] (by decide +kernel) (by decide +kernel)
set_option maxRecDepth 20000 in
theorem gX1_about_X1_bookOf : GoodIn wsX1_about (wsV RX1 54 RX1 yX1_bookOf wsX1_bookOf) := goodIn_app (goodIn_of _ (by decide +kernel)) ggX1_about_X1_bookOf
set_option maxRecDepth 20000 in
theorem ggX1_about_X0_has : GoodIn wsX1_about wsX0_has := goodIn_r _ [18, 19, 52, 53, 54, 55, 56] (by decide +kernel) (by decide +kernel)
set_option maxRecDepth 20000 in
theorem gX1_about_X0_has : GoodIn wsX1_about (wsV RX1 68 RX0 yX0_has wsX0_has) := goodIn_app (goodIn_of _ (by decide +kernel)) ggX1_about_X0_has
set_option maxRecDepth 20000 in
theorem ggX1_about_X0_worthAt : GoodIn wsX1_about wsX0_worthAt := goodIn_r _ [23, 19, 24, 52, 53, 54, 55, 56] (by decide +kernel) (by decide +kernel)
set_option maxRecDepth 20000 in
theorem gX1_about_X0_worthAt : GoodIn wsX1_about (wsV RX1 61 RX0 yX0_worthAt wsX0_worthAt) := goodIn_app (goodIn_of _ (by decide +kernel)) ggX1_about_X0_worthAt
set_option maxRecDepth 20000 in
theorem ggX1_about_X0_weightAt : GoodIn wsX1_about wsX0_weightAt := goodIn_r _ [28, 19, 29, 52, 53, 54, 55, 56] (by decide +kernel) (by decide +kernel)
set_option maxRecDepth 20000 in
theorem gX1_about_X0_weightAt : GoodIn wsX1_about (wsV RX1 71 RX0 yX0_weightAt wsX0_weightAt) := goodIn_app (goodIn_of _ (by decide +kernel)) ggX1_about_X0_weightAt
set_option maxRecDepth 20000 in
theorem ggX1_about_X0_shareAt : GoodIn wsX1_about wsX0_shareAt := goodIn_r _ [33, 34, 35, 36, 37, 19, 29, 52, 53, 54, 55, 56] (by decide +kernel) (by decide +kernel)
set_option maxRecDepth 20000 in
theorem gX1_about_X0_shareAt : GoodIn wsX1_about (wsV RX1 74 RX0 yX0_shareAt wsX0_shareAt) := goodIn_app (goodIn_of _ (by decide +kernel)) ggX1_about_X0_shareAt
set_option maxRecDepth 20000 in
theorem ggX1_about_X0_takeAt : GoodIn wsX1_about wsX0_takeAt := goodIn_r _ [41, 42, 21, 22, 17, 23, 19, 24, 43, 31, 32, 33, 34, 35, 36, 37, 29, 52, 53, 54, 55, 56] (by decide +kernel) (by decide +kernel)
set_option maxRecDepth 20000 in
theorem gX1_about_X0_takeAt : GoodIn wsX1_about (wsV RX1 77 RX0 yX0_takeAt wsX0_takeAt) := goodIn_app (goodIn_of _ (by decide +kernel)) ggX1_about_X0_takeAt
theorem dX1_about_0 : decode cX1_about 0 = .ok (.aload_n 0, 1) := by decide +kernel
theorem dX1_about_1 : decode cX1_about 1 = .ok (.iload_n 1, 1) := by decide +kernel
theorem dX1_about_2 : decode cX1_about 2 = .ok (.invokevirtual 44, 3) := by decide +kernel
theorem dX1_about_5 : decode cX1_about 5 = .ok (.ifCond .eq 15, 3) := by decide +kernel
theorem dX1_about_8 : decode cX1_about 8 = .ok (.aload_n 0, 1) := by decide +kernel
theorem dX1_about_9 : decode cX1_about 9 = .ok (.iload_n 1, 1) := by decide +kernel
theorem dX1_about_10 : decode cX1_about 10 = .ok (.invokevirtual 54, 3) := by decide +kernel
theorem dX1_about_13 : decode cX1_about 13 = .ok (.iload_n 2, 1) := by decide +kernel
theorem dX1_about_14 : decode cX1_about 14 = .ok (.invokevirtual 68, 3) := by decide +kernel
theorem dX1_about_17 : decode cX1_about 17 = .ok (.ifCond .ne 5, 3) := by decide +kernel
theorem dX1_about_20 : decode cX1_about 20 = .ok (.iconst (-1), 1) := by decide +kernel
theorem dX1_about_21 : decode cX1_about 21 = .ok (.ireturn, 1) := by decide +kernel
theorem dX1_about_22 : decode cX1_about 22 = .ok (.aload_n 0, 1) := by decide +kernel
theorem dX1_about_23 : decode cX1_about 23 = .ok (.iload_n 1, 1) := by decide +kernel
theorem dX1_about_24 : decode cX1_about 24 = .ok (.invokevirtual 54, 3) := by decide +kernel
theorem dX1_about_27 : decode cX1_about 27 = .ok (.astore 4, 2) := by decide +kernel
theorem dX1_about_29 : decode cX1_about 29 = .ok (.iload_n 3, 1) := by decide +kernel
theorem dX1_about_30 : decode cX1_about 30 = .ok (.tableswitch 58 0 3 #[30, 37, 44, 51], 30) := by decide +kernel
theorem dX1_about_60 : decode cX1_about 60 = .ok (.aload 4, 2) := by decide +kernel
theorem dX1_about_62 : decode cX1_about 62 = .ok (.iload_n 2, 1) := by decide +kernel
theorem dX1_about_63 : decode cX1_about 63 = .ok (.invokevirtual 61, 3) := by decide +kernel
theorem dX1_about_66 : decode cX1_about 66 = .ok (.ireturn, 1) := by decide +kernel
theorem dX1_about_67 : decode cX1_about 67 = .ok (.aload 4, 2) := by decide +kernel
theorem dX1_about_69 : decode cX1_about 69 = .ok (.iload_n 2, 1) := by decide +kernel
theorem dX1_about_70 : decode cX1_about 70 = .ok (.invokevirtual 71, 3) := by decide +kernel
theorem dX1_about_73 : decode cX1_about 73 = .ok (.ireturn, 1) := by decide +kernel
theorem dX1_about_74 : decode cX1_about 74 = .ok (.aload 4, 2) := by decide +kernel
theorem dX1_about_76 : decode cX1_about 76 = .ok (.iload_n 2, 1) := by decide +kernel
theorem dX1_about_77 : decode cX1_about 77 = .ok (.invokevirtual 74, 3) := by decide +kernel
theorem dX1_about_80 : decode cX1_about 80 = .ok (.ireturn, 1) := by decide +kernel
theorem dX1_about_81 : decode cX1_about 81 = .ok (.aload 4, 2) := by decide +kernel
theorem dX1_about_83 : decode cX1_about 83 = .ok (.iload_n 2, 1) := by decide +kernel
theorem dX1_about_84 : decode cX1_about 84 = .ok (.invokevirtual 77, 3) := by decide +kernel
theorem dX1_about_87 : decode cX1_about 87 = .ok (.ireturn, 1) := by decide +kernel
theorem dX1_about_88 : decode cX1_about 88 = .ok (.iconst (-1), 1) := by decide +kernel
theorem dX1_about_89 : decode cX1_about 89 = .ok (.ireturn, 1) := by decide +kernel
set_option maxRecDepth 20000 in
theorem ggX1_whole_X1_isBuyer : GoodIn wsX1_whole wsX1_isBuyer := goodIn_r _ [5, 6, 47, 48, 49, 50, 51, 52, 53, 54] (by decide +kernel) (by decide +kernel)
set_option maxRecDepth 20000 in
theorem gX1_whole_X1_isBuyer : GoodIn wsX1_whole (wsV RX1 44 RX1 yX1_isBuyer wsX1_isBuyer) := goodIn_app (goodIn_of _ (by decide +kernel)) ggX1_whole_X1_isBuyer
set_option maxRecDepth 20000 in
theorem ggX1_whole_X1_bookOf : GoodIn wsX1_whole wsX1_bookOf := goodIn_r _ [10, 11, 12, 13, 47, 48, 49, 50, 51, 52, 53, 54] (by decide +kernel) (by decide +kernel)
set_option maxRecDepth 20000 in
theorem gX1_whole_X1_bookOf : GoodIn wsX1_whole (wsV RX1 54 RX1 yX1_bookOf wsX1_bookOf) := goodIn_app (goodIn_of _ (by decide +kernel)) ggX1_whole_X1_bookOf
set_option maxRecDepth 20000 in
theorem ggX1_whole_X0_allWeights : GoodIn wsX1_whole wsX0_allWeights := goodIn_r _ [18, 19, 20, 21, 17, 22, 23, 24, 25, 26, 27, 28, 42, 43, 44, 45, 46] (by decide +kernel) (by decide +kernel)
set_option maxRecDepth 20000 in
theorem gX1_whole_X0_allWeights : GoodIn wsX1_whole (wsV RX1 80 RX0 yX0_allWeights wsX0_allWeights) := goodIn_app (goodIn_of _ (by decide +kernel)) ggX1_whole_X0_allWeights
set_option maxRecDepth 20000 in
theorem ggX1_whole_X0_bestPlace : GoodIn wsX1_whole wsX0_bestPlace := goodIn_r _ [32, 27, 33, 34, 35, 17, 36, 37, 38, 39, 40, 41, 19, 20, 21, 22, 23, 24, 25, 26, 28, 42, 43, 44, 45, 46] (by decide +kernel) (by decide +kernel)
set_option maxRecDepth 20000 in
theorem gX1_whole_X0_bestPlace : GoodIn wsX1_whole (wsV RX1 84 RX0 yX0_bestPlace wsX0_bestPlace) := goodIn_app (goodIn_of _ (by decide +kernel)) ggX1_whole_X0_bestPlace
theorem dX1_whole_0 : decode cX1_whole 0 = .ok (.aload_n 0, 1) := by decide +kernel
theorem dX1_whole_1 : decode cX1_whole 1 = .ok (.iload_n 1, 1) := by decide +kernel
theorem dX1_whole_2 : decode cX1_whole 2 = .ok (.invokevirtual 44, 3) := by decide +kernel
theorem dX1_whole_5 : decode cX1_whole 5 = .ok (.ifCond .ne 5, 3) := by decide +kernel
theorem dX1_whole_8 : decode cX1_whole 8 = .ok (.iconst (-1), 1) := by decide +kernel
theorem dX1_whole_9 : decode cX1_whole 9 = .ok (.ireturn, 1) := by decide +kernel
theorem dX1_whole_10 : decode cX1_whole 10 = .ok (.aload_n 0, 1) := by decide +kernel
theorem dX1_whole_11 : decode cX1_whole 11 = .ok (.iload_n 1, 1) := by decide +kernel
theorem dX1_whole_12 : decode cX1_whole 12 = .ok (.invokevirtual 54, 3) := by decide +kernel
theorem dX1_whole_15 : decode cX1_whole 15 = .ok (.astore_n 3, 1) := by decide +kernel
theorem dX1_whole_16 : decode cX1_whole 16 = .ok (.iload_n 2, 1) := by decide +kernel
theorem dX1_whole_17 : decode cX1_whole 17 = .ok (.tableswitch 42 0 2 #[27, 32, 37], 27) := by decide +kernel
theorem dX1_whole_44 : decode cX1_whole 44 = .ok (.aload_n 3, 1) := by decide +kernel
theorem dX1_whole_45 : decode cX1_whole 45 = .ok (.getfield 58, 3) := by decide +kernel
theorem dX1_whole_48 : decode cX1_whole 48 = .ok (.ireturn, 1) := by decide +kernel
theorem dX1_whole_49 : decode cX1_whole 49 = .ok (.aload_n 3, 1) := by decide +kernel
theorem dX1_whole_50 : decode cX1_whole 50 = .ok (.invokevirtual 80, 3) := by decide +kernel
theorem dX1_whole_53 : decode cX1_whole 53 = .ok (.ireturn, 1) := by decide +kernel
theorem dX1_whole_54 : decode cX1_whole 54 = .ok (.aload_n 3, 1) := by decide +kernel
theorem dX1_whole_55 : decode cX1_whole 55 = .ok (.invokevirtual 84, 3) := by decide +kernel
theorem dX1_whole_58 : decode cX1_whole 58 = .ok (.ireturn, 1) := by decide +kernel
theorem dX1_whole_59 : decode cX1_whole 59 = .ok (.iconst (-1), 1) := by decide +kernel
theorem dX1_whole_60 : decode cX1_whole 60 = .ok (.ireturn, 1) := by decide +kernel
set_option maxRecDepth 20000 in
theorem ggX1_slope_X1_isBuyer : GoodIn wsX1_slope wsX1_isBuyer := goodIn_r _ [6, 7, 65, 66, 67, 68, 69, 70, 71, 72] (by decide +kernel) (by decide +kernel)
set_option maxRecDepth 20000 in
theorem gX1_slope_X1_isBuyer : GoodIn wsX1_slope (wsV RX1 44 RX1 yX1_isBuyer wsX1_isBuyer) := goodIn_app (goodIn_of _ (by decide +kernel)) ggX1_slope_X1_isBuyer
set_option maxRecDepth 20000 in
theorem ggX1_slope_X1_bookOf : GoodIn wsX1_slope wsX1_bookOf := goodIn_r _ [11, 12, 13, 14, 65, 66, 67, 68, 69, 70, 71, 72] (by decide +kernel) (by decide +kernel)
set_option maxRecDepth 20000 in
theorem gX1_slope_X1_bookOf : GoodIn wsX1_slope (wsV RX1 54 RX1 yX1_bookOf wsX1_bookOf) := goodIn_app (goodIn_of _ (by decide +kernel)) ggX1_slope_X1_bookOf
set_option maxRecDepth 20000 in
theorem ggX1_slope_X0_has : GoodIn wsX1_slope wsX0_has := goodIn_r _ [19, 20, 73, 74, 75, 76, 77] (by decide +kernel) (by decide +kernel)
set_option maxRecDepth 20000 in
theorem gX1_slope_X0_has : GoodIn wsX1_slope (wsV RX1 68 RX0 yX0_has wsX0_has) := goodIn_app (goodIn_of _ (by decide +kernel)) ggX1_slope_X0_has
set_option maxRecDepth 20000 in
theorem ggX1_slope_X1_isPart : GoodIn wsX1_slope wsX1_isPart := goodIn_r _ [23] (by decide +kernel) (by decide +kernel)
set_option maxRecDepth 20000 in
theorem gX1_slope_X1_isPart : GoodIn wsX1_slope (va_wsS RX1 87 yX1_isPart wsX1_isPart) := goodIn_app (goodIn_of _ (by decide +kernel)) ggX1_slope_X1_isPart
set_option maxRecDepth 20000 in
theorem ggX1_slope_X0_ironedUpper : GoodIn wsX1_slope wsX0_ironedUpper := goodIn_r _ [27, 20, 28, 73, 74, 75, 76, 77] (by decide +kernel) (by decide +kernel)
set_option maxRecDepth 20000 in
theorem gX1_slope_X0_ironedUpper : GoodIn wsX1_slope (wsV RX1 92 RX0 yX0_ironedUpper wsX0_ironedUpper) := goodIn_app (goodIn_of _ (by decide +kernel)) ggX1_slope_X0_ironedUpper
set_option maxRecDepth 20000 in
theorem ggX1_slope_X0_ironedLower : GoodIn wsX1_slope wsX0_ironedLower := goodIn_r _ [32, 20, 33, 73, 74, 75, 76, 77] (by decide +kernel) (by decide +kernel)
set_option maxRecDepth 20000 in
theorem gX1_slope_X0_ironedLower : GoodIn wsX1_slope (wsV RX1 96 RX0 yX0_ironedLower wsX0_ironedLower) := goodIn_app (goodIn_of _ (by decide +kernel)) ggX1_slope_X0_ironedLower
set_option maxRecDepth 20000 in
theorem ggX1_slope_X1_leastPart : GoodIn wsX1_slope wsX1_leastPart := goodIn_r _ [36, 37, 38, 39, 40, 1, 41, 42, 5, 43] (by decide +kernel) (by decide +kernel)
set_option maxRecDepth 20000 in
theorem gX1_slope_X1_leastPart : GoodIn wsX1_slope (va_wsS RX1 99 yX1_leastPart wsX1_leastPart) := goodIn_app (goodIn_of _ (by decide +kernel)) ggX1_slope_X1_leastPart
set_option maxRecDepth 20000 in
theorem ggX1_slope_X0_takeAt : GoodIn wsX1_slope wsX0_takeAt := goodIn_r _ [47, 48, 49, 50, 18, 51, 20, 52, 53, 54, 55, 56, 57, 58, 39, 59, 60, 73, 74, 75, 76, 77] (by decide +kernel) (by decide +kernel)
set_option maxRecDepth 20000 in
theorem gX1_slope_X0_takeAt : GoodIn wsX1_slope (wsV RX1 77 RX0 yX0_takeAt wsX0_takeAt) := goodIn_app (goodIn_of _ (by decide +kernel)) ggX1_slope_X0_takeAt
set_option maxRecDepth 20000 in
theorem ggX1_slope_X0_weightAt : GoodIn wsX1_slope wsX0_weightAt := goodIn_r _ [64, 20, 60, 73, 74, 75, 76, 77] (by decide +kernel) (by decide +kernel)
set_option maxRecDepth 20000 in
theorem gX1_slope_X0_weightAt : GoodIn wsX1_slope (wsV RX1 71 RX0 yX0_weightAt wsX0_weightAt) := goodIn_app (goodIn_of _ (by decide +kernel)) ggX1_slope_X0_weightAt
theorem dX1_slope_0 : decode cX1_slope 0 = .ok (.aload_n 0, 1) := by decide +kernel
theorem dX1_slope_1 : decode cX1_slope 1 = .ok (.iload_n 1, 1) := by decide +kernel
theorem dX1_slope_2 : decode cX1_slope 2 = .ok (.invokevirtual 44, 3) := by decide +kernel
theorem dX1_slope_5 : decode cX1_slope 5 = .ok (.ifCond .eq 23, 3) := by decide +kernel
theorem dX1_slope_8 : decode cX1_slope 8 = .ok (.aload_n 0, 1) := by decide +kernel
theorem dX1_slope_9 : decode cX1_slope 9 = .ok (.iload_n 1, 1) := by decide +kernel
theorem dX1_slope_10 : decode cX1_slope 10 = .ok (.invokevirtual 54, 3) := by decide +kernel
theorem dX1_slope_13 : decode cX1_slope 13 = .ok (.iload_n 2, 1) := by decide +kernel
theorem dX1_slope_14 : decode cX1_slope 14 = .ok (.invokevirtual 68, 3) := by decide +kernel
theorem dX1_slope_17 : decode cX1_slope 17 = .ok (.ifCond .eq 11, 3) := by decide +kernel
theorem dX1_slope_20 : decode cX1_slope 20 = .ok (.iload 4, 2) := by decide +kernel
theorem dX1_slope_22 : decode cX1_slope 22 = .ok (.invokestatic 87, 3) := by decide +kernel
theorem dX1_slope_25 : decode cX1_slope 25 = .ok (.ifCond .ne 7, 3) := by decide +kernel
theorem dX1_slope_28 : decode cX1_slope 28 = .ok (.ldc2_w 90, 3) := by decide +kernel
theorem dX1_slope_31 : decode cX1_slope 31 = .ok (.lreturn, 1) := by decide +kernel
theorem dX1_slope_32 : decode cX1_slope 32 = .ok (.aload_n 0, 1) := by decide +kernel
theorem dX1_slope_33 : decode cX1_slope 33 = .ok (.iload_n 1, 1) := by decide +kernel
theorem dX1_slope_34 : decode cX1_slope 34 = .ok (.invokevirtual 54, 3) := by decide +kernel
theorem dX1_slope_37 : decode cX1_slope 37 = .ok (.astore 5, 2) := by decide +kernel
theorem dX1_slope_39 : decode cX1_slope 39 = .ok (.iload_n 3, 1) := by decide +kernel
theorem dX1_slope_40 : decode cX1_slope 40 = .ok (.ifCond .eq 21, 3) := by decide +kernel
theorem dX1_slope_43 : decode cX1_slope 43 = .ok (.aload 5, 2) := by decide +kernel
theorem dX1_slope_45 : decode cX1_slope 45 = .ok (.iload_n 2, 1) := by decide +kernel
theorem dX1_slope_46 : decode cX1_slope 46 = .ok (.invokevirtual 92, 3) := by decide +kernel
theorem dX1_slope_49 : decode cX1_slope 49 = .ok (.aload 5, 2) := by decide +kernel
theorem dX1_slope_51 : decode cX1_slope 51 = .ok (.iload_n 2, 1) := by decide +kernel
theorem dX1_slope_52 : decode cX1_slope 52 = .ok (.invokevirtual 96, 3) := by decide +kernel
theorem dX1_slope_55 : decode cX1_slope 55 = .ok (.iload 4, 2) := by decide +kernel
theorem dX1_slope_57 : decode cX1_slope 57 = .ok (.invokestatic 99, 3) := by decide +kernel
theorem dX1_slope_60 : decode cX1_slope 60 = .ok (.lreturn, 1) := by decide +kernel
theorem dX1_slope_61 : decode cX1_slope 61 = .ok (.aload 5, 2) := by decide +kernel
theorem dX1_slope_63 : decode cX1_slope 63 = .ok (.iload_n 2, 1) := by decide +kernel
theorem dX1_slope_64 : decode cX1_slope 64 = .ok (.invokevirtual 77, 3) := by decide +kernel
theorem dX1_slope_67 : decode cX1_slope 67 = .ok (.aload 5, 2) := by decide +kernel
theorem dX1_slope_69 : decode cX1_slope 69 = .ok (.iload_n 2, 1) := by decide +kernel
theorem dX1_slope_70 : decode cX1_slope 70 = .ok (.iconst 1, 1) := by decide +kernel
theorem dX1_slope_71 : decode cX1_slope 71 = .ok (.iadd, 1) := by decide +kernel
theorem dX1_slope_72 : decode cX1_slope 72 = .ok (.invokevirtual 77, 3) := by decide +kernel
theorem dX1_slope_75 : decode cX1_slope 75 = .ok (.isub, 1) := by decide +kernel
theorem dX1_slope_76 : decode cX1_slope 76 = .ok (.i2l, 1) := by decide +kernel
theorem dX1_slope_77 : decode cX1_slope 77 = .ok (.aload 5, 2) := by decide +kernel
theorem dX1_slope_79 : decode cX1_slope 79 = .ok (.iload_n 2, 1) := by decide +kernel
theorem dX1_slope_80 : decode cX1_slope 80 = .ok (.invokevirtual 71, 3) := by decide +kernel
theorem dX1_slope_83 : decode cX1_slope 83 = .ok (.i2l, 1) := by decide +kernel
theorem dX1_slope_84 : decode cX1_slope 84 = .ok (.iload 4, 2) := by decide +kernel
theorem dX1_slope_86 : decode cX1_slope 86 = .ok (.invokestatic 99, 3) := by decide +kernel
theorem dX1_slope_89 : decode cX1_slope 89 = .ok (.lreturn, 1) := by decide +kernel
set_option maxRecDepth 20000 in
theorem ggX1_gets_X1_arePlaces : GoodIn wsX1_gets wsX1_arePlaces := goodIn_r _ [5, 6, 7, 8, 9, 4, 10, 11, 12, 13, 14, 15, 16, 17, 18, 19, 20, 21, 22, 37, 38, 39, 40, 41, 42, 43, 44, 45, 46, 47, 48, 49] (by decide +kernel) (by decide +kernel)
set_option maxRecDepth 20000 in
theorem gX1_gets_X1_arePlaces : GoodIn wsX1_gets (wsV RX1 103 RX1 yX1_arePlaces wsX1_arePlaces) := goodIn_app (goodIn_of _ (by decide +kernel)) ggX1_gets_X1_arePlaces
set_option maxRecDepth 20000 in
theorem ggX1_gets_X1_winner : GoodIn wsX1_gets wsX1_winner := goodIn_r _ [26, 6, 14, 15, 4, 16, 7, 8, 9, 10, 11, 12, 13, 27, 28, 29, 20, 30, 22, 31, 32, 33, 34, 35, 36, 37, 38, 39, 40, 41, 42, 43, 44, 45, 46, 47, 48, 49] (by decide +kernel) (by decide +kernel)
set_option maxRecDepth 20000 in
theorem gX1_gets_X1_winner : GoodIn wsX1_gets (wsV RX1 107 RX1 yX1_winner wsX1_winner) := goodIn_app (goodIn_of _ (by decide +kernel)) ggX1_gets_X1_winner
theorem dX1_gets_0 : decode cX1_gets 0 = .ok (.aload_n 0, 1) := by decide +kernel
theorem dX1_gets_1 : decode cX1_gets 1 = .ok (.iload_n 1, 1) := by decide +kernel
theorem dX1_gets_2 : decode cX1_gets 2 = .ok (.iload_n 2, 1) := by decide +kernel
theorem dX1_gets_3 : decode cX1_gets 3 = .ok (.iload_n 3, 1) := by decide +kernel
theorem dX1_gets_4 : decode cX1_gets 4 = .ok (.invokevirtual 103, 3) := by decide +kernel
theorem dX1_gets_7 : decode cX1_gets 7 = .ok (.ifCond .ne 5, 3) := by decide +kernel
theorem dX1_gets_10 : decode cX1_gets 10 = .ok (.iconst (-1), 1) := by decide +kernel
theorem dX1_gets_11 : decode cX1_gets 11 = .ok (.ireturn, 1) := by decide +kernel
theorem dX1_gets_12 : decode cX1_gets 12 = .ok (.aload_n 0, 1) := by decide +kernel
theorem dX1_gets_13 : decode cX1_gets 13 = .ok (.iload_n 1, 1) := by decide +kernel
theorem dX1_gets_14 : decode cX1_gets 14 = .ok (.iload_n 2, 1) := by decide +kernel
theorem dX1_gets_15 : decode cX1_gets 15 = .ok (.iload_n 3, 1) := by decide +kernel
theorem dX1_gets_16 : decode cX1_gets 16 = .ok (.invokevirtual 107, 3) := by decide +kernel
theorem dX1_gets_19 : decode cX1_gets 19 = .ok (.ireturn, 1) := by decide +kernel
set_option maxRecDepth 20000 in
theorem ggX1_pays_X1_arePlaces : GoodIn wsX1_pays wsX1_arePlaces := goodIn_r _ [5, 6, 7, 8, 9, 4, 10, 11, 12, 13, 14, 15, 16, 17, 18, 19, 20, 21, 22, 54, 55, 56, 57, 58, 59, 60, 61, 62, 63, 64, 65, 66] (by decide +kernel) (by decide +kernel)
set_option maxRecDepth 20000 in
theorem gX1_pays_X1_arePlaces : GoodIn wsX1_pays (wsV RX1 103 RX1 yX1_arePlaces wsX1_arePlaces) := goodIn_app (goodIn_of _ (by decide +kernel)) ggX1_pays_X1_arePlaces
set_option maxRecDepth 20000 in
theorem ggX1_pays_X1_isBuyer : GoodIn wsX1_pays wsX1_isBuyer := goodIn_r _ [26, 6, 54, 55, 56, 57, 58, 59, 60, 61] (by decide +kernel) (by decide +kernel)
set_option maxRecDepth 20000 in
theorem gX1_pays_X1_isBuyer : GoodIn wsX1_pays (wsV RX1 44 RX1 yX1_isBuyer wsX1_isBuyer) := goodIn_app (goodIn_of _ (by decide +kernel)) ggX1_pays_X1_isBuyer
set_option maxRecDepth 20000 in
theorem ggX1_pays_X1_winner : GoodIn wsX1_pays wsX1_winner := goodIn_r _ [30, 6, 14, 15, 4, 16, 7, 8, 9, 10, 11, 12, 13, 31, 32, 33, 20, 34, 22, 35, 36, 37, 38, 39, 40, 54, 55, 56, 57, 58, 59, 60, 61, 62, 63, 64, 65, 66] (by decide +kernel) (by decide +kernel)
set_option maxRecDepth 20000 in
theorem gX1_pays_X1_winner : GoodIn wsX1_pays (wsV RX1 107 RX1 yX1_winner wsX1_winner) := goodIn_app (goodIn_of _ (by decide +kernel)) ggX1_pays_X1_winner
set_option maxRecDepth 20000 in
theorem ggX1_pays_X1_leastWinning : GoodIn wsX1_pays wsX1_leastWinning := goodIn_r _ [44, 7, 8, 9, 4, 10, 11, 12, 13, 45, 46, 47, 48, 27, 28, 29, 30, 6, 14, 15, 16, 31, 32, 33, 20, 34, 22, 35, 36, 37, 38, 39, 40, 49, 50, 51, 52, 53, 62, 63, 64, 65, 66, 54, 55, 56, 57, 58, 59, 60, 61] (by decide +kernel) (by decide +kernel)
set_option maxRecDepth 20000 in
theorem gX1_pays_X1_leastWinning : GoodIn wsX1_pays (wsV RX1 111 RX1 yX1_leastWinning wsX1_leastWinning) := goodIn_app (goodIn_of _ (by decide +kernel)) ggX1_pays_X1_leastWinning
theorem dX1_pays_0 : decode cX1_pays 0 = .ok (.aload_n 0, 1) := by decide +kernel
theorem dX1_pays_1 : decode cX1_pays 1 = .ok (.iload_n 1, 1) := by decide +kernel
theorem dX1_pays_2 : decode cX1_pays 2 = .ok (.iload_n 2, 1) := by decide +kernel
theorem dX1_pays_3 : decode cX1_pays 3 = .ok (.iload_n 3, 1) := by decide +kernel
theorem dX1_pays_4 : decode cX1_pays 4 = .ok (.invokevirtual 103, 3) := by decide +kernel
theorem dX1_pays_7 : decode cX1_pays 7 = .ok (.ifCond .eq 12, 3) := by decide +kernel
theorem dX1_pays_10 : decode cX1_pays 10 = .ok (.aload_n 0, 1) := by decide +kernel
theorem dX1_pays_11 : decode cX1_pays 11 = .ok (.iload 4, 2) := by decide +kernel
theorem dX1_pays_13 : decode cX1_pays 13 = .ok (.invokevirtual 44, 3) := by decide +kernel
theorem dX1_pays_16 : decode cX1_pays 16 = .ok (.ifCond .ne 5, 3) := by decide +kernel
theorem dX1_pays_19 : decode cX1_pays 19 = .ok (.iconst (-1), 1) := by decide +kernel
theorem dX1_pays_20 : decode cX1_pays 20 = .ok (.ireturn, 1) := by decide +kernel
theorem dX1_pays_21 : decode cX1_pays 21 = .ok (.aload_n 0, 1) := by decide +kernel
theorem dX1_pays_22 : decode cX1_pays 22 = .ok (.iload_n 1, 1) := by decide +kernel
theorem dX1_pays_23 : decode cX1_pays 23 = .ok (.iload_n 2, 1) := by decide +kernel
theorem dX1_pays_24 : decode cX1_pays 24 = .ok (.iload_n 3, 1) := by decide +kernel
theorem dX1_pays_25 : decode cX1_pays 25 = .ok (.invokevirtual 107, 3) := by decide +kernel
theorem dX1_pays_28 : decode cX1_pays 28 = .ok (.iload 4, 2) := by decide +kernel
theorem dX1_pays_30 : decode cX1_pays 30 = .ok (.if_icmp .ne 15, 3) := by decide +kernel
theorem dX1_pays_33 : decode cX1_pays 33 = .ok (.aload_n 0, 1) := by decide +kernel
theorem dX1_pays_34 : decode cX1_pays 34 = .ok (.iload_n 1, 1) := by decide +kernel
theorem dX1_pays_35 : decode cX1_pays 35 = .ok (.iload_n 2, 1) := by decide +kernel
theorem dX1_pays_36 : decode cX1_pays 36 = .ok (.iload_n 3, 1) := by decide +kernel
theorem dX1_pays_37 : decode cX1_pays 37 = .ok (.iload 4, 2) := by decide +kernel
theorem dX1_pays_39 : decode cX1_pays 39 = .ok (.invokevirtual 111, 3) := by decide +kernel
theorem dX1_pays_42 : decode cX1_pays 42 = .ok (.goto 4, 3) := by decide +kernel
theorem dX1_pays_45 : decode cX1_pays 45 = .ok (.iconst 0, 1) := by decide +kernel
theorem dX1_pays_46 : decode cX1_pays 46 = .ok (.ireturn, 1) := by decide +kernel
set_option maxRecDepth 20000 in
theorem ggX1_gain_X1_arePlaces : GoodIn wsX1_gain wsX1_arePlaces := goodIn_r _ [6, 7, 8, 9, 10, 5, 11, 12, 13, 14, 15, 16, 17, 18, 19, 20, 21, 22, 23, 55, 56, 57, 58, 59, 60, 61, 62, 63, 64, 65, 66, 67] (by decide +kernel) (by decide +kernel)
set_option maxRecDepth 20000 in
theorem gX1_gain_X1_arePlaces : GoodIn wsX1_gain (wsV RX1 103 RX1 yX1_arePlaces wsX1_arePlaces) := goodIn_app (goodIn_of _ (by decide +kernel)) ggX1_gain_X1_arePlaces
set_option maxRecDepth 20000 in
theorem ggX1_gain_X1_isBuyer : GoodIn wsX1_gain wsX1_isBuyer := goodIn_r _ [27, 7, 55, 56, 57, 58, 59, 60, 61, 62] (by decide +kernel) (by decide +kernel)
set_option maxRecDepth 20000 in
theorem gX1_gain_X1_isBuyer : GoodIn wsX1_gain (wsV RX1 44 RX1 yX1_isBuyer wsX1_isBuyer) := goodIn_app (goodIn_of _ (by decide +kernel)) ggX1_gain_X1_isBuyer
set_option maxRecDepth 20000 in
theorem ggX1_gain_X1_bookOf : GoodIn wsX1_gain wsX1_bookOf := goodIn_r _ [11, 12, 13, 14, 55, 56, 57, 58, 59, 60, 61, 62] (by decide +kernel) (by decide +kernel)
set_option maxRecDepth 20000 in
theorem gX1_gain_X1_bookOf : GoodIn wsX1_gain (wsV RX1 54 RX1 yX1_bookOf wsX1_bookOf) := goodIn_app (goodIn_of _ (by decide +kernel)) ggX1_gain_X1_bookOf
set_option maxRecDepth 20000 in
theorem ggX1_gain_X0_has : GoodIn wsX1_gain wsX0_has := goodIn_r _ [22, 23, 63, 64, 65, 66, 67] (by decide +kernel) (by decide +kernel)
set_option maxRecDepth 20000 in
theorem gX1_gain_X0_has : GoodIn wsX1_gain (wsV RX1 68 RX0 yX0_has wsX0_has) := goodIn_app (goodIn_of _ (by decide +kernel)) ggX1_gain_X0_has
set_option maxRecDepth 20000 in
theorem ggX1_gain_X1_getsWith : GoodIn wsX1_gain wsX1_getsWith := goodIn_r _ [31, 32, 33, 34, 5, 35, 7, 15, 16, 17, 8, 9, 10, 11, 12, 13, 14, 36, 37, 38, 21, 39, 23, 40, 41, 42, 43, 44, 45, 55, 56, 57, 58, 59, 60, 61, 62, 63, 64, 65, 66, 67] (by decide +kernel) (by decide +kernel)
set_option maxRecDepth 20000 in
theorem gX1_gain_X1_getsWith : GoodIn wsX1_gain (wsV RX1 115 RX1 yX1_getsWith wsX1_getsWith) := goodIn_app (goodIn_of _ (by decide +kernel)) ggX1_gain_X1_getsWith
set_option maxRecDepth 20000 in
theorem ggX1_gain_X1_pick : GoodIn wsX1_gain wsX1_pick := goodIn_r _ [17] (by decide +kernel) (by decide +kernel)
set_option maxRecDepth 20000 in
theorem gX1_gain_X1_pick : GoodIn wsX1_gain (va_wsS RX1 119 yX1_pick wsX1_pick) := goodIn_app (goodIn_of _ (by decide +kernel)) ggX1_gain_X1_pick
set_option maxRecDepth 20000 in
theorem ggX1_gain_X0_worthAt : GoodIn wsX1_gain wsX0_worthAt := goodIn_r _ [49, 23, 50, 63, 64, 65, 66, 67] (by decide +kernel) (by decide +kernel)
set_option maxRecDepth 20000 in
theorem gX1_gain_X0_worthAt : GoodIn wsX1_gain (wsV RX1 61 RX0 yX0_worthAt wsX0_worthAt) := goodIn_app (goodIn_of _ (by decide +kernel)) ggX1_gain_X0_worthAt
set_option maxRecDepth 20000 in
theorem ggX1_gain_X1_leastWinning : GoodIn wsX1_gain wsX1_leastWinning := goodIn_r _ [54, 8, 9, 10, 5, 11, 12, 13, 14, 28, 29, 30, 31, 32, 33, 34, 35, 7, 15, 16, 17, 36, 37, 38, 21, 39, 23, 40, 41, 42, 43, 44, 45, 46, 47, 48, 49, 50, 63, 64, 65, 66, 67, 55, 56, 57, 58, 59, 60, 61, 62] (by decide +kernel) (by decide +kernel)
set_option maxRecDepth 20000 in
theorem gX1_gain_X1_leastWinning : GoodIn wsX1_gain (wsV RX1 111 RX1 yX1_leastWinning wsX1_leastWinning) := goodIn_app (goodIn_of _ (by decide +kernel)) ggX1_gain_X1_leastWinning
theorem dX1_gain_0 : decode cX1_gain 0 = .ok (.aload_n 0, 1) := by decide +kernel
theorem dX1_gain_1 : decode cX1_gain 1 = .ok (.iload_n 1, 1) := by decide +kernel
theorem dX1_gain_2 : decode cX1_gain 2 = .ok (.iload_n 2, 1) := by decide +kernel
theorem dX1_gain_3 : decode cX1_gain 3 = .ok (.iload_n 3, 1) := by decide +kernel
theorem dX1_gain_4 : decode cX1_gain 4 = .ok (.invokevirtual 103, 3) := by decide +kernel
theorem dX1_gain_7 : decode cX1_gain 7 = .ok (.ifCond .eq 26, 3) := by decide +kernel
theorem dX1_gain_10 : decode cX1_gain 10 = .ok (.aload_n 0, 1) := by decide +kernel
theorem dX1_gain_11 : decode cX1_gain 11 = .ok (.iload 4, 2) := by decide +kernel
theorem dX1_gain_13 : decode cX1_gain 13 = .ok (.invokevirtual 44, 3) := by decide +kernel
theorem dX1_gain_16 : decode cX1_gain 16 = .ok (.ifCond .eq 17, 3) := by decide +kernel
theorem dX1_gain_19 : decode cX1_gain 19 = .ok (.aload_n 0, 1) := by decide +kernel
theorem dX1_gain_20 : decode cX1_gain 20 = .ok (.iload 4, 2) := by decide +kernel
theorem dX1_gain_22 : decode cX1_gain 22 = .ok (.invokevirtual 54, 3) := by decide +kernel
theorem dX1_gain_25 : decode cX1_gain 25 = .ok (.iload 5, 2) := by decide +kernel
theorem dX1_gain_27 : decode cX1_gain 27 = .ok (.invokevirtual 68, 3) := by decide +kernel
theorem dX1_gain_30 : decode cX1_gain 30 = .ok (.ifCond .ne 7, 3) := by decide +kernel
theorem dX1_gain_33 : decode cX1_gain 33 = .ok (.ldc2_w 90, 3) := by decide +kernel
theorem dX1_gain_36 : decode cX1_gain 36 = .ok (.lreturn, 1) := by decide +kernel
theorem dX1_gain_37 : decode cX1_gain 37 = .ok (.aload_n 0, 1) := by decide +kernel
theorem dX1_gain_38 : decode cX1_gain 38 = .ok (.iload 5, 2) := by decide +kernel
theorem dX1_gain_40 : decode cX1_gain 40 = .ok (.iload_n 1, 1) := by decide +kernel
theorem dX1_gain_41 : decode cX1_gain 41 = .ok (.iload_n 2, 1) := by decide +kernel
theorem dX1_gain_42 : decode cX1_gain 42 = .ok (.iload_n 3, 1) := by decide +kernel
theorem dX1_gain_43 : decode cX1_gain 43 = .ok (.iload 4, 2) := by decide +kernel
theorem dX1_gain_45 : decode cX1_gain 45 = .ok (.invokevirtual 115, 3) := by decide +kernel
theorem dX1_gain_48 : decode cX1_gain 48 = .ok (.ifCond .ne 5, 3) := by decide +kernel
theorem dX1_gain_51 : decode cX1_gain 51 = .ok (.lconst 0, 1) := by decide +kernel
theorem dX1_gain_52 : decode cX1_gain 52 = .ok (.lreturn, 1) := by decide +kernel
theorem dX1_gain_53 : decode cX1_gain 53 = .ok (.aload_n 0, 1) := by decide +kernel
theorem dX1_gain_54 : decode cX1_gain 54 = .ok (.iload 4, 2) := by decide +kernel
theorem dX1_gain_56 : decode cX1_gain 56 = .ok (.invokevirtual 54, 3) := by decide +kernel
theorem dX1_gain_59 : decode cX1_gain 59 = .ok (.iload 4, 2) := by decide +kernel
theorem dX1_gain_61 : decode cX1_gain 61 = .ok (.iload_n 1, 1) := by decide +kernel
theorem dX1_gain_62 : decode cX1_gain 62 = .ok (.iload_n 2, 1) := by decide +kernel
theorem dX1_gain_63 : decode cX1_gain 63 = .ok (.iload_n 3, 1) := by decide +kernel
theorem dX1_gain_64 : decode cX1_gain 64 = .ok (.invokestatic 119, 3) := by decide +kernel
theorem dX1_gain_67 : decode cX1_gain 67 = .ok (.invokevirtual 61, 3) := by decide +kernel
theorem dX1_gain_70 : decode cX1_gain 70 = .ok (.istore 6, 2) := by decide +kernel
theorem dX1_gain_72 : decode cX1_gain 72 = .ok (.iload 6, 2) := by decide +kernel
theorem dX1_gain_74 : decode cX1_gain 74 = .ok (.aload_n 0, 1) := by decide +kernel
theorem dX1_gain_75 : decode cX1_gain 75 = .ok (.iload_n 1, 1) := by decide +kernel
theorem dX1_gain_76 : decode cX1_gain 76 = .ok (.iload_n 2, 1) := by decide +kernel
theorem dX1_gain_77 : decode cX1_gain 77 = .ok (.iload_n 3, 1) := by decide +kernel
theorem dX1_gain_78 : decode cX1_gain 78 = .ok (.iload 4, 2) := by decide +kernel
theorem dX1_gain_80 : decode cX1_gain 80 = .ok (.invokevirtual 111, 3) := by decide +kernel
theorem dX1_gain_83 : decode cX1_gain 83 = .ok (.isub, 1) := by decide +kernel
theorem dX1_gain_84 : decode cX1_gain 84 = .ok (.i2l, 1) := by decide +kernel
theorem dX1_gain_85 : decode cX1_gain 85 = .ok (.lreturn, 1) := by decide +kernel
set_option maxRecDepth 20000 in
theorem ggX1_brings_X1_isPart : GoodIn wsX1_brings wsX1_isPart := goodIn_r _ [5] (by decide +kernel) (by decide +kernel)
set_option maxRecDepth 20000 in
theorem gX1_brings_X1_isPart : GoodIn wsX1_brings (va_wsS RX1 87 yX1_isPart wsX1_isPart) := goodIn_app (goodIn_of _ (by decide +kernel)) ggX1_brings_X1_isPart
set_option maxRecDepth 20000 in
theorem ggX1_brings_X1_meanPaid : GoodIn wsX1_brings wsX1_meanPaid := goodIn_r _ [9, 10, 11, 12, 13, 14, 15, 16, 17, 18, 19, 20, 21, 22, 4, 23, 24, 25, 26, 27, 28, 29, 30, 31, 32, 33, 34, 35, 36, 37, 38, 39, 40, 41, 42, 43, 44, 45, 46, 47, 48, 49, 50, 51, 52, 53, 54, 55, 56, 57, 58, 59, 60, 61, 62, 63, 64, 65, 66, 67, 68, 69, 70, 71, 72, 73, 74, 75, 76, 77, 78, 79, 80, 81, 82, 83, 84, 85, 86, 87, 88, 89, 1, 90, 91, 92, 93, 94, 95, 96, 97, 98, 99, 100, 101, 102, 103, 104, 105] (by decide +kernel) (by decide +kernel)
set_option maxRecDepth 20000 in
theorem gX1_brings_X1_meanPaid : GoodIn wsX1_brings (wsV RX1 122 RX1 yX1_meanPaid wsX1_meanPaid) := goodIn_app (goodIn_of _ (by decide +kernel)) ggX1_brings_X1_meanPaid
theorem dX1_brings_0 : decode cX1_brings 0 = .ok (.iload_n 1, 1) := by decide +kernel
theorem dX1_brings_1 : decode cX1_brings 1 = .ok (.invokestatic 87, 3) := by decide +kernel
theorem dX1_brings_4 : decode cX1_brings 4 = .ok (.ifCond .ne 7, 3) := by decide +kernel
theorem dX1_brings_7 : decode cX1_brings 7 = .ok (.ldc2_w 90, 3) := by decide +kernel
theorem dX1_brings_10 : decode cX1_brings 10 = .ok (.lreturn, 1) := by decide +kernel
theorem dX1_brings_11 : decode cX1_brings 11 = .ok (.aload_n 0, 1) := by decide +kernel
theorem dX1_brings_12 : decode cX1_brings 12 = .ok (.iconst 3, 1) := by decide +kernel
theorem dX1_brings_13 : decode cX1_brings 13 = .ok (.iload_n 1, 1) := by decide +kernel
theorem dX1_brings_14 : decode cX1_brings 14 = .ok (.invokevirtual 122, 3) := by decide +kernel
theorem dX1_brings_17 : decode cX1_brings 17 = .ok (.lreturn, 1) := by decide +kernel
set_option maxRecDepth 20000 in
theorem ggX1_reserve_X1_isWorth : GoodIn wsX1_reserve wsX1_isWorth := goodIn_r _ [5] (by decide +kernel) (by decide +kernel)
set_option maxRecDepth 20000 in
theorem gX1_reserve_X1_isWorth : GoodIn wsX1_reserve (va_wsS RX1 48 yX1_isWorth wsX1_isWorth) := goodIn_app (goodIn_of _ (by decide +kernel)) ggX1_reserve_X1_isWorth
theorem dX1_reserve_0 : decode cX1_reserve 0 = .ok (.iload_n 1, 1) := by decide +kernel
theorem dX1_reserve_1 : decode cX1_reserve 1 = .ok (.invokestatic 48, 3) := by decide +kernel
theorem dX1_reserve_4 : decode cX1_reserve 4 = .ok (.ifCond .ne 5, 3) := by decide +kernel
theorem dX1_reserve_7 : decode cX1_reserve 7 = .ok (.iconst (-1), 1) := by decide +kernel
theorem dX1_reserve_8 : decode cX1_reserve 8 = .ok (.ireturn, 1) := by decide +kernel
theorem dX1_reserve_9 : decode cX1_reserve 9 = .ok (.aload_n 0, 1) := by decide +kernel
theorem dX1_reserve_10 : decode cX1_reserve 10 = .ok (.getfield 33, 3) := by decide +kernel
theorem dX1_reserve_13 : decode cX1_reserve 13 = .ok (.istore_n 2, 1) := by decide +kernel
theorem dX1_reserve_14 : decode cX1_reserve 14 = .ok (.aload_n 0, 1) := by decide +kernel
theorem dX1_reserve_15 : decode cX1_reserve 15 = .ok (.iload_n 1, 1) := by decide +kernel
theorem dX1_reserve_16 : decode cX1_reserve 16 = .ok (.putfield 33, 3) := by decide +kernel
theorem dX1_reserve_19 : decode cX1_reserve 19 = .ok (.iload_n 2, 1) := by decide +kernel
theorem dX1_reserve_20 : decode cX1_reserve 20 = .ok (.ireturn, 1) := by decide +kernel
set_option maxRecDepth 20000 in
theorem ggX1_pay_X1_isKind : GoodIn wsX1_pay wsX1_isKind := goodIn_r _ [5] (by decide +kernel) (by decide +kernel)
set_option maxRecDepth 20000 in
theorem gX1_pay_X1_isKind : GoodIn wsX1_pay (va_wsS RX1 126 yX1_isKind wsX1_isKind) := goodIn_app (goodIn_of _ (by decide +kernel)) ggX1_pay_X1_isKind
set_option maxRecDepth 20000 in
theorem ggX1_pay_X1_areWorths : GoodIn wsX1_pay wsX1_areWorths := goodIn_r _ [9, 10, 11, 12, 4, 13, 14, 15, 16, 36, 37, 38, 39, 40, 41, 42, 43] (by decide +kernel) (by decide +kernel)
set_option maxRecDepth 20000 in
theorem gX1_pay_X1_areWorths : GoodIn wsX1_pay (wsV RX1 129 RX1 yX1_areWorths wsX1_areWorths) := goodIn_app (goodIn_of _ (by decide +kernel)) ggX1_pay_X1_areWorths
set_option maxRecDepth 20000 in
theorem ggX1_pay_X1_paidByKind : GoodIn wsX1_pay wsX1_paidByKind := goodIn_r _ [20, 10, 21, 22, 23, 24, 25, 26, 27, 28, 11, 12, 4, 13, 29, 30, 31, 32, 36, 37, 38, 39, 40, 41, 42, 43] (by decide +kernel) (by decide +kernel)
set_option maxRecDepth 20000 in
theorem gX1_pay_X1_paidByKind : GoodIn wsX1_pay (wsV RX1 132 RX1 yX1_paidByKind wsX1_paidByKind) := goodIn_app (goodIn_of _ (by decide +kernel)) ggX1_pay_X1_paidByKind
set_option maxRecDepth 20000 in
theorem ggX1_pay_X1_asksOf : GoodIn wsX1_pay wsX1_asksOf := goodIn_r _ [35] (by decide +kernel) (by decide +kernel)
set_option maxRecDepth 20000 in
theorem gX1_pay_X1_asksOf : GoodIn wsX1_pay (va_wsS RX1 135 yX1_asksOf wsX1_asksOf) := goodIn_app (goodIn_of _ (by decide +kernel)) ggX1_pay_X1_asksOf
theorem dX1_pay_0 : decode cX1_pay 0 = .ok (.iload_n 1, 1) := by decide +kernel
theorem dX1_pay_1 : decode cX1_pay 1 = .ok (.invokestatic 126, 3) := by decide +kernel
theorem dX1_pay_4 : decode cX1_pay 4 = .ok (.ifCond .eq 14, 3) := by decide +kernel
theorem dX1_pay_7 : decode cX1_pay 7 = .ok (.aload_n 0, 1) := by decide +kernel
theorem dX1_pay_8 : decode cX1_pay 8 = .ok (.iload_n 2, 1) := by decide +kernel
theorem dX1_pay_9 : decode cX1_pay 9 = .ok (.iload_n 3, 1) := by decide +kernel
theorem dX1_pay_10 : decode cX1_pay 10 = .ok (.iload 4, 2) := by decide +kernel
theorem dX1_pay_12 : decode cX1_pay 12 = .ok (.invokevirtual 129, 3) := by decide +kernel
theorem dX1_pay_15 : decode cX1_pay 15 = .ok (.ifCond .ne 5, 3) := by decide +kernel
theorem dX1_pay_18 : decode cX1_pay 18 = .ok (.iconst (-1), 1) := by decide +kernel
theorem dX1_pay_19 : decode cX1_pay 19 = .ok (.ireturn, 1) := by decide +kernel
theorem dX1_pay_20 : decode cX1_pay 20 = .ok (.aload_n 0, 1) := by decide +kernel
theorem dX1_pay_21 : decode cX1_pay 21 = .ok (.iload_n 1, 1) := by decide +kernel
theorem dX1_pay_22 : decode cX1_pay 22 = .ok (.iload_n 2, 1) := by decide +kernel
theorem dX1_pay_23 : decode cX1_pay 23 = .ok (.iload_n 3, 1) := by decide +kernel
theorem dX1_pay_24 : decode cX1_pay 24 = .ok (.iload 4, 2) := by decide +kernel
theorem dX1_pay_26 : decode cX1_pay 26 = .ok (.invokevirtual 132, 3) := by decide +kernel
theorem dX1_pay_29 : decode cX1_pay 29 = .ok (.istore 5, 2) := by decide +kernel
theorem dX1_pay_31 : decode cX1_pay 31 = .ok (.iload 5, 2) := by decide +kernel
theorem dX1_pay_33 : decode cX1_pay 33 = .ok (.bipush (-9), 2) := by decide +kernel
theorem dX1_pay_35 : decode cX1_pay 35 = .ok (.if_icmp .eq 17, 3) := by decide +kernel
theorem dX1_pay_38 : decode cX1_pay 38 = .ok (.aload_n 0, 1) := by decide +kernel
theorem dX1_pay_39 : decode cX1_pay 39 = .ok (.dup, 1) := by decide +kernel
theorem dX1_pay_40 : decode cX1_pay 40 = .ok (.getfield 36, 3) := by decide +kernel
theorem dX1_pay_43 : decode cX1_pay 43 = .ok (.iload_n 1, 1) := by decide +kernel
theorem dX1_pay_44 : decode cX1_pay 44 = .ok (.invokestatic 135, 3) := by decide +kernel
theorem dX1_pay_47 : decode cX1_pay 47 = .ok (.i2l, 1) := by decide +kernel
theorem dX1_pay_48 : decode cX1_pay 48 = .ok (.ladd, 1) := by decide +kernel
theorem dX1_pay_49 : decode cX1_pay 49 = .ok (.putfield 36, 3) := by decide +kernel
theorem dX1_pay_52 : decode cX1_pay 52 = .ok (.iload 5, 2) := by decide +kernel
theorem dX1_pay_54 : decode cX1_pay 54 = .ok (.ireturn, 1) := by decide +kernel
set_option maxRecDepth 20000 in
theorem ggX1_average_X1_isKind : GoodIn wsX1_average wsX1_isKind := goodIn_r _ [5] (by decide +kernel) (by decide +kernel)
set_option maxRecDepth 20000 in
theorem gX1_average_X1_isKind : GoodIn wsX1_average (va_wsS RX1 126 yX1_isKind wsX1_isKind) := goodIn_app (goodIn_of _ (by decide +kernel)) ggX1_average_X1_isKind
set_option maxRecDepth 20000 in
theorem ggX1_average_X1_isPart : GoodIn wsX1_average wsX1_isPart := goodIn_r _ [8] (by decide +kernel) (by decide +kernel)
set_option maxRecDepth 20000 in
theorem gX1_average_X1_isPart : GoodIn wsX1_average (va_wsS RX1 87 yX1_isPart wsX1_isPart) := goodIn_app (goodIn_of _ (by decide +kernel)) ggX1_average_X1_isPart
set_option maxRecDepth 20000 in
theorem ggX1_average_X1_meanPaid : GoodIn wsX1_average wsX1_meanPaid := goodIn_r _ [12, 13, 14, 15, 16, 17, 18, 19, 20, 21, 22, 23, 24, 25, 4, 26, 27, 28, 29, 30, 31, 32, 33, 34, 35, 36, 37, 38, 39, 40, 41, 42, 43, 44, 45, 46, 47, 48, 49, 50, 51, 52, 53, 54, 55, 56, 57, 58, 59, 60, 61, 62, 63, 64, 65, 66, 67, 68, 69, 70, 71, 72, 73, 74, 75, 76, 77, 78, 79, 80, 81, 82, 83, 84, 85, 86, 87, 88, 89, 90, 91, 92, 1, 93, 94, 95, 96, 97, 98, 99, 100, 101, 102, 103, 104, 105, 106, 107, 108] (by decide +kernel) (by decide +kernel)
set_option maxRecDepth 20000 in
theorem gX1_average_X1_meanPaid : GoodIn wsX1_average (wsV RX1 122 RX1 yX1_meanPaid wsX1_meanPaid) := goodIn_app (goodIn_of _ (by decide +kernel)) ggX1_average_X1_meanPaid
theorem dX1_average_0 : decode cX1_average 0 = .ok (.iload_n 1, 1) := by decide +kernel
theorem dX1_average_1 : decode cX1_average 1 = .ok (.invokestatic 126, 3) := by decide +kernel
theorem dX1_average_4 : decode cX1_average 4 = .ok (.ifCond .eq 10, 3) := by decide +kernel
theorem dX1_average_7 : decode cX1_average 7 = .ok (.iload_n 2, 1) := by decide +kernel
theorem dX1_average_8 : decode cX1_average 8 = .ok (.invokestatic 87, 3) := by decide +kernel
theorem dX1_average_11 : decode cX1_average 11 = .ok (.ifCond .ne 7, 3) := by decide +kernel
theorem dX1_average_14 : decode cX1_average 14 = .ok (.ldc2_w 90, 3) := by decide +kernel
theorem dX1_average_17 : decode cX1_average 17 = .ok (.lreturn, 1) := by decide +kernel
theorem dX1_average_18 : decode cX1_average 18 = .ok (.aload_n 0, 1) := by decide +kernel
theorem dX1_average_19 : decode cX1_average 19 = .ok (.iload_n 1, 1) := by decide +kernel
theorem dX1_average_20 : decode cX1_average 20 = .ok (.iload_n 2, 1) := by decide +kernel
theorem dX1_average_21 : decode cX1_average 21 = .ok (.invokevirtual 122, 3) := by decide +kernel
theorem dX1_average_24 : decode cX1_average 24 = .ok (.lreturn, 1) := by decide +kernel
set_option maxRecDepth 20000 in
theorem ggX1_offers_X1_isOrder : GoodIn wsX1_offers wsX1_isOrder := goodIn_r _ [8, 2, 9, 10, 11, 7, 12, 68, 69, 70, 71, 72, 73, 74, 75] (by decide +kernel) (by decide +kernel)
set_option maxRecDepth 20000 in
theorem gX1_offers_X1_isOrder : GoodIn wsX1_offers (wsV RX1 138 RX1 yX1_isOrder wsX1_isOrder) := goodIn_app (goodIn_of _ (by decide +kernel)) ggX1_offers_X1_isOrder
set_option maxRecDepth 20000 in
theorem ggX1_offers_X1_isPart : GoodIn wsX1_offers wsX1_isPart := goodIn_r _ [15] (by decide +kernel) (by decide +kernel)
set_option maxRecDepth 20000 in
theorem gX1_offers_X1_isPart : GoodIn wsX1_offers (va_wsS RX1 87 yX1_isPart wsX1_isPart) := goodIn_app (goodIn_of _ (by decide +kernel)) ggX1_offers_X1_isPart
set_option maxRecDepth 20000 in
theorem ggX1_offers_X1_isBuyer : GoodIn wsX1_offers wsX1_isBuyer := goodIn_r _ [12, 2, 68, 69, 70, 71, 72, 73, 74, 75] (by decide +kernel) (by decide +kernel)
set_option maxRecDepth 20000 in
theorem gX1_offers_X1_isBuyer : GoodIn wsX1_offers (wsV RX1 44 RX1 yX1_isBuyer wsX1_isBuyer) := goodIn_app (goodIn_of _ (by decide +kernel)) ggX1_offers_X1_isBuyer
set_option maxRecDepth 20000 in
theorem ggX1_offers_X1_bookOf : GoodIn wsX1_offers wsX1_bookOf := goodIn_r _ [19, 20, 21, 22, 68, 69, 70, 71, 72, 73, 74, 75] (by decide +kernel) (by decide +kernel)
set_option maxRecDepth 20000 in
theorem gX1_offers_X1_bookOf : GoodIn wsX1_offers (wsV RX1 54 RX1 yX1_bookOf wsX1_bookOf) := goodIn_app (goodIn_of _ (by decide +kernel)) ggX1_offers_X1_bookOf
set_option maxRecDepth 20000 in
theorem ggX1_offers_X1_bestOffer : GoodIn wsX1_offers wsX1_bestOffer := goodIn_r _ [25, 26, 27, 7, 28, 29, 30, 31, 32, 33, 34, 35, 36, 37, 38, 39, 40, 41, 42, 43, 44, 45, 46, 47, 48, 49, 50, 51, 52, 53, 76, 77, 78, 79, 80] (by decide +kernel) (by decide +kernel)
set_option maxRecDepth 20000 in
theorem gX1_offers_X1_bestOffer : GoodIn wsX1_offers (va_wsS RX1 141 yX1_bestOffer wsX1_bestOffer) := goodIn_app (goodIn_of _ (by decide +kernel)) ggX1_offers_X1_bestOffer
set_option maxRecDepth 20000 in
theorem ggX1_offers_X0_has : GoodIn wsX1_offers wsX0_has := goodIn_r _ [57, 38, 76, 77, 78, 79, 80] (by decide +kernel) (by decide +kernel)
set_option maxRecDepth 20000 in
theorem gX1_offers_X0_has : GoodIn wsX1_offers (wsV RX1 68 RX0 yX0_has wsX0_has) := goodIn_app (goodIn_of _ (by decide +kernel)) ggX1_offers_X0_has
set_option maxRecDepth 20000 in
theorem ggX1_offers_X0_worthAt : GoodIn wsX1_offers wsX0_worthAt := goodIn_r _ [37, 38, 39, 76, 77, 78, 79, 80] (by decide +kernel) (by decide +kernel)
set_option maxRecDepth 20000 in
theorem gX1_offers_X0_worthAt : GoodIn wsX1_offers (wsV RX1 61 RX0 yX0_worthAt wsX0_worthAt) := goodIn_app (goodIn_of _ (by decide +kernel)) ggX1_offers_X0_worthAt
set_option maxRecDepth 20000 in
theorem ggX1_offers_X1_offerBrings : GoodIn wsX1_offers wsX1_offerBrings := goodIn_r _ [28, 29, 30, 31, 32, 33, 34, 35, 36, 37, 38, 39, 40, 41, 42, 43, 44, 45, 46, 47, 48, 49, 50, 51, 52, 53, 76, 77, 78, 79, 80] (by decide +kernel) (by decide +kernel)
set_option maxRecDepth 20000 in
theorem gX1_offers_X1_offerBrings : GoodIn wsX1_offers (va_wsS RX1 147 yX1_offerBrings wsX1_offerBrings) := goodIn_app (goodIn_of _ (by decide +kernel)) ggX1_offers_X1_offerBrings
set_option maxRecDepth 20000 in
theorem ggX1_offers_X0_allWeights : GoodIn wsX1_offers wsX0_allWeights := goodIn_r _ [52, 40, 41, 42, 32, 43, 44, 45, 46, 47, 38, 48, 76, 77, 78, 79, 80] (by decide +kernel) (by decide +kernel)
set_option maxRecDepth 20000 in
theorem gX1_offers_X0_allWeights : GoodIn wsX1_offers (wsV RX1 80 RX0 yX0_allWeights wsX0_allWeights) := goodIn_app (goodIn_of _ (by decide +kernel)) ggX1_offers_X0_allWeights
set_option maxRecDepth 20000 in
theorem ggX1_offers_X1_leastPart : GoodIn wsX1_offers wsX1_leastPart := goodIn_r _ [61, 62, 63, 46, 64, 1, 65, 66, 7, 67] (by decide +kernel) (by decide +kernel)
set_option maxRecDepth 20000 in
theorem gX1_offers_X1_leastPart : GoodIn wsX1_offers (va_wsS RX1 99 yX1_leastPart wsX1_leastPart) := goodIn_app (goodIn_of _ (by decide +kernel)) ggX1_offers_X1_leastPart
theorem dX1_offers_0 : decode cX1_offers 0 = .ok (.aload_n 0, 1) := by decide +kernel
theorem dX1_offers_1 : decode cX1_offers 1 = .ok (.iload_n 1, 1) := by decide +kernel
theorem dX1_offers_2 : decode cX1_offers 2 = .ok (.invokevirtual 138, 3) := by decide +kernel
theorem dX1_offers_5 : decode cX1_offers 5 = .ok (.ifCond .eq 20, 3) := by decide +kernel
theorem dX1_offers_8 : decode cX1_offers 8 = .ok (.iload_n 2, 1) := by decide +kernel
theorem dX1_offers_9 : decode cX1_offers 9 = .ok (.invokestatic 87, 3) := by decide +kernel
theorem dX1_offers_12 : decode cX1_offers 12 = .ok (.ifCond .ne 17, 3) := by decide +kernel
theorem dX1_offers_15 : decode cX1_offers 15 = .ok (.aload_n 0, 1) := by decide +kernel
theorem dX1_offers_16 : decode cX1_offers 16 = .ok (.iload_n 2, 1) := by decide +kernel
theorem dX1_offers_17 : decode cX1_offers 17 = .ok (.iconst 2, 1) := by decide +kernel
theorem dX1_offers_18 : decode cX1_offers 18 = .ok (.isub, 1) := by decide +kernel
theorem dX1_offers_19 : decode cX1_offers 19 = .ok (.invokevirtual 44, 3) := by decide +kernel
theorem dX1_offers_22 : decode cX1_offers 22 = .ok (.ifCond .ne 7, 3) := by decide +kernel
theorem dX1_offers_25 : decode cX1_offers 25 = .ok (.ldc2_w 90, 3) := by decide +kernel
theorem dX1_offers_28 : decode cX1_offers 28 = .ok (.lreturn, 1) := by decide +kernel
theorem dX1_offers_29 : decode cX1_offers 29 = .ok (.lconst 0, 1) := by decide +kernel
theorem dX1_offers_30 : decode cX1_offers 30 = .ok (.lstore_n 3, 1) := by decide +kernel
theorem dX1_offers_31 : decode cX1_offers 31 = .ok (.lconst 1, 1) := by decide +kernel
theorem dX1_offers_32 : decode cX1_offers 32 = .ok (.lstore 5, 2) := by decide +kernel
theorem dX1_offers_34 : decode cX1_offers 34 = .ok (.iload_n 1, 1) := by decide +kernel
theorem dX1_offers_35 : decode cX1_offers 35 = .ok (.istore 7, 2) := by decide +kernel
theorem dX1_offers_37 : decode cX1_offers 37 = .ok (.iconst 0, 1) := by decide +kernel
theorem dX1_offers_38 : decode cX1_offers 38 = .ok (.istore 8, 2) := by decide +kernel
theorem dX1_offers_40 : decode cX1_offers 40 = .ok (.iload 8, 2) := by decide +kernel
theorem dX1_offers_42 : decode cX1_offers 42 = .ok (.aload_n 0, 1) := by decide +kernel
theorem dX1_offers_43 : decode cX1_offers 43 = .ok (.getfield 26, 3) := by decide +kernel
theorem dX1_offers_46 : decode cX1_offers 46 = .ok (.if_icmp .ge 94, 3) := by decide +kernel
theorem dX1_offers_49 : decode cX1_offers 49 = .ok (.iload 7, 2) := by decide +kernel
theorem dX1_offers_51 : decode cX1_offers 51 = .ok (.iconst 3, 1) := by decide +kernel
theorem dX1_offers_52 : decode cX1_offers 52 = .ok (.irem, 1) := by decide +kernel
theorem dX1_offers_53 : decode cX1_offers 53 = .ok (.istore 9, 2) := by decide +kernel
theorem dX1_offers_55 : decode cX1_offers 55 = .ok (.iload 7, 2) := by decide +kernel
theorem dX1_offers_57 : decode cX1_offers 57 = .ok (.iconst 3, 1) := by decide +kernel
theorem dX1_offers_58 : decode cX1_offers 58 = .ok (.idiv, 1) := by decide +kernel
theorem dX1_offers_59 : decode cX1_offers 59 = .ok (.istore 7, 2) := by decide +kernel
theorem dX1_offers_61 : decode cX1_offers 61 = .ok (.aload_n 0, 1) := by decide +kernel
theorem dX1_offers_62 : decode cX1_offers 62 = .ok (.iload 9, 2) := by decide +kernel
theorem dX1_offers_64 : decode cX1_offers 64 = .ok (.invokevirtual 54, 3) := by decide +kernel
theorem dX1_offers_67 : decode cX1_offers 67 = .ok (.astore 10, 2) := by decide +kernel
theorem dX1_offers_69 : decode cX1_offers 69 = .ok (.aload 10, 2) := by decide +kernel
theorem dX1_offers_71 : decode cX1_offers 71 = .ok (.lload_n 3, 1) := by decide +kernel
theorem dX1_offers_72 : decode cX1_offers 72 = .ok (.lload 5, 2) := by decide +kernel
theorem dX1_offers_74 : decode cX1_offers 74 = .ok (.invokestatic 141, 3) := by decide +kernel
theorem dX1_offers_77 : decode cX1_offers 77 = .ok (.istore 11, 2) := by decide +kernel
theorem dX1_offers_79 : decode cX1_offers 79 = .ok (.iload 9, 2) := by decide +kernel
theorem dX1_offers_81 : decode cX1_offers 81 = .ok (.iload_n 2, 1) := by decide +kernel
theorem dX1_offers_82 : decode cX1_offers 82 = .ok (.iconst 2, 1) := by decide +kernel
theorem dX1_offers_83 : decode cX1_offers 83 = .ok (.isub, 1) := by decide +kernel
theorem dX1_offers_84 : decode cX1_offers 84 = .ok (.if_icmp .ne 28, 3) := by decide +kernel
theorem dX1_offers_87 : decode cX1_offers 87 = .ok (.aload 10, 2) := by decide +kernel
theorem dX1_offers_89 : decode cX1_offers 89 = .ok (.iload 11, 2) := by decide +kernel
theorem dX1_offers_91 : decode cX1_offers 91 = .ok (.invokevirtual 68, 3) := by decide +kernel
theorem dX1_offers_94 : decode cX1_offers 94 = .ok (.ifCond .eq 14, 3) := by decide +kernel
theorem dX1_offers_97 : decode cX1_offers 97 = .ok (.aload 10, 2) := by decide +kernel
theorem dX1_offers_99 : decode cX1_offers 99 = .ok (.iload 11, 2) := by decide +kernel
theorem dX1_offers_101 : decode cX1_offers 101 = .ok (.invokevirtual 61, 3) := by decide +kernel
theorem dX1_offers_104 : decode cX1_offers 104 = .ok (.i2l, 1) := by decide +kernel
theorem dX1_offers_105 : decode cX1_offers 105 = .ok (.goto 6, 3) := by decide +kernel
theorem dX1_offers_108 : decode cX1_offers 108 = .ok (.ldc2_w 145, 3) := by decide +kernel
theorem dX1_offers_111 : decode cX1_offers 111 = .ok (.lreturn, 1) := by decide +kernel
theorem dX1_offers_112 : decode cX1_offers 112 = .ok (.aload 10, 2) := by decide +kernel
theorem dX1_offers_114 : decode cX1_offers 114 = .ok (.iload 11, 2) := by decide +kernel
theorem dX1_offers_116 : decode cX1_offers 116 = .ok (.lload_n 3, 1) := by decide +kernel
theorem dX1_offers_117 : decode cX1_offers 117 = .ok (.lload 5, 2) := by decide +kernel
theorem dX1_offers_119 : decode cX1_offers 119 = .ok (.invokestatic 147, 3) := by decide +kernel
theorem dX1_offers_122 : decode cX1_offers 122 = .ok (.lstore_n 3, 1) := by decide +kernel
theorem dX1_offers_123 : decode cX1_offers 123 = .ok (.lload 5, 2) := by decide +kernel
theorem dX1_offers_125 : decode cX1_offers 125 = .ok (.aload 10, 2) := by decide +kernel
theorem dX1_offers_127 : decode cX1_offers 127 = .ok (.invokevirtual 80, 3) := by decide +kernel
theorem dX1_offers_130 : decode cX1_offers 130 = .ok (.i2l, 1) := by decide +kernel
theorem dX1_offers_131 : decode cX1_offers 131 = .ok (.lmul, 1) := by decide +kernel
theorem dX1_offers_132 : decode cX1_offers 132 = .ok (.lstore 5, 2) := by decide +kernel
theorem dX1_offers_134 : decode cX1_offers 134 = .ok (.iinc 8 1, 3) := by decide +kernel
theorem dX1_offers_137 : decode cX1_offers 137 = .ok (.goto (-97), 3) := by decide +kernel
theorem dX1_offers_140 : decode cX1_offers 140 = .ok (.lload_n 3, 1) := by decide +kernel
theorem dX1_offers_141 : decode cX1_offers 141 = .ok (.lload 5, 2) := by decide +kernel
theorem dX1_offers_143 : decode cX1_offers 143 = .ok (.iload_n 2, 1) := by decide +kernel
theorem dX1_offers_144 : decode cX1_offers 144 = .ok (.invokestatic 99, 3) := by decide +kernel
theorem dX1_offers_147 : decode cX1_offers 147 = .ok (.lreturn, 1) := by decide +kernel
set_option maxRecDepth 20000 in
theorem ggX1_bundle_X1_isBuyer : GoodIn wsX1_bundle wsX1_isBuyer := goodIn_r _ [5, 6, 61, 62, 63, 64, 65, 66, 67, 68] (by decide +kernel) (by decide +kernel)
set_option maxRecDepth 20000 in
theorem gX1_bundle_X1_isBuyer : GoodIn wsX1_bundle (wsV RX1 44 RX1 yX1_isBuyer wsX1_isBuyer) := goodIn_app (goodIn_of _ (by decide +kernel)) ggX1_bundle_X1_isBuyer
set_option maxRecDepth 20000 in
theorem ggX1_bundle_X1_bookOf : GoodIn wsX1_bundle wsX1_bookOf := goodIn_r _ [10, 11, 12, 13, 61, 62, 63, 64, 65, 66, 67, 68] (by decide +kernel) (by decide +kernel)
set_option maxRecDepth 20000 in
theorem gX1_bundle_X1_bookOf : GoodIn wsX1_bundle (wsV RX1 54 RX1 yX1_bookOf wsX1_bookOf) := goodIn_app (goodIn_of _ (by decide +kernel)) ggX1_bundle_X1_bookOf
set_option maxRecDepth 20000 in
theorem ggX1_bundle_X1_bestSum : GoodIn wsX1_bundle wsX1_bestSum := goodIn_r _ [16, 17, 18, 19, 20, 21, 22, 23, 24, 25, 4, 26, 27, 28, 29, 30, 31, 69, 70, 71, 72, 73] (by decide +kernel) (by decide +kernel)
set_option maxRecDepth 20000 in
theorem gX1_bundle_X1_bestSum : GoodIn wsX1_bundle (va_wsS RX1 151 yX1_bestSum wsX1_bestSum) := goodIn_app (goodIn_of _ (by decide +kernel)) ggX1_bundle_X1_bestSum
set_option maxRecDepth 20000 in
theorem ggX1_bundle_X1_pairsFrom : GoodIn wsX1_bundle wsX1_pairsFrom := goodIn_r _ [26, 17, 18, 19, 20, 21, 22, 23, 27, 28, 29, 30, 31, 69, 70, 71, 72, 73] (by decide +kernel) (by decide +kernel)
set_option maxRecDepth 20000 in
theorem gX1_bundle_X1_pairsFrom : GoodIn wsX1_bundle (va_wsS RX1 155 yX1_pairsFrom wsX1_pairsFrom) := goodIn_app (goodIn_of _ (by decide +kernel)) ggX1_bundle_X1_pairsFrom
set_option maxRecDepth 20000 in
theorem ggX1_bundle_X1_bothAlone : GoodIn wsX1_bundle wsX1_bothAlone := goodIn_r _ [34, 35, 36, 37, 20, 38, 22, 39, 40, 41, 42, 43, 18, 19, 21, 23, 44, 45, 46, 47, 48, 49, 50, 51, 31, 52, 53, 54, 55, 56, 69, 70, 71, 72, 73] (by decide +kernel) (by decide +kernel)
set_option maxRecDepth 20000 in
theorem gX1_bundle_X1_bothAlone : GoodIn wsX1_bundle (va_wsS RX1 159 yX1_bothAlone wsX1_bothAlone) := goodIn_app (goodIn_of _ (by decide +kernel)) ggX1_bundle_X1_bothAlone
set_option maxRecDepth 20000 in
theorem ggX1_bundle_J6_signum_0f7a4 : GoodIn wsX1_bundle wsJ6_signum_0f7a4 := goodIn_r _ [60] (by decide +kernel) (by decide +kernel)
set_option maxRecDepth 20000 in
theorem gX1_bundle_J6_signum_0f7a4 : GoodIn wsX1_bundle (va_wsS RX1 162 yJ6_signum_0f7a4 wsJ6_signum_0f7a4) := goodIn_app (goodIn_of _ (by decide +kernel)) ggX1_bundle_J6_signum_0f7a4
theorem dX1_bundle_0 : decode cX1_bundle 0 = .ok (.aload_n 0, 1) := by decide +kernel
theorem dX1_bundle_1 : decode cX1_bundle 1 = .ok (.iload_n 1, 1) := by decide +kernel
theorem dX1_bundle_2 : decode cX1_bundle 2 = .ok (.invokevirtual 44, 3) := by decide +kernel
theorem dX1_bundle_5 : decode cX1_bundle 5 = .ok (.ifCond .eq 16, 3) := by decide +kernel
theorem dX1_bundle_8 : decode cX1_bundle 8 = .ok (.aload_n 0, 1) := by decide +kernel
theorem dX1_bundle_9 : decode cX1_bundle 9 = .ok (.iload_n 2, 1) := by decide +kernel
theorem dX1_bundle_10 : decode cX1_bundle 10 = .ok (.invokevirtual 44, 3) := by decide +kernel
theorem dX1_bundle_13 : decode cX1_bundle 13 = .ok (.ifCond .eq 8, 3) := by decide +kernel
theorem dX1_bundle_16 : decode cX1_bundle 16 = .ok (.iload_n 1, 1) := by decide +kernel
theorem dX1_bundle_17 : decode cX1_bundle 17 = .ok (.iload_n 2, 1) := by decide +kernel
theorem dX1_bundle_18 : decode cX1_bundle 18 = .ok (.if_icmp .ne 6, 3) := by decide +kernel
theorem dX1_bundle_21 : decode cX1_bundle 21 = .ok (.bipush (-5), 2) := by decide +kernel
theorem dX1_bundle_23 : decode cX1_bundle 23 = .ok (.ireturn, 1) := by decide +kernel
theorem dX1_bundle_24 : decode cX1_bundle 24 = .ok (.aload_n 0, 1) := by decide +kernel
theorem dX1_bundle_25 : decode cX1_bundle 25 = .ok (.iload_n 1, 1) := by decide +kernel
theorem dX1_bundle_26 : decode cX1_bundle 26 = .ok (.invokevirtual 54, 3) := by decide +kernel
theorem dX1_bundle_29 : decode cX1_bundle 29 = .ok (.astore 4, 2) := by decide +kernel
theorem dX1_bundle_31 : decode cX1_bundle 31 = .ok (.aload_n 0, 1) := by decide +kernel
theorem dX1_bundle_32 : decode cX1_bundle 32 = .ok (.iload_n 2, 1) := by decide +kernel
theorem dX1_bundle_33 : decode cX1_bundle 33 = .ok (.invokevirtual 54, 3) := by decide +kernel
theorem dX1_bundle_36 : decode cX1_bundle 36 = .ok (.astore 5, 2) := by decide +kernel
theorem dX1_bundle_38 : decode cX1_bundle 38 = .ok (.aload 4, 2) := by decide +kernel
theorem dX1_bundle_40 : decode cX1_bundle 40 = .ok (.aload 5, 2) := by decide +kernel
theorem dX1_bundle_42 : decode cX1_bundle 42 = .ok (.invokestatic 151, 3) := by decide +kernel
theorem dX1_bundle_45 : decode cX1_bundle 45 = .ok (.istore 6, 2) := by decide +kernel
theorem dX1_bundle_47 : decode cX1_bundle 47 = .ok (.aload 4, 2) := by decide +kernel
theorem dX1_bundle_49 : decode cX1_bundle 49 = .ok (.aload 5, 2) := by decide +kernel
theorem dX1_bundle_51 : decode cX1_bundle 51 = .ok (.iload 6, 2) := by decide +kernel
theorem dX1_bundle_53 : decode cX1_bundle 53 = .ok (.invokestatic 155, 3) := by decide +kernel
theorem dX1_bundle_56 : decode cX1_bundle 56 = .ok (.istore 7, 2) := by decide +kernel
theorem dX1_bundle_58 : decode cX1_bundle 58 = .ok (.iload_n 3, 1) := by decide +kernel
theorem dX1_bundle_59 : decode cX1_bundle 59 = .ok (.tableswitch 48 0 2 #[25, 28, 31], 25) := by decide +kernel
theorem dX1_bundle_84 : decode cX1_bundle 84 = .ok (.iload 6, 2) := by decide +kernel
theorem dX1_bundle_86 : decode cX1_bundle 86 = .ok (.ireturn, 1) := by decide +kernel
theorem dX1_bundle_87 : decode cX1_bundle 87 = .ok (.iload 7, 2) := by decide +kernel
theorem dX1_bundle_89 : decode cX1_bundle 89 = .ok (.ireturn, 1) := by decide +kernel
theorem dX1_bundle_90 : decode cX1_bundle 90 = .ok (.iload 6, 2) := by decide +kernel
theorem dX1_bundle_92 : decode cX1_bundle 92 = .ok (.iload 7, 2) := by decide +kernel
theorem dX1_bundle_94 : decode cX1_bundle 94 = .ok (.imul, 1) := by decide +kernel
theorem dX1_bundle_95 : decode cX1_bundle 95 = .ok (.aload 4, 2) := by decide +kernel
theorem dX1_bundle_97 : decode cX1_bundle 97 = .ok (.aload 5, 2) := by decide +kernel
theorem dX1_bundle_99 : decode cX1_bundle 99 = .ok (.invokestatic 159, 3) := by decide +kernel
theorem dX1_bundle_102 : decode cX1_bundle 102 = .ok (.isub, 1) := by decide +kernel
theorem dX1_bundle_103 : decode cX1_bundle 103 = .ok (.invokestatic 162, 3) := by decide +kernel
theorem dX1_bundle_106 : decode cX1_bundle 106 = .ok (.ireturn, 1) := by decide +kernel
theorem dX1_bundle_107 : decode cX1_bundle 107 = .ok (.bipush (-5), 2) := by decide +kernel
theorem dX1_bundle_109 : decode cX1_bundle 109 = .ok (.ireturn, 1) := by decide +kernel
set_option maxRecDepth 20000 in
theorem ggX1_sample_X1_isWorth : GoodIn wsX1_sample wsX1_isWorth := goodIn_r _ [6] (by decide +kernel) (by decide +kernel)
set_option maxRecDepth 20000 in
theorem gX1_sample_X1_isWorth : GoodIn wsX1_sample (va_wsS RX1 48 yX1_isWorth wsX1_isWorth) := goodIn_app (goodIn_of _ (by decide +kernel)) ggX1_sample_X1_isWorth
theorem dX1_sample_0 : decode cX1_sample 0 = .ok (.iload_n 1, 1) := by decide +kernel
theorem dX1_sample_1 : decode cX1_sample 1 = .ok (.invokestatic 48, 3) := by decide +kernel
theorem dX1_sample_4 : decode cX1_sample 4 = .ok (.ifCond .ne 5, 3) := by decide +kernel
theorem dX1_sample_7 : decode cX1_sample 7 = .ok (.iconst (-1), 1) := by decide +kernel
theorem dX1_sample_8 : decode cX1_sample 8 = .ok (.ireturn, 1) := by decide +kernel
theorem dX1_sample_9 : decode cX1_sample 9 = .ok (.aload_n 0, 1) := by decide +kernel
theorem dX1_sample_10 : decode cX1_sample 10 = .ok (.getfield 30, 3) := by decide +kernel
theorem dX1_sample_13 : decode cX1_sample 13 = .ok (.bipush 12, 2) := by decide +kernel
theorem dX1_sample_15 : decode cX1_sample 15 = .ok (.if_icmp .lt 6, 3) := by decide +kernel
theorem dX1_sample_18 : decode cX1_sample 18 = .ok (.bipush (-3), 2) := by decide +kernel
theorem dX1_sample_20 : decode cX1_sample 20 = .ok (.ireturn, 1) := by decide +kernel
theorem dX1_sample_21 : decode cX1_sample 21 = .ok (.aload_n 0, 1) := by decide +kernel
theorem dX1_sample_22 : decode cX1_sample 22 = .ok (.getfield 22, 3) := by decide +kernel
theorem dX1_sample_25 : decode cX1_sample 25 = .ok (.aload_n 0, 1) := by decide +kernel
theorem dX1_sample_26 : decode cX1_sample 26 = .ok (.getfield 30, 3) := by decide +kernel
theorem dX1_sample_29 : decode cX1_sample 29 = .ok (.iload_n 1, 1) := by decide +kernel
theorem dX1_sample_30 : decode cX1_sample 30 = .ok (.iastore, 1) := by decide +kernel
theorem dX1_sample_31 : decode cX1_sample 31 = .ok (.aload_n 0, 1) := by decide +kernel
theorem dX1_sample_32 : decode cX1_sample 32 = .ok (.dup, 1) := by decide +kernel
theorem dX1_sample_33 : decode cX1_sample 33 = .ok (.getfield 30, 3) := by decide +kernel
theorem dX1_sample_36 : decode cX1_sample 36 = .ok (.iconst 1, 1) := by decide +kernel
theorem dX1_sample_37 : decode cX1_sample 37 = .ok (.iadd, 1) := by decide +kernel
theorem dX1_sample_38 : decode cX1_sample 38 = .ok (.putfield 30, 3) := by decide +kernel
theorem dX1_sample_41 : decode cX1_sample 41 = .ok (.aload_n 0, 1) := by decide +kernel
theorem dX1_sample_42 : decode cX1_sample 42 = .ok (.getfield 30, 3) := by decide +kernel
theorem dX1_sample_45 : decode cX1_sample 45 = .ok (.ireturn, 1) := by decide +kernel
theorem dX1_clear_0 : decode cX1_clear 0 = .ok (.aload_n 0, 1) := by decide +kernel
theorem dX1_clear_1 : decode cX1_clear 1 = .ok (.getfield 30, 3) := by decide +kernel
theorem dX1_clear_4 : decode cX1_clear 4 = .ok (.istore_n 1, 1) := by decide +kernel
theorem dX1_clear_5 : decode cX1_clear 5 = .ok (.aload_n 0, 1) := by decide +kernel
theorem dX1_clear_6 : decode cX1_clear 6 = .ok (.iconst 0, 1) := by decide +kernel
theorem dX1_clear_7 : decode cX1_clear 7 = .ok (.putfield 30, 3) := by decide +kernel
theorem dX1_clear_10 : decode cX1_clear 10 = .ok (.iload_n 1, 1) := by decide +kernel
theorem dX1_clear_11 : decode cX1_clear 11 = .ok (.ireturn, 1) := by decide +kernel
set_option maxRecDepth 20000 in
theorem ggX1_learnt_X1_samplesFrom : GoodIn wsX1_learnt wsX1_samplesFrom := goodIn_r _ [7, 1, 2, 8, 9, 10, 11, 12, 13, 14, 15] (by decide +kernel) (by decide +kernel)
set_option maxRecDepth 20000 in
theorem gX1_learnt_X1_samplesFrom : GoodIn wsX1_learnt (wsV RX1 167 RX1 yX1_samplesFrom wsX1_samplesFrom) := goodIn_app (goodIn_of _ (by decide +kernel)) ggX1_learnt_X1_samplesFrom
theorem dX1_learnt_0 : decode cX1_learnt 0 = .ok (.bipush (-9), 2) := by decide +kernel
theorem dX1_learnt_2 : decode cX1_learnt 2 = .ok (.istore_n 1, 1) := by decide +kernel
theorem dX1_learnt_3 : decode cX1_learnt 3 = .ok (.iconst (-1), 1) := by decide +kernel
theorem dX1_learnt_4 : decode cX1_learnt 4 = .ok (.istore_n 2, 1) := by decide +kernel
theorem dX1_learnt_5 : decode cX1_learnt 5 = .ok (.iconst 0, 1) := by decide +kernel
theorem dX1_learnt_6 : decode cX1_learnt 6 = .ok (.istore_n 3, 1) := by decide +kernel
theorem dX1_learnt_7 : decode cX1_learnt 7 = .ok (.iload_n 3, 1) := by decide +kernel
theorem dX1_learnt_8 : decode cX1_learnt 8 = .ok (.aload_n 0, 1) := by decide +kernel
theorem dX1_learnt_9 : decode cX1_learnt 9 = .ok (.getfield 30, 3) := by decide +kernel
theorem dX1_learnt_12 : decode cX1_learnt 12 = .ok (.if_icmp .ge 60, 3) := by decide +kernel
theorem dX1_learnt_15 : decode cX1_learnt 15 = .ok (.aload_n 0, 1) := by decide +kernel
theorem dX1_learnt_16 : decode cX1_learnt 16 = .ok (.getfield 22, 3) := by decide +kernel
theorem dX1_learnt_19 : decode cX1_learnt 19 = .ok (.iload_n 3, 1) := by decide +kernel
theorem dX1_learnt_20 : decode cX1_learnt 20 = .ok (.iaload, 1) := by decide +kernel
theorem dX1_learnt_21 : decode cX1_learnt 21 = .ok (.aload_n 0, 1) := by decide +kernel
theorem dX1_learnt_22 : decode cX1_learnt 22 = .ok (.aload_n 0, 1) := by decide +kernel
theorem dX1_learnt_23 : decode cX1_learnt 23 = .ok (.getfield 22, 3) := by decide +kernel
theorem dX1_learnt_26 : decode cX1_learnt 26 = .ok (.iload_n 3, 1) := by decide +kernel
theorem dX1_learnt_27 : decode cX1_learnt 27 = .ok (.iaload, 1) := by decide +kernel
theorem dX1_learnt_28 : decode cX1_learnt 28 = .ok (.invokevirtual 167, 3) := by decide +kernel
theorem dX1_learnt_31 : decode cX1_learnt 31 = .ok (.imul, 1) := by decide +kernel
theorem dX1_learnt_32 : decode cX1_learnt 32 = .ok (.istore 4, 2) := by decide +kernel
theorem dX1_learnt_34 : decode cX1_learnt 34 = .ok (.iload 4, 2) := by decide +kernel
theorem dX1_learnt_36 : decode cX1_learnt 36 = .ok (.iload_n 2, 1) := by decide +kernel
theorem dX1_learnt_37 : decode cX1_learnt 37 = .ok (.if_icmp .gt 19, 3) := by decide +kernel
theorem dX1_learnt_40 : decode cX1_learnt 40 = .ok (.iload 4, 2) := by decide +kernel
theorem dX1_learnt_42 : decode cX1_learnt 42 = .ok (.iload_n 2, 1) := by decide +kernel
theorem dX1_learnt_43 : decode cX1_learnt 43 = .ok (.if_icmp .ne 23, 3) := by decide +kernel
theorem dX1_learnt_46 : decode cX1_learnt 46 = .ok (.aload_n 0, 1) := by decide +kernel
theorem dX1_learnt_47 : decode cX1_learnt 47 = .ok (.getfield 22, 3) := by decide +kernel
theorem dX1_learnt_50 : decode cX1_learnt 50 = .ok (.iload_n 3, 1) := by decide +kernel
theorem dX1_learnt_51 : decode cX1_learnt 51 = .ok (.iaload, 1) := by decide +kernel
theorem dX1_learnt_52 : decode cX1_learnt 52 = .ok (.iload_n 1, 1) := by decide +kernel
theorem dX1_learnt_53 : decode cX1_learnt 53 = .ok (.if_icmp .ge 13, 3) := by decide +kernel
theorem dX1_learnt_56 : decode cX1_learnt 56 = .ok (.aload_n 0, 1) := by decide +kernel
theorem dX1_learnt_57 : decode cX1_learnt 57 = .ok (.getfield 22, 3) := by decide +kernel
theorem dX1_learnt_60 : decode cX1_learnt 60 = .ok (.iload_n 3, 1) := by decide +kernel
theorem dX1_learnt_61 : decode cX1_learnt 61 = .ok (.iaload, 1) := by decide +kernel
theorem dX1_learnt_62 : decode cX1_learnt 62 = .ok (.istore_n 1, 1) := by decide +kernel
theorem dX1_learnt_63 : decode cX1_learnt 63 = .ok (.iload 4, 2) := by decide +kernel
theorem dX1_learnt_65 : decode cX1_learnt 65 = .ok (.istore_n 2, 1) := by decide +kernel
theorem dX1_learnt_66 : decode cX1_learnt 66 = .ok (.iinc 3 1, 3) := by decide +kernel
theorem dX1_learnt_69 : decode cX1_learnt 69 = .ok (.goto (-62), 3) := by decide +kernel
theorem dX1_learnt_72 : decode cX1_learnt 72 = .ok (.iload_n 1, 1) := by decide +kernel
theorem dX1_learnt_73 : decode cX1_learnt 73 = .ok (.ireturn, 1) := by decide +kernel
theorem dX1_count_0 : decode cX1_count 0 = .ok (.iload_n 1, 1) := by decide +kernel
theorem dX1_count_1 : decode cX1_count 1 = .ok (.tableswitch 42 0 2 #[27, 32, 37], 27) := by decide +kernel
theorem dX1_count_28 : decode cX1_count 28 = .ok (.aload_n 0, 1) := by decide +kernel
theorem dX1_count_29 : decode cX1_count 29 = .ok (.getfield 26, 3) := by decide +kernel
theorem dX1_count_32 : decode cX1_count 32 = .ok (.ireturn, 1) := by decide +kernel
theorem dX1_count_33 : decode cX1_count 33 = .ok (.aload_n 0, 1) := by decide +kernel
theorem dX1_count_34 : decode cX1_count 34 = .ok (.getfield 33, 3) := by decide +kernel
theorem dX1_count_37 : decode cX1_count 37 = .ok (.ireturn, 1) := by decide +kernel
theorem dX1_count_38 : decode cX1_count 38 = .ok (.aload_n 0, 1) := by decide +kernel
theorem dX1_count_39 : decode cX1_count 39 = .ok (.getfield 30, 3) := by decide +kernel
theorem dX1_count_42 : decode cX1_count 42 = .ok (.ireturn, 1) := by decide +kernel
theorem dX1_count_43 : decode cX1_count 43 = .ok (.iconst (-1), 1) := by decide +kernel
theorem dX1_count_44 : decode cX1_count 44 = .ok (.ireturn, 1) := by decide +kernel
theorem dX1_trace_0 : decode cX1_trace 0 = .ok (.aload_n 0, 1) := by decide +kernel
theorem dX1_trace_1 : decode cX1_trace 1 = .ok (.getfield 36, 3) := by decide +kernel
theorem dX1_trace_4 : decode cX1_trace 4 = .ok (.lreturn, 1) := by decide +kernel
theorem dX1_isBuyer_0 : decode cX1_isBuyer 0 = .ok (.iload_n 1, 1) := by decide +kernel
theorem dX1_isBuyer_1 : decode cX1_isBuyer 1 = .ok (.ifCond .lt 15, 3) := by decide +kernel
theorem dX1_isBuyer_4 : decode cX1_isBuyer 4 = .ok (.iload_n 1, 1) := by decide +kernel
theorem dX1_isBuyer_5 : decode cX1_isBuyer 5 = .ok (.aload_n 0, 1) := by decide +kernel
theorem dX1_isBuyer_6 : decode cX1_isBuyer 6 = .ok (.getfield 26, 3) := by decide +kernel
theorem dX1_isBuyer_9 : decode cX1_isBuyer 9 = .ok (.if_icmp .ge 7, 3) := by decide +kernel
theorem dX1_isBuyer_12 : decode cX1_isBuyer 12 = .ok (.iconst 1, 1) := by decide +kernel
theorem dX1_isBuyer_13 : decode cX1_isBuyer 13 = .ok (.goto 4, 3) := by decide +kernel
theorem dX1_isBuyer_16 : decode cX1_isBuyer 16 = .ok (.iconst 0, 1) := by decide +kernel
theorem dX1_isBuyer_17 : decode cX1_isBuyer 17 = .ok (.ireturn, 1) := by decide +kernel
theorem dX1_isWorth_0 : decode cX1_isWorth 0 = .ok (.iload_n 0, 1) := by decide +kernel
theorem dX1_isWorth_1 : decode cX1_isWorth 1 = .ok (.ifCond .lt 14, 3) := by decide +kernel
theorem dX1_isWorth_4 : decode cX1_isWorth 4 = .ok (.iload_n 0, 1) := by decide +kernel
theorem dX1_isWorth_5 : decode cX1_isWorth 5 = .ok (.sipush 1000, 3) := by decide +kernel
theorem dX1_isWorth_8 : decode cX1_isWorth 8 = .ok (.if_icmp .gt 7, 3) := by decide +kernel
theorem dX1_isWorth_11 : decode cX1_isWorth 11 = .ok (.iconst 1, 1) := by decide +kernel
theorem dX1_isWorth_12 : decode cX1_isWorth 12 = .ok (.goto 4, 3) := by decide +kernel
theorem dX1_isWorth_15 : decode cX1_isWorth 15 = .ok (.iconst 0, 1) := by decide +kernel
theorem dX1_isWorth_16 : decode cX1_isWorth 16 = .ok (.ireturn, 1) := by decide +kernel
theorem dX1_isWeight_0 : decode cX1_isWeight 0 = .ok (.iload_n 0, 1) := by decide +kernel
theorem dX1_isWeight_1 : decode cX1_isWeight 1 = .ok (.iconst 1, 1) := by decide +kernel
theorem dX1_isWeight_2 : decode cX1_isWeight 2 = .ok (.if_icmp .lt 13, 3) := by decide +kernel
theorem dX1_isWeight_5 : decode cX1_isWeight 5 = .ok (.iload_n 0, 1) := by decide +kernel
theorem dX1_isWeight_6 : decode cX1_isWeight 6 = .ok (.bipush 9, 2) := by decide +kernel
theorem dX1_isWeight_8 : decode cX1_isWeight 8 = .ok (.if_icmp .gt 7, 3) := by decide +kernel
theorem dX1_isWeight_11 : decode cX1_isWeight 11 = .ok (.iconst 1, 1) := by decide +kernel
theorem dX1_isWeight_12 : decode cX1_isWeight 12 = .ok (.goto 4, 3) := by decide +kernel
theorem dX1_isWeight_15 : decode cX1_isWeight 15 = .ok (.iconst 0, 1) := by decide +kernel
theorem dX1_isWeight_16 : decode cX1_isWeight 16 = .ok (.ireturn, 1) := by decide +kernel
theorem dX1_isPart_0 : decode cX1_isPart 0 = .ok (.iload_n 0, 1) := by decide +kernel
theorem dX1_isPart_1 : decode cX1_isPart 1 = .ok (.ifCond .eq 8, 3) := by decide +kernel
theorem dX1_isPart_4 : decode cX1_isPart 4 = .ok (.iload_n 0, 1) := by decide +kernel
theorem dX1_isPart_5 : decode cX1_isPart 5 = .ok (.iconst 1, 1) := by decide +kernel
theorem dX1_isPart_6 : decode cX1_isPart 6 = .ok (.if_icmp .ne 7, 3) := by decide +kernel
theorem dX1_isPart_9 : decode cX1_isPart 9 = .ok (.iconst 1, 1) := by decide +kernel
theorem dX1_isPart_10 : decode cX1_isPart 10 = .ok (.goto 4, 3) := by decide +kernel
theorem dX1_isPart_13 : decode cX1_isPart 13 = .ok (.iconst 0, 1) := by decide +kernel
theorem dX1_isPart_14 : decode cX1_isPart 14 = .ok (.ireturn, 1) := by decide +kernel
theorem dX1_isKind_0 : decode cX1_isKind 0 = .ok (.iload_n 0, 1) := by decide +kernel
theorem dX1_isKind_1 : decode cX1_isKind 1 = .ok (.ifCond .lt 12, 3) := by decide +kernel
theorem dX1_isKind_4 : decode cX1_isKind 4 = .ok (.iload_n 0, 1) := by decide +kernel
theorem dX1_isKind_5 : decode cX1_isKind 5 = .ok (.iconst 2, 1) := by decide +kernel
theorem dX1_isKind_6 : decode cX1_isKind 6 = .ok (.if_icmp .gt 7, 3) := by decide +kernel
theorem dX1_isKind_9 : decode cX1_isKind 9 = .ok (.iconst 1, 1) := by decide +kernel
theorem dX1_isKind_10 : decode cX1_isKind 10 = .ok (.goto 4, 3) := by decide +kernel
theorem dX1_isKind_13 : decode cX1_isKind 13 = .ok (.iconst 0, 1) := by decide +kernel
theorem dX1_isKind_14 : decode cX1_isKind 14 = .ok (.ireturn, 1) := by decide +kernel
