set_option maxRecDepth 20000 in
theorem ggX2_comes_X2_isPlace : GoodIn wsX2_comes wsX2_isPlace := goodIn_r _ [8, 9, 10, 11, 7, 12, 13, 14, 15, 16, 17, 18, 19, 20, 21, 22, 23, 24, 25, 26] (by decide +kernel) (by decide +kernel)
set_option maxRecDepth 20000 in
theorem gX2_comes_X2_isPlace : GoodIn wsX2_comes (wsV RX2 56 RX2 yX2_isPlace wsX2_isPlace) := goodIn_app (goodIn_of _ (by decide +kernel)) ggX2_comes_X2_isPlace
theorem dX2_comes_0 : decode cX2_comes 0 = .ok (.iload_n 1, 1) := by decide +kernel
theorem dX2_comes_1 : decode cX2_comes 1 = .ok (.istore_n 2, 1) := by decide +kernel
theorem dX2_comes_2 : decode cX2_comes 2 = .ok (.iconst 1, 1) := by decide +kernel
theorem dX2_comes_3 : decode cX2_comes 3 = .ok (.istore_n 3, 1) := by decide +kernel
theorem dX2_comes_4 : decode cX2_comes 4 = .ok (.iconst 0, 1) := by decide +kernel
theorem dX2_comes_5 : decode cX2_comes 5 = .ok (.istore 4, 2) := by decide +kernel
theorem dX2_comes_7 : decode cX2_comes 7 = .ok (.iload 4, 2) := by decide +kernel
theorem dX2_comes_9 : decode cX2_comes 9 = .ok (.iconst 3, 1) := by decide +kernel
theorem dX2_comes_10 : decode cX2_comes 10 = .ok (.if_icmp .ge 93, 3) := by decide +kernel
theorem dX2_comes_13 : decode cX2_comes 13 = .ok (.aload_n 0, 1) := by decide +kernel
theorem dX2_comes_14 : decode cX2_comes 14 = .ok (.getfield 26, 3) := by decide +kernel
theorem dX2_comes_17 : decode cX2_comes 17 = .ok (.iload 4, 2) := by decide +kernel
theorem dX2_comes_19 : decode cX2_comes 19 = .ok (.iload_n 2, 1) := by decide +kernel
theorem dX2_comes_20 : decode cX2_comes 20 = .ok (.iconst 5, 1) := by decide +kernel
theorem dX2_comes_21 : decode cX2_comes 21 = .ok (.irem, 1) := by decide +kernel
theorem dX2_comes_22 : decode cX2_comes 22 = .ok (.iastore, 1) := by decide +kernel
theorem dX2_comes_23 : decode cX2_comes 23 = .ok (.iload_n 2, 1) := by decide +kernel
theorem dX2_comes_24 : decode cX2_comes 24 = .ok (.iconst 5, 1) := by decide +kernel
theorem dX2_comes_25 : decode cX2_comes 25 = .ok (.idiv, 1) := by decide +kernel
theorem dX2_comes_26 : decode cX2_comes 26 = .ok (.istore_n 2, 1) := by decide +kernel
theorem dX2_comes_27 : decode cX2_comes 27 = .ok (.iload 4, 2) := by decide +kernel
theorem dX2_comes_29 : decode cX2_comes 29 = .ok (.aload_n 0, 1) := by decide +kernel
theorem dX2_comes_30 : decode cX2_comes 30 = .ok (.getfield 7, 3) := by decide +kernel
theorem dX2_comes_33 : decode cX2_comes 33 = .ok (.if_icmp .ge 46, 3) := by decide +kernel
theorem dX2_comes_36 : decode cX2_comes 36 = .ok (.iload_n 3, 1) := by decide +kernel
theorem dX2_comes_37 : decode cX2_comes 37 = .ok (.aload_n 0, 1) := by decide +kernel
theorem dX2_comes_38 : decode cX2_comes 38 = .ok (.iload 4, 2) := by decide +kernel
theorem dX2_comes_40 : decode cX2_comes 40 = .ok (.aload_n 0, 1) := by decide +kernel
theorem dX2_comes_41 : decode cX2_comes 41 = .ok (.getfield 26, 3) := by decide +kernel
theorem dX2_comes_44 : decode cX2_comes 44 = .ok (.iload 4, 2) := by decide +kernel
theorem dX2_comes_46 : decode cX2_comes 46 = .ok (.iaload, 1) := by decide +kernel
theorem dX2_comes_47 : decode cX2_comes 47 = .ok (.invokevirtual 56, 3) := by decide +kernel
theorem dX2_comes_50 : decode cX2_comes 50 = .ok (.ifCond .eq 23, 3) := by decide +kernel
theorem dX2_comes_53 : decode cX2_comes 53 = .ok (.aload_n 0, 1) := by decide +kernel
theorem dX2_comes_54 : decode cX2_comes 54 = .ok (.getfield 20, 3) := by decide +kernel
theorem dX2_comes_57 : decode cX2_comes 57 = .ok (.iconst 5, 1) := by decide +kernel
theorem dX2_comes_58 : decode cX2_comes 58 = .ok (.iload 4, 2) := by decide +kernel
theorem dX2_comes_60 : decode cX2_comes 60 = .ok (.imul, 1) := by decide +kernel
theorem dX2_comes_61 : decode cX2_comes 61 = .ok (.aload_n 0, 1) := by decide +kernel
theorem dX2_comes_62 : decode cX2_comes 62 = .ok (.getfield 26, 3) := by decide +kernel
theorem dX2_comes_65 : decode cX2_comes 65 = .ok (.iload 4, 2) := by decide +kernel
theorem dX2_comes_67 : decode cX2_comes 67 = .ok (.iaload, 1) := by decide +kernel
theorem dX2_comes_68 : decode cX2_comes 68 = .ok (.iadd, 1) := by decide +kernel
theorem dX2_comes_69 : decode cX2_comes 69 = .ok (.iaload, 1) := by decide +kernel
theorem dX2_comes_70 : decode cX2_comes 70 = .ok (.goto 4, 3) := by decide +kernel
theorem dX2_comes_73 : decode cX2_comes 73 = .ok (.iconst 0, 1) := by decide +kernel
theorem dX2_comes_74 : decode cX2_comes 74 = .ok (.imul, 1) := by decide +kernel
theorem dX2_comes_75 : decode cX2_comes 75 = .ok (.istore_n 3, 1) := by decide +kernel
theorem dX2_comes_76 : decode cX2_comes 76 = .ok (.goto 21, 3) := by decide +kernel
theorem dX2_comes_79 : decode cX2_comes 79 = .ok (.iload_n 3, 1) := by decide +kernel
theorem dX2_comes_80 : decode cX2_comes 80 = .ok (.aload_n 0, 1) := by decide +kernel
theorem dX2_comes_81 : decode cX2_comes 81 = .ok (.getfield 26, 3) := by decide +kernel
theorem dX2_comes_84 : decode cX2_comes 84 = .ok (.iload 4, 2) := by decide +kernel
theorem dX2_comes_86 : decode cX2_comes 86 = .ok (.iaload, 1) := by decide +kernel
theorem dX2_comes_87 : decode cX2_comes 87 = .ok (.ifCond .ne 7, 3) := by decide +kernel
theorem dX2_comes_90 : decode cX2_comes 90 = .ok (.iconst 1, 1) := by decide +kernel
theorem dX2_comes_91 : decode cX2_comes 91 = .ok (.goto 4, 3) := by decide +kernel
theorem dX2_comes_94 : decode cX2_comes 94 = .ok (.iconst 0, 1) := by decide +kernel
theorem dX2_comes_95 : decode cX2_comes 95 = .ok (.imul, 1) := by decide +kernel
theorem dX2_comes_96 : decode cX2_comes 96 = .ok (.istore_n 3, 1) := by decide +kernel
theorem dX2_comes_97 : decode cX2_comes 97 = .ok (.iinc 4 1, 3) := by decide +kernel
theorem dX2_comes_100 : decode cX2_comes 100 = .ok (.goto (-93), 3) := by decide +kernel
theorem dX2_comes_103 : decode cX2_comes 103 = .ok (.iload_n 3, 1) := by decide +kernel
theorem dX2_comes_104 : decode cX2_comes 104 = .ok (.ireturn, 1) := by decide +kernel
set_option maxRecDepth 20000 in
theorem ggX2_brings_X2_in : GoodIn wsX2_brings wsX2_in := goodIn_r _ [7] (by decide +kernel) (by decide +kernel)
set_option maxRecDepth 20000 in
theorem gX2_brings_X2_in : GoodIn wsX2_brings (va_wsS RX2 41 yX2_in wsX2_in) := goodIn_app (goodIn_of _ (by decide +kernel)) ggX2_brings_X2_in
set_option maxRecDepth 20000 in
theorem ggX2_brings_X2_comes : GoodIn wsX2_brings wsX2_comes := goodIn_r _ [11, 12, 3, 13, 14, 15, 16, 6, 17, 18, 4, 5, 7, 53, 54, 55, 56, 57, 58, 59, 60, 61, 62, 63, 64, 65, 66] (by decide +kernel) (by decide +kernel)
set_option maxRecDepth 20000 in
theorem gX2_brings_X2_comes : GoodIn wsX2_brings (wsV RX2 95 RX2 yX2_comes wsX2_comes) := goodIn_app (goodIn_of _ (by decide +kernel)) ggX2_brings_X2_comes
set_option maxRecDepth 20000 in
theorem ggX2_brings_X2_paid : GoodIn wsX2_brings wsX2_paid := goodIn_r _ [22, 12, 23, 24, 25, 26, 6, 27, 3, 28, 29, 30, 31, 32, 33, 18, 34, 35, 36, 37, 38, 39, 40, 41, 13, 53, 54, 55, 56, 57, 58, 59, 60, 61, 62, 63, 64, 65, 66] (by decide +kernel) (by decide +kernel)
set_option maxRecDepth 20000 in
theorem gX2_brings_X2_paid : GoodIn wsX2_brings (wsV RX2 92 RX2 yX2_paid wsX2_paid) := goodIn_app (goodIn_of _ (by decide +kernel)) ggX2_brings_X2_paid
set_option maxRecDepth 20000 in
theorem ggX2_brings_X2_all : GoodIn wsX2_brings wsX2_all := goodIn_r _ [45, 3, 38, 39, 40, 6, 41, 18, 13, 53, 54, 55, 56, 57, 58, 59, 60, 61, 62, 63, 64, 65, 66] (by decide +kernel) (by decide +kernel)
set_option maxRecDepth 20000 in
theorem gX2_brings_X2_all : GoodIn wsX2_brings (wsV RX2 98 RX2 yX2_all wsX2_all) := goodIn_app (goodIn_of _ (by decide +kernel)) ggX2_brings_X2_all
set_option maxRecDepth 20000 in
theorem ggX2_brings_X2_part : GoodIn wsX2_brings wsX2_part := goodIn_r _ [49, 50, 51, 6, 52] (by decide +kernel) (by decide +kernel)
set_option maxRecDepth 20000 in
theorem gX2_brings_X2_part : GoodIn wsX2_brings (wsV RX2 81 RX2 yX2_part wsX2_part) := goodIn_app (goodIn_of _ (by decide +kernel)) ggX2_brings_X2_part
theorem dX2_brings_0 : decode cX2_brings 0 = .ok (.aload_n 0, 1) := by decide +kernel
theorem dX2_brings_1 : decode cX2_brings 1 = .ok (.iconst 0, 1) := by decide +kernel
theorem dX2_brings_2 : decode cX2_brings 2 = .ok (.putfield 38, 3) := by decide +kernel
theorem dX2_brings_5 : decode cX2_brings 5 = .ok (.iload_n 1, 1) := by decide +kernel
theorem dX2_brings_6 : decode cX2_brings 6 = .ok (.iconst 0, 1) := by decide +kernel
theorem dX2_brings_7 : decode cX2_brings 7 = .ok (.iconst 1, 1) := by decide +kernel
theorem dX2_brings_8 : decode cX2_brings 8 = .ok (.invokestatic 41, 3) := by decide +kernel
theorem dX2_brings_11 : decode cX2_brings 11 = .ok (.ifCond .ne 7, 3) := by decide +kernel
theorem dX2_brings_14 : decode cX2_brings 14 = .ok (.ldc2_w 75, 3) := by decide +kernel
theorem dX2_brings_17 : decode cX2_brings 17 = .ok (.lreturn, 1) := by decide +kernel
theorem dX2_brings_18 : decode cX2_brings 18 = .ok (.lconst 0, 1) := by decide +kernel
theorem dX2_brings_19 : decode cX2_brings 19 = .ok (.lstore_n 2, 1) := by decide +kernel
theorem dX2_brings_20 : decode cX2_brings 20 = .ok (.iconst 0, 1) := by decide +kernel
theorem dX2_brings_21 : decode cX2_brings 21 = .ok (.istore 4, 2) := by decide +kernel
theorem dX2_brings_23 : decode cX2_brings 23 = .ok (.iload 4, 2) := by decide +kernel
theorem dX2_brings_25 : decode cX2_brings 25 = .ok (.bipush 125, 2) := by decide +kernel
theorem dX2_brings_27 : decode cX2_brings 27 = .ok (.if_icmp .ge 54, 3) := by decide +kernel
theorem dX2_brings_30 : decode cX2_brings 30 = .ok (.aload_n 0, 1) := by decide +kernel
theorem dX2_brings_31 : decode cX2_brings 31 = .ok (.iload 4, 2) := by decide +kernel
theorem dX2_brings_33 : decode cX2_brings 33 = .ok (.invokevirtual 95, 3) := by decide +kernel
theorem dX2_brings_36 : decode cX2_brings 36 = .ok (.istore 5, 2) := by decide +kernel
theorem dX2_brings_38 : decode cX2_brings 38 = .ok (.iconst 0, 1) := by decide +kernel
theorem dX2_brings_39 : decode cX2_brings 39 = .ok (.istore 6, 2) := by decide +kernel
theorem dX2_brings_41 : decode cX2_brings 41 = .ok (.iload 6, 2) := by decide +kernel
theorem dX2_brings_43 : decode cX2_brings 43 = .ok (.aload_n 0, 1) := by decide +kernel
theorem dX2_brings_44 : decode cX2_brings 44 = .ok (.getfield 7, 3) := by decide +kernel
theorem dX2_brings_47 : decode cX2_brings 47 = .ok (.if_icmp .ge 28, 3) := by decide +kernel
theorem dX2_brings_50 : decode cX2_brings 50 = .ok (.iload 5, 2) := by decide +kernel
theorem dX2_brings_52 : decode cX2_brings 52 = .ok (.ifCond .le 23, 3) := by decide +kernel
theorem dX2_brings_55 : decode cX2_brings 55 = .ok (.lload_n 2, 1) := by decide +kernel
theorem dX2_brings_56 : decode cX2_brings 56 = .ok (.iload 5, 2) := by decide +kernel
theorem dX2_brings_58 : decode cX2_brings 58 = .ok (.i2l, 1) := by decide +kernel
theorem dX2_brings_59 : decode cX2_brings 59 = .ok (.aload_n 0, 1) := by decide +kernel
theorem dX2_brings_60 : decode cX2_brings 60 = .ok (.iload 6, 2) := by decide +kernel
theorem dX2_brings_62 : decode cX2_brings 62 = .ok (.invokevirtual 92, 3) := by decide +kernel
theorem dX2_brings_65 : decode cX2_brings 65 = .ok (.i2l, 1) := by decide +kernel
theorem dX2_brings_66 : decode cX2_brings 66 = .ok (.lmul, 1) := by decide +kernel
theorem dX2_brings_67 : decode cX2_brings 67 = .ok (.ladd, 1) := by decide +kernel
theorem dX2_brings_68 : decode cX2_brings 68 = .ok (.lstore_n 2, 1) := by decide +kernel
theorem dX2_brings_69 : decode cX2_brings 69 = .ok (.iinc 6 1, 3) := by decide +kernel
theorem dX2_brings_72 : decode cX2_brings 72 = .ok (.goto (-31), 3) := by decide +kernel
theorem dX2_brings_75 : decode cX2_brings 75 = .ok (.iinc 4 1, 3) := by decide +kernel
theorem dX2_brings_78 : decode cX2_brings 78 = .ok (.goto (-55), 3) := by decide +kernel
theorem dX2_brings_81 : decode cX2_brings 81 = .ok (.aload_n 0, 1) := by decide +kernel
theorem dX2_brings_82 : decode cX2_brings 82 = .ok (.lload_n 2, 1) := by decide +kernel
theorem dX2_brings_83 : decode cX2_brings 83 = .ok (.aload_n 0, 1) := by decide +kernel
theorem dX2_brings_84 : decode cX2_brings 84 = .ok (.invokevirtual 98, 3) := by decide +kernel
theorem dX2_brings_87 : decode cX2_brings 87 = .ok (.i2l, 1) := by decide +kernel
theorem dX2_brings_88 : decode cX2_brings 88 = .ok (.iload_n 1, 1) := by decide +kernel
theorem dX2_brings_89 : decode cX2_brings 89 = .ok (.invokevirtual 81, 3) := by decide +kernel
theorem dX2_brings_92 : decode cX2_brings 92 = .ok (.lreturn, 1) := by decide +kernel
set_option maxRecDepth 20000 in
theorem ggX2_reserve_X2_in : GoodIn wsX2_reserve wsX2_in := goodIn_r _ [6] (by decide +kernel) (by decide +kernel)
set_option maxRecDepth 20000 in
theorem gX2_reserve_X2_in : GoodIn wsX2_reserve (va_wsS RX2 41 yX2_in wsX2_in) := goodIn_app (goodIn_of _ (by decide +kernel)) ggX2_reserve_X2_in
theorem dX2_reserve_0 : decode cX2_reserve 0 = .ok (.aload_n 0, 1) := by decide +kernel
theorem dX2_reserve_1 : decode cX2_reserve 1 = .ok (.iconst 0, 1) := by decide +kernel
theorem dX2_reserve_2 : decode cX2_reserve 2 = .ok (.putfield 38, 3) := by decide +kernel
theorem dX2_reserve_5 : decode cX2_reserve 5 = .ok (.iload_n 1, 1) := by decide +kernel
theorem dX2_reserve_6 : decode cX2_reserve 6 = .ok (.iconst 0, 1) := by decide +kernel
theorem dX2_reserve_7 : decode cX2_reserve 7 = .ok (.sipush 1000, 3) := by decide +kernel
theorem dX2_reserve_10 : decode cX2_reserve 10 = .ok (.invokestatic 41, 3) := by decide +kernel
theorem dX2_reserve_13 : decode cX2_reserve 13 = .ok (.ifCond .ne 5, 3) := by decide +kernel
theorem dX2_reserve_16 : decode cX2_reserve 16 = .ok (.iconst (-1), 1) := by decide +kernel
theorem dX2_reserve_17 : decode cX2_reserve 17 = .ok (.ireturn, 1) := by decide +kernel
theorem dX2_reserve_18 : decode cX2_reserve 18 = .ok (.aload_n 0, 1) := by decide +kernel
theorem dX2_reserve_19 : decode cX2_reserve 19 = .ok (.getfield 101, 3) := by decide +kernel
theorem dX2_reserve_22 : decode cX2_reserve 22 = .ok (.istore_n 2, 1) := by decide +kernel
theorem dX2_reserve_23 : decode cX2_reserve 23 = .ok (.aload_n 0, 1) := by decide +kernel
theorem dX2_reserve_24 : decode cX2_reserve 24 = .ok (.iload_n 1, 1) := by decide +kernel
theorem dX2_reserve_25 : decode cX2_reserve 25 = .ok (.putfield 101, 3) := by decide +kernel
theorem dX2_reserve_28 : decode cX2_reserve 28 = .ok (.iload_n 2, 1) := by decide +kernel
theorem dX2_reserve_29 : decode cX2_reserve 29 = .ok (.ireturn, 1) := by decide +kernel
theorem dX2_payOf_0 : decode cX2_payOf 0 = .ok (.iconst 0, 1) := by decide +kernel
theorem dX2_payOf_1 : decode cX2_payOf 1 = .ok (.istore_n 2, 1) := by decide +kernel
theorem dX2_payOf_2 : decode cX2_payOf 2 = .ok (.iconst 1, 1) := by decide +kernel
theorem dX2_payOf_3 : decode cX2_payOf 3 = .ok (.istore_n 3, 1) := by decide +kernel
theorem dX2_payOf_4 : decode cX2_payOf 4 = .ok (.iload_n 3, 1) := by decide +kernel
theorem dX2_payOf_5 : decode cX2_payOf 5 = .ok (.aload_n 0, 1) := by decide +kernel
theorem dX2_payOf_6 : decode cX2_payOf 6 = .ok (.getfield 7, 3) := by decide +kernel
theorem dX2_payOf_9 : decode cX2_payOf 9 = .ok (.if_icmp .ge 30, 3) := by decide +kernel
theorem dX2_payOf_12 : decode cX2_payOf 12 = .ok (.aload_n 0, 1) := by decide +kernel
theorem dX2_payOf_13 : decode cX2_payOf 13 = .ok (.getfield 29, 3) := by decide +kernel
theorem dX2_payOf_16 : decode cX2_payOf 16 = .ok (.iload_n 3, 1) := by decide +kernel
theorem dX2_payOf_17 : decode cX2_payOf 17 = .ok (.iaload, 1) := by decide +kernel
theorem dX2_payOf_18 : decode cX2_payOf 18 = .ok (.aload_n 0, 1) := by decide +kernel
theorem dX2_payOf_19 : decode cX2_payOf 19 = .ok (.getfield 29, 3) := by decide +kernel
theorem dX2_payOf_22 : decode cX2_payOf 22 = .ok (.iload_n 2, 1) := by decide +kernel
theorem dX2_payOf_23 : decode cX2_payOf 23 = .ok (.iaload, 1) := by decide +kernel
theorem dX2_payOf_24 : decode cX2_payOf 24 = .ok (.if_icmp .le 7, 3) := by decide +kernel
theorem dX2_payOf_27 : decode cX2_payOf 27 = .ok (.iload_n 3, 1) := by decide +kernel
theorem dX2_payOf_28 : decode cX2_payOf 28 = .ok (.goto 4, 3) := by decide +kernel
theorem dX2_payOf_31 : decode cX2_payOf 31 = .ok (.iload_n 2, 1) := by decide +kernel
theorem dX2_payOf_32 : decode cX2_payOf 32 = .ok (.istore_n 2, 1) := by decide +kernel
theorem dX2_payOf_33 : decode cX2_payOf 33 = .ok (.iinc 3 1, 3) := by decide +kernel
theorem dX2_payOf_36 : decode cX2_payOf 36 = .ok (.goto (-32), 3) := by decide +kernel
theorem dX2_payOf_39 : decode cX2_payOf 39 = .ok (.iload_n 1, 1) := by decide +kernel
theorem dX2_payOf_40 : decode cX2_payOf 40 = .ok (.ifCond .le 19, 3) := by decide +kernel
theorem dX2_payOf_43 : decode cX2_payOf 43 = .ok (.aload_n 0, 1) := by decide +kernel
theorem dX2_payOf_44 : decode cX2_payOf 44 = .ok (.getfield 29, 3) := by decide +kernel
theorem dX2_payOf_47 : decode cX2_payOf 47 = .ok (.iload_n 2, 1) := by decide +kernel
theorem dX2_payOf_48 : decode cX2_payOf 48 = .ok (.iaload, 1) := by decide +kernel
theorem dX2_payOf_49 : decode cX2_payOf 49 = .ok (.aload_n 0, 1) := by decide +kernel
theorem dX2_payOf_50 : decode cX2_payOf 50 = .ok (.getfield 101, 3) := by decide +kernel
theorem dX2_payOf_53 : decode cX2_payOf 53 = .ok (.if_icmp .ge 6, 3) := by decide +kernel
theorem dX2_payOf_56 : decode cX2_payOf 56 = .ok (.bipush (-9), 2) := by decide +kernel
theorem dX2_payOf_58 : decode cX2_payOf 58 = .ok (.ireturn, 1) := by decide +kernel
theorem dX2_payOf_59 : decode cX2_payOf 59 = .ok (.iconst 0, 1) := by decide +kernel
theorem dX2_payOf_60 : decode cX2_payOf 60 = .ok (.istore_n 3, 1) := by decide +kernel
theorem dX2_payOf_61 : decode cX2_payOf 61 = .ok (.iconst 0, 1) := by decide +kernel
theorem dX2_payOf_62 : decode cX2_payOf 62 = .ok (.istore 4, 2) := by decide +kernel
theorem dX2_payOf_64 : decode cX2_payOf 64 = .ok (.iload 4, 2) := by decide +kernel
theorem dX2_payOf_66 : decode cX2_payOf 66 = .ok (.aload_n 0, 1) := by decide +kernel
theorem dX2_payOf_67 : decode cX2_payOf 67 = .ok (.getfield 7, 3) := by decide +kernel
theorem dX2_payOf_70 : decode cX2_payOf 70 = .ok (.if_icmp .ge 38, 3) := by decide +kernel
theorem dX2_payOf_73 : decode cX2_payOf 73 = .ok (.iload 4, 2) := by decide +kernel
theorem dX2_payOf_75 : decode cX2_payOf 75 = .ok (.iload_n 2, 1) := by decide +kernel
theorem dX2_payOf_76 : decode cX2_payOf 76 = .ok (.if_icmp .eq 24, 3) := by decide +kernel
theorem dX2_payOf_79 : decode cX2_payOf 79 = .ok (.aload_n 0, 1) := by decide +kernel
theorem dX2_payOf_80 : decode cX2_payOf 80 = .ok (.getfield 29, 3) := by decide +kernel
theorem dX2_payOf_83 : decode cX2_payOf 83 = .ok (.iload 4, 2) := by decide +kernel
theorem dX2_payOf_85 : decode cX2_payOf 85 = .ok (.iaload, 1) := by decide +kernel
theorem dX2_payOf_86 : decode cX2_payOf 86 = .ok (.iload_n 3, 1) := by decide +kernel
theorem dX2_payOf_87 : decode cX2_payOf 87 = .ok (.if_icmp .le 13, 3) := by decide +kernel
theorem dX2_payOf_90 : decode cX2_payOf 90 = .ok (.aload_n 0, 1) := by decide +kernel
theorem dX2_payOf_91 : decode cX2_payOf 91 = .ok (.getfield 29, 3) := by decide +kernel
theorem dX2_payOf_94 : decode cX2_payOf 94 = .ok (.iload 4, 2) := by decide +kernel
theorem dX2_payOf_96 : decode cX2_payOf 96 = .ok (.iaload, 1) := by decide +kernel
theorem dX2_payOf_97 : decode cX2_payOf 97 = .ok (.goto 4, 3) := by decide +kernel
theorem dX2_payOf_100 : decode cX2_payOf 100 = .ok (.iload_n 3, 1) := by decide +kernel
theorem dX2_payOf_101 : decode cX2_payOf 101 = .ok (.istore_n 3, 1) := by decide +kernel
theorem dX2_payOf_102 : decode cX2_payOf 102 = .ok (.iinc 4 1, 3) := by decide +kernel
theorem dX2_payOf_105 : decode cX2_payOf 105 = .ok (.goto (-41), 3) := by decide +kernel
theorem dX2_payOf_108 : decode cX2_payOf 108 = .ok (.iload_n 1, 1) := by decide +kernel
theorem dX2_payOf_109 : decode cX2_payOf 109 = .ok (.ifCond .le 18, 3) := by decide +kernel
theorem dX2_payOf_112 : decode cX2_payOf 112 = .ok (.iload_n 3, 1) := by decide +kernel
theorem dX2_payOf_113 : decode cX2_payOf 113 = .ok (.aload_n 0, 1) := by decide +kernel
theorem dX2_payOf_114 : decode cX2_payOf 114 = .ok (.getfield 101, 3) := by decide +kernel
theorem dX2_payOf_117 : decode cX2_payOf 117 = .ok (.if_icmp .ge 10, 3) := by decide +kernel
theorem dX2_payOf_120 : decode cX2_payOf 120 = .ok (.aload_n 0, 1) := by decide +kernel
theorem dX2_payOf_121 : decode cX2_payOf 121 = .ok (.getfield 101, 3) := by decide +kernel
theorem dX2_payOf_124 : decode cX2_payOf 124 = .ok (.goto 4, 3) := by decide +kernel
theorem dX2_payOf_127 : decode cX2_payOf 127 = .ok (.iload_n 3, 1) := by decide +kernel
theorem dX2_payOf_128 : decode cX2_payOf 128 = .ok (.istore_n 3, 1) := by decide +kernel
theorem dX2_payOf_129 : decode cX2_payOf 129 = .ok (.iload_n 1, 1) := by decide +kernel
theorem dX2_payOf_130 : decode cX2_payOf 130 = .ok (.iconst 1, 1) := by decide +kernel
theorem dX2_payOf_131 : decode cX2_payOf 131 = .ok (.if_icmp .le 12, 3) := by decide +kernel
theorem dX2_payOf_134 : decode cX2_payOf 134 = .ok (.iload_n 3, 1) := by decide +kernel
theorem dX2_payOf_135 : decode cX2_payOf 135 = .ok (.iload_n 3, 1) := by decide +kernel
theorem dX2_payOf_136 : decode cX2_payOf 136 = .ok (.bipush 10, 2) := by decide +kernel
theorem dX2_payOf_138 : decode cX2_payOf 138 = .ok (.idiv, 1) := by decide +kernel
theorem dX2_payOf_139 : decode cX2_payOf 139 = .ok (.iadd, 1) := by decide +kernel
theorem dX2_payOf_140 : decode cX2_payOf 140 = .ok (.goto 4, 3) := by decide +kernel
theorem dX2_payOf_143 : decode cX2_payOf 143 = .ok (.iload_n 3, 1) := by decide +kernel
theorem dX2_payOf_144 : decode cX2_payOf 144 = .ok (.ireturn, 1) := by decide +kernel
set_option maxRecDepth 20000 in
theorem ggX2_pay_X2_in : GoodIn wsX2_pay wsX2_in := goodIn_r _ [10] (by decide +kernel) (by decide +kernel)
set_option maxRecDepth 20000 in
theorem gX2_pay_X2_in : GoodIn wsX2_pay (va_wsS RX2 41 yX2_in wsX2_in) := goodIn_app (goodIn_of _ (by decide +kernel)) ggX2_pay_X2_in
set_option maxRecDepth 20000 in
theorem ggX2_pay_X2_payOf : GoodIn wsX2_pay wsX2_payOf := goodIn_r _ [14, 3, 2, 15, 16, 17, 18, 19, 20, 21, 22, 23, 24, 25, 26, 27, 28, 29] (by decide +kernel) (by decide +kernel)
set_option maxRecDepth 20000 in
theorem gX2_pay_X2_payOf : GoodIn wsX2_pay (wsV RX2 104 RX2 yX2_payOf wsX2_payOf) := goodIn_app (goodIn_of _ (by decide +kernel)) ggX2_pay_X2_payOf
theorem dX2_pay_0 : decode cX2_pay 0 = .ok (.aload_n 0, 1) := by decide +kernel
theorem dX2_pay_1 : decode cX2_pay 1 = .ok (.iconst 0, 1) := by decide +kernel
theorem dX2_pay_2 : decode cX2_pay 2 = .ok (.putfield 38, 3) := by decide +kernel
theorem dX2_pay_5 : decode cX2_pay 5 = .ok (.aload_n 0, 1) := by decide +kernel
theorem dX2_pay_6 : decode cX2_pay 6 = .ok (.getfield 29, 3) := by decide +kernel
theorem dX2_pay_9 : decode cX2_pay 9 = .ok (.iconst 0, 1) := by decide +kernel
theorem dX2_pay_10 : decode cX2_pay 10 = .ok (.iload_n 2, 1) := by decide +kernel
theorem dX2_pay_11 : decode cX2_pay 11 = .ok (.iastore, 1) := by decide +kernel
theorem dX2_pay_12 : decode cX2_pay 12 = .ok (.aload_n 0, 1) := by decide +kernel
theorem dX2_pay_13 : decode cX2_pay 13 = .ok (.getfield 29, 3) := by decide +kernel
theorem dX2_pay_16 : decode cX2_pay 16 = .ok (.iconst 1, 1) := by decide +kernel
theorem dX2_pay_17 : decode cX2_pay 17 = .ok (.iload_n 3, 1) := by decide +kernel
theorem dX2_pay_18 : decode cX2_pay 18 = .ok (.iastore, 1) := by decide +kernel
theorem dX2_pay_19 : decode cX2_pay 19 = .ok (.aload_n 0, 1) := by decide +kernel
theorem dX2_pay_20 : decode cX2_pay 20 = .ok (.getfield 29, 3) := by decide +kernel
theorem dX2_pay_23 : decode cX2_pay 23 = .ok (.iconst 2, 1) := by decide +kernel
theorem dX2_pay_24 : decode cX2_pay 24 = .ok (.iload 4, 2) := by decide +kernel
theorem dX2_pay_26 : decode cX2_pay 26 = .ok (.iastore, 1) := by decide +kernel
theorem dX2_pay_27 : decode cX2_pay 27 = .ok (.iload_n 1, 1) := by decide +kernel
theorem dX2_pay_28 : decode cX2_pay 28 = .ok (.iconst 0, 1) := by decide +kernel
theorem dX2_pay_29 : decode cX2_pay 29 = .ok (.iconst 2, 1) := by decide +kernel
theorem dX2_pay_30 : decode cX2_pay 30 = .ok (.invokestatic 41, 3) := by decide +kernel
theorem dX2_pay_33 : decode cX2_pay 33 = .ok (.istore 5, 2) := by decide +kernel
theorem dX2_pay_35 : decode cX2_pay 35 = .ok (.iconst 0, 1) := by decide +kernel
theorem dX2_pay_36 : decode cX2_pay 36 = .ok (.istore 6, 2) := by decide +kernel
theorem dX2_pay_38 : decode cX2_pay 38 = .ok (.iload 6, 2) := by decide +kernel
theorem dX2_pay_40 : decode cX2_pay 40 = .ok (.aload_n 0, 1) := by decide +kernel
theorem dX2_pay_41 : decode cX2_pay 41 = .ok (.getfield 7, 3) := by decide +kernel
theorem dX2_pay_44 : decode cX2_pay 44 = .ok (.if_icmp .ge 28, 3) := by decide +kernel
theorem dX2_pay_47 : decode cX2_pay 47 = .ok (.iload 5, 2) := by decide +kernel
theorem dX2_pay_49 : decode cX2_pay 49 = .ok (.aload_n 0, 1) := by decide +kernel
theorem dX2_pay_50 : decode cX2_pay 50 = .ok (.getfield 29, 3) := by decide +kernel
theorem dX2_pay_53 : decode cX2_pay 53 = .ok (.iload 6, 2) := by decide +kernel
theorem dX2_pay_55 : decode cX2_pay 55 = .ok (.iaload, 1) := by decide +kernel
theorem dX2_pay_56 : decode cX2_pay 56 = .ok (.iconst 0, 1) := by decide +kernel
theorem dX2_pay_57 : decode cX2_pay 57 = .ok (.sipush 1000, 3) := by decide +kernel
theorem dX2_pay_60 : decode cX2_pay 60 = .ok (.invokestatic 41, 3) := by decide +kernel
theorem dX2_pay_63 : decode cX2_pay 63 = .ok (.iand, 1) := by decide +kernel
theorem dX2_pay_64 : decode cX2_pay 64 = .ok (.istore 5, 2) := by decide +kernel
theorem dX2_pay_66 : decode cX2_pay 66 = .ok (.iinc 6 1, 3) := by decide +kernel
theorem dX2_pay_69 : decode cX2_pay 69 = .ok (.goto (-31), 3) := by decide +kernel
theorem dX2_pay_72 : decode cX2_pay 72 = .ok (.iload 5, 2) := by decide +kernel
theorem dX2_pay_74 : decode cX2_pay 74 = .ok (.ifCond .ne 5, 3) := by decide +kernel
theorem dX2_pay_77 : decode cX2_pay 77 = .ok (.iconst (-1), 1) := by decide +kernel
theorem dX2_pay_78 : decode cX2_pay 78 = .ok (.ireturn, 1) := by decide +kernel
theorem dX2_pay_79 : decode cX2_pay 79 = .ok (.aload_n 0, 1) := by decide +kernel
theorem dX2_pay_80 : decode cX2_pay 80 = .ok (.iload_n 1, 1) := by decide +kernel
theorem dX2_pay_81 : decode cX2_pay 81 = .ok (.invokevirtual 104, 3) := by decide +kernel
theorem dX2_pay_84 : decode cX2_pay 84 = .ok (.istore 6, 2) := by decide +kernel
theorem dX2_pay_86 : decode cX2_pay 86 = .ok (.iload 6, 2) := by decide +kernel
theorem dX2_pay_88 : decode cX2_pay 88 = .ok (.bipush (-9), 2) := by decide +kernel
theorem dX2_pay_90 : decode cX2_pay 90 = .ok (.if_icmp .eq 34, 3) := by decide +kernel
theorem dX2_pay_93 : decode cX2_pay 93 = .ok (.aload_n 0, 1) := by decide +kernel
theorem dX2_pay_94 : decode cX2_pay 94 = .ok (.dup, 1) := by decide +kernel
theorem dX2_pay_95 : decode cX2_pay 95 = .ok (.getfield 107, 3) := by decide +kernel
theorem dX2_pay_98 : decode cX2_pay 98 = .ok (.iload_n 1, 1) := by decide +kernel
theorem dX2_pay_99 : decode cX2_pay 99 = .ok (.ifCond .ne 7, 3) := by decide +kernel
theorem dX2_pay_102 : decode cX2_pay 102 = .ok (.lconst 1, 1) := by decide +kernel
theorem dX2_pay_103 : decode cX2_pay 103 = .ok (.goto 17, 3) := by decide +kernel
theorem dX2_pay_106 : decode cX2_pay 106 = .ok (.iload_n 1, 1) := by decide +kernel
theorem dX2_pay_107 : decode cX2_pay 107 = .ok (.iconst 1, 1) := by decide +kernel
theorem dX2_pay_108 : decode cX2_pay 108 = .ok (.if_icmp .ne 9, 3) := by decide +kernel
theorem dX2_pay_111 : decode cX2_pay 111 = .ok (.ldc2_w 110, 3) := by decide +kernel
theorem dX2_pay_114 : decode cX2_pay 114 = .ok (.goto 6, 3) := by decide +kernel
theorem dX2_pay_117 : decode cX2_pay 117 = .ok (.ldc2_w 112, 3) := by decide +kernel
theorem dX2_pay_120 : decode cX2_pay 120 = .ok (.ladd, 1) := by decide +kernel
theorem dX2_pay_121 : decode cX2_pay 121 = .ok (.putfield 107, 3) := by decide +kernel
theorem dX2_pay_124 : decode cX2_pay 124 = .ok (.iload 6, 2) := by decide +kernel
theorem dX2_pay_126 : decode cX2_pay 126 = .ok (.ireturn, 1) := by decide +kernel
set_option maxRecDepth 20000 in
theorem ggX2_average_X2_in : GoodIn wsX2_average wsX2_in := goodIn_r _ [10] (by decide +kernel) (by decide +kernel)
set_option maxRecDepth 20000 in
theorem gX2_average_X2_in : GoodIn wsX2_average (va_wsS RX2 41 yX2_in wsX2_in) := goodIn_app (goodIn_of _ (by decide +kernel)) ggX2_average_X2_in
set_option maxRecDepth 20000 in
theorem ggX2_average_X2_comes : GoodIn wsX2_average wsX2_comes := goodIn_r _ [14, 6, 3, 15, 16, 17, 18, 9, 19, 20, 7, 8, 10, 41, 42, 43, 44, 45, 46, 47, 48, 49, 50, 51, 52, 53, 54] (by decide +kernel) (by decide +kernel)
set_option maxRecDepth 20000 in
theorem gX2_average_X2_comes : GoodIn wsX2_average (wsV RX2 95 RX2 yX2_comes wsX2_comes) := goodIn_app (goodIn_of _ (by decide +kernel)) ggX2_average_X2_comes
set_option maxRecDepth 20000 in
theorem ggX2_average_X2_payOf : GoodIn wsX2_average wsX2_payOf := goodIn_r _ [24, 3, 4, 25, 41, 42, 43, 44, 45, 46, 47, 48, 49, 50, 51, 52, 53, 54] (by decide +kernel) (by decide +kernel)
set_option maxRecDepth 20000 in
theorem gX2_average_X2_payOf : GoodIn wsX2_average (wsV RX2 104 RX2 yX2_payOf wsX2_payOf) := goodIn_app (goodIn_of _ (by decide +kernel)) ggX2_average_X2_payOf
set_option maxRecDepth 20000 in
theorem ggX2_average_X2_all : GoodIn wsX2_average wsX2_all := goodIn_r _ [29, 3, 30, 31, 32, 9, 33, 20, 15, 41, 42, 43, 44, 45, 46, 47, 48, 49, 50, 51, 52, 53, 54] (by decide +kernel) (by decide +kernel)
set_option maxRecDepth 20000 in
theorem gX2_average_X2_all : GoodIn wsX2_average (wsV RX2 98 RX2 yX2_all wsX2_all) := goodIn_app (goodIn_of _ (by decide +kernel)) ggX2_average_X2_all
set_option maxRecDepth 20000 in
theorem ggX2_average_X2_part : GoodIn wsX2_average wsX2_part := goodIn_r _ [37, 38, 39, 9, 40] (by decide +kernel) (by decide +kernel)
set_option maxRecDepth 20000 in
theorem gX2_average_X2_part : GoodIn wsX2_average (wsV RX2 81 RX2 yX2_part wsX2_part) := goodIn_app (goodIn_of _ (by decide +kernel)) ggX2_average_X2_part
theorem dX2_average_0 : decode cX2_average 0 = .ok (.aload_n 0, 1) := by decide +kernel
theorem dX2_average_1 : decode cX2_average 1 = .ok (.iconst 0, 1) := by decide +kernel
theorem dX2_average_2 : decode cX2_average 2 = .ok (.putfield 38, 3) := by decide +kernel
theorem dX2_average_5 : decode cX2_average 5 = .ok (.iload_n 1, 1) := by decide +kernel
theorem dX2_average_6 : decode cX2_average 6 = .ok (.iconst 0, 1) := by decide +kernel
theorem dX2_average_7 : decode cX2_average 7 = .ok (.iconst 2, 1) := by decide +kernel
theorem dX2_average_8 : decode cX2_average 8 = .ok (.invokestatic 41, 3) := by decide +kernel
theorem dX2_average_11 : decode cX2_average 11 = .ok (.ifCond .eq 12, 3) := by decide +kernel
theorem dX2_average_14 : decode cX2_average 14 = .ok (.iload_n 2, 1) := by decide +kernel
theorem dX2_average_15 : decode cX2_average 15 = .ok (.iconst 0, 1) := by decide +kernel
theorem dX2_average_16 : decode cX2_average 16 = .ok (.iconst 1, 1) := by decide +kernel
theorem dX2_average_17 : decode cX2_average 17 = .ok (.invokestatic 41, 3) := by decide +kernel
theorem dX2_average_20 : decode cX2_average 20 = .ok (.ifCond .ne 7, 3) := by decide +kernel
theorem dX2_average_23 : decode cX2_average 23 = .ok (.ldc2_w 75, 3) := by decide +kernel
theorem dX2_average_26 : decode cX2_average 26 = .ok (.lreturn, 1) := by decide +kernel
theorem dX2_average_27 : decode cX2_average 27 = .ok (.lconst 0, 1) := by decide +kernel
theorem dX2_average_28 : decode cX2_average 28 = .ok (.lstore_n 3, 1) := by decide +kernel
theorem dX2_average_29 : decode cX2_average 29 = .ok (.iconst 0, 1) := by decide +kernel
theorem dX2_average_30 : decode cX2_average 30 = .ok (.istore 5, 2) := by decide +kernel
theorem dX2_average_32 : decode cX2_average 32 = .ok (.iload 5, 2) := by decide +kernel
theorem dX2_average_34 : decode cX2_average 34 = .ok (.bipush 125, 2) := by decide +kernel
theorem dX2_average_36 : decode cX2_average 36 = .ok (.if_icmp .ge 92, 3) := by decide +kernel
theorem dX2_average_39 : decode cX2_average 39 = .ok (.aload_n 0, 1) := by decide +kernel
theorem dX2_average_40 : decode cX2_average 40 = .ok (.iload 5, 2) := by decide +kernel
theorem dX2_average_42 : decode cX2_average 42 = .ok (.invokevirtual 95, 3) := by decide +kernel
theorem dX2_average_45 : decode cX2_average 45 = .ok (.istore 6, 2) := by decide +kernel
theorem dX2_average_47 : decode cX2_average 47 = .ok (.iload 6, 2) := by decide +kernel
theorem dX2_average_49 : decode cX2_average 49 = .ok (.ifCond .le 73, 3) := by decide +kernel
theorem dX2_average_52 : decode cX2_average 52 = .ok (.iconst 0, 1) := by decide +kernel
theorem dX2_average_53 : decode cX2_average 53 = .ok (.istore 7, 2) := by decide +kernel
theorem dX2_average_55 : decode cX2_average 55 = .ok (.iload 7, 2) := by decide +kernel
theorem dX2_average_57 : decode cX2_average 57 = .ok (.aload_n 0, 1) := by decide +kernel
theorem dX2_average_58 : decode cX2_average 58 = .ok (.getfield 7, 3) := by decide +kernel
theorem dX2_average_61 : decode cX2_average 61 = .ok (.if_icmp .ge 33, 3) := by decide +kernel
theorem dX2_average_64 : decode cX2_average 64 = .ok (.aload_n 0, 1) := by decide +kernel
theorem dX2_average_65 : decode cX2_average 65 = .ok (.getfield 29, 3) := by decide +kernel
theorem dX2_average_68 : decode cX2_average 68 = .ok (.iload 7, 2) := by decide +kernel
theorem dX2_average_70 : decode cX2_average 70 = .ok (.aload_n 0, 1) := by decide +kernel
theorem dX2_average_71 : decode cX2_average 71 = .ok (.getfield 17, 3) := by decide +kernel
theorem dX2_average_74 : decode cX2_average 74 = .ok (.iconst 5, 1) := by decide +kernel
theorem dX2_average_75 : decode cX2_average 75 = .ok (.iload 7, 2) := by decide +kernel
theorem dX2_average_77 : decode cX2_average 77 = .ok (.imul, 1) := by decide +kernel
theorem dX2_average_78 : decode cX2_average 78 = .ok (.aload_n 0, 1) := by decide +kernel
theorem dX2_average_79 : decode cX2_average 79 = .ok (.getfield 26, 3) := by decide +kernel
theorem dX2_average_82 : decode cX2_average 82 = .ok (.iload 7, 2) := by decide +kernel
theorem dX2_average_84 : decode cX2_average 84 = .ok (.iaload, 1) := by decide +kernel
theorem dX2_average_85 : decode cX2_average 85 = .ok (.iadd, 1) := by decide +kernel
theorem dX2_average_86 : decode cX2_average 86 = .ok (.iaload, 1) := by decide +kernel
theorem dX2_average_87 : decode cX2_average 87 = .ok (.iastore, 1) := by decide +kernel
theorem dX2_average_88 : decode cX2_average 88 = .ok (.iinc 7 1, 3) := by decide +kernel
theorem dX2_average_91 : decode cX2_average 91 = .ok (.goto (-36), 3) := by decide +kernel
theorem dX2_average_94 : decode cX2_average 94 = .ok (.aload_n 0, 1) := by decide +kernel
theorem dX2_average_95 : decode cX2_average 95 = .ok (.iload_n 1, 1) := by decide +kernel
theorem dX2_average_96 : decode cX2_average 96 = .ok (.invokevirtual 104, 3) := by decide +kernel
theorem dX2_average_99 : decode cX2_average 99 = .ok (.istore 7, 2) := by decide +kernel
theorem dX2_average_101 : decode cX2_average 101 = .ok (.lload_n 3, 1) := by decide +kernel
theorem dX2_average_102 : decode cX2_average 102 = .ok (.iload 7, 2) := by decide +kernel
theorem dX2_average_104 : decode cX2_average 104 = .ok (.bipush (-9), 2) := by decide +kernel
theorem dX2_average_106 : decode cX2_average 106 = .ok (.if_icmp .ne 7, 3) := by decide +kernel
theorem dX2_average_109 : decode cX2_average 109 = .ok (.lconst 0, 1) := by decide +kernel
theorem dX2_average_110 : decode cX2_average 110 = .ok (.goto 10, 3) := by decide +kernel
theorem dX2_average_113 : decode cX2_average 113 = .ok (.iload 6, 2) := by decide +kernel
theorem dX2_average_115 : decode cX2_average 115 = .ok (.i2l, 1) := by decide +kernel
theorem dX2_average_116 : decode cX2_average 116 = .ok (.iload 7, 2) := by decide +kernel
theorem dX2_average_118 : decode cX2_average 118 = .ok (.i2l, 1) := by decide +kernel
theorem dX2_average_119 : decode cX2_average 119 = .ok (.lmul, 1) := by decide +kernel
theorem dX2_average_120 : decode cX2_average 120 = .ok (.ladd, 1) := by decide +kernel
theorem dX2_average_121 : decode cX2_average 121 = .ok (.lstore_n 3, 1) := by decide +kernel
theorem dX2_average_122 : decode cX2_average 122 = .ok (.iinc 5 1, 3) := by decide +kernel
theorem dX2_average_125 : decode cX2_average 125 = .ok (.goto (-93), 3) := by decide +kernel
theorem dX2_average_128 : decode cX2_average 128 = .ok (.aload_n 0, 1) := by decide +kernel
theorem dX2_average_129 : decode cX2_average 129 = .ok (.lload_n 3, 1) := by decide +kernel
theorem dX2_average_130 : decode cX2_average 130 = .ok (.aload_n 0, 1) := by decide +kernel
theorem dX2_average_131 : decode cX2_average 131 = .ok (.invokevirtual 98, 3) := by decide +kernel
theorem dX2_average_134 : decode cX2_average 134 = .ok (.i2l, 1) := by decide +kernel
theorem dX2_average_135 : decode cX2_average 135 = .ok (.iload_n 2, 1) := by decide +kernel
theorem dX2_average_136 : decode cX2_average 136 = .ok (.invokevirtual 81, 3) := by decide +kernel
theorem dX2_average_139 : decode cX2_average 139 = .ok (.lreturn, 1) := by decide +kernel
set_option maxRecDepth 20000 in
theorem ggX2_offers_X2_in : GoodIn wsX2_offers wsX2_in := goodIn_r _ [10] (by decide +kernel) (by decide +kernel)
set_option maxRecDepth 20000 in
theorem gX2_offers_X2_in : GoodIn wsX2_offers (va_wsS RX2 41 yX2_in wsX2_in) := goodIn_app (goodIn_of _ (by decide +kernel)) ggX2_offers_X2_in
set_option maxRecDepth 20000 in
theorem ggX2_offers_X2_isBuyer : GoodIn wsX2_offers wsX2_isBuyer := goodIn_r _ [14, 3, 7, 8, 9, 10, 27, 28, 29, 30, 31, 32, 33, 34, 35, 36, 37, 38, 39, 40] (by decide +kernel) (by decide +kernel)
set_option maxRecDepth 20000 in
theorem gX2_offers_X2_isBuyer : GoodIn wsX2_offers (wsV RX2 45 RX2 yX2_isBuyer wsX2_isBuyer) := goodIn_app (goodIn_of _ (by decide +kernel)) ggX2_offers_X2_isBuyer
set_option maxRecDepth 20000 in
theorem ggX2_offers_X2_share : GoodIn wsX2_offers wsX2_share := goodIn_r _ [18, 5, 19, 27, 28, 29, 30, 31, 32, 33, 34, 35, 36, 37, 38, 39, 40] (by decide +kernel) (by decide +kernel)
set_option maxRecDepth 20000 in
theorem gX2_offers_X2_share : GoodIn wsX2_offers (wsV RX2 49 RX2 yX2_share wsX2_share) := goodIn_app (goodIn_of _ (by decide +kernel)) ggX2_offers_X2_share
set_option maxRecDepth 20000 in
theorem ggX2_offers_X2_part : GoodIn wsX2_offers wsX2_part := goodIn_r _ [23, 24, 25, 9, 26] (by decide +kernel) (by decide +kernel)
set_option maxRecDepth 20000 in
theorem gX2_offers_X2_part : GoodIn wsX2_offers (wsV RX2 81 RX2 yX2_part wsX2_part) := goodIn_app (goodIn_of _ (by decide +kernel)) ggX2_offers_X2_part
theorem dX2_offers_0 : decode cX2_offers 0 = .ok (.aload_n 0, 1) := by decide +kernel
theorem dX2_offers_1 : decode cX2_offers 1 = .ok (.iconst 0, 1) := by decide +kernel
theorem dX2_offers_2 : decode cX2_offers 2 = .ok (.putfield 38, 3) := by decide +kernel
theorem dX2_offers_5 : decode cX2_offers 5 = .ok (.iload_n 1, 1) := by decide +kernel
theorem dX2_offers_6 : decode cX2_offers 6 = .ok (.ifCond .lt 27, 3) := by decide +kernel
theorem dX2_offers_9 : decode cX2_offers 9 = .ok (.iload_n 2, 1) := by decide +kernel
theorem dX2_offers_10 : decode cX2_offers 10 = .ok (.iconst 0, 1) := by decide +kernel
theorem dX2_offers_11 : decode cX2_offers 11 = .ok (.iconst 4, 1) := by decide +kernel
theorem dX2_offers_12 : decode cX2_offers 12 = .ok (.invokestatic 41, 3) := by decide +kernel
theorem dX2_offers_15 : decode cX2_offers 15 = .ok (.ifCond .eq 18, 3) := by decide +kernel
theorem dX2_offers_18 : decode cX2_offers 18 = .ok (.iload_n 2, 1) := by decide +kernel
theorem dX2_offers_19 : decode cX2_offers 19 = .ok (.iconst 1, 1) := by decide +kernel
theorem dX2_offers_20 : decode cX2_offers 20 = .ok (.if_icmp .le 17, 3) := by decide +kernel
theorem dX2_offers_23 : decode cX2_offers 23 = .ok (.aload_n 0, 1) := by decide +kernel
theorem dX2_offers_24 : decode cX2_offers 24 = .ok (.iload_n 2, 1) := by decide +kernel
theorem dX2_offers_25 : decode cX2_offers 25 = .ok (.iconst 2, 1) := by decide +kernel
theorem dX2_offers_26 : decode cX2_offers 26 = .ok (.isub, 1) := by decide +kernel
theorem dX2_offers_27 : decode cX2_offers 27 = .ok (.invokevirtual 45, 3) := by decide +kernel
theorem dX2_offers_30 : decode cX2_offers 30 = .ok (.ifCond .ne 7, 3) := by decide +kernel
theorem dX2_offers_33 : decode cX2_offers 33 = .ok (.ldc2_w 75, 3) := by decide +kernel
theorem dX2_offers_36 : decode cX2_offers 36 = .ok (.lreturn, 1) := by decide +kernel
theorem dX2_offers_37 : decode cX2_offers 37 = .ok (.iload_n 1, 1) := by decide +kernel
theorem dX2_offers_38 : decode cX2_offers 38 = .ok (.istore_n 3, 1) := by decide +kernel
theorem dX2_offers_39 : decode cX2_offers 39 = .ok (.iconst 0, 1) := by decide +kernel
theorem dX2_offers_40 : decode cX2_offers 40 = .ok (.istore 4, 2) := by decide +kernel
theorem dX2_offers_42 : decode cX2_offers 42 = .ok (.lconst 0, 1) := by decide +kernel
theorem dX2_offers_43 : decode cX2_offers 43 = .ok (.lstore 5, 2) := by decide +kernel
theorem dX2_offers_45 : decode cX2_offers 45 = .ok (.lconst 1, 1) := by decide +kernel
theorem dX2_offers_46 : decode cX2_offers 46 = .ok (.lstore 7, 2) := by decide +kernel
theorem dX2_offers_48 : decode cX2_offers 48 = .ok (.iconst 0, 1) := by decide +kernel
theorem dX2_offers_49 : decode cX2_offers 49 = .ok (.istore 9, 2) := by decide +kernel
theorem dX2_offers_51 : decode cX2_offers 51 = .ok (.iload 9, 2) := by decide +kernel
theorem dX2_offers_53 : decode cX2_offers 53 = .ok (.aload_n 0, 1) := by decide +kernel
theorem dX2_offers_54 : decode cX2_offers 54 = .ok (.getfield 7, 3) := by decide +kernel
theorem dX2_offers_57 : decode cX2_offers 57 = .ok (.if_icmp .ge 183, 3) := by decide +kernel
theorem dX2_offers_60 : decode cX2_offers 60 = .ok (.iload_n 3, 1) := by decide +kernel
theorem dX2_offers_61 : decode cX2_offers 61 = .ok (.iconst 3, 1) := by decide +kernel
theorem dX2_offers_62 : decode cX2_offers 62 = .ok (.irem, 1) := by decide +kernel
theorem dX2_offers_63 : decode cX2_offers 63 = .ok (.istore 10, 2) := by decide +kernel
theorem dX2_offers_65 : decode cX2_offers 65 = .ok (.iload_n 3, 1) := by decide +kernel
theorem dX2_offers_66 : decode cX2_offers 66 = .ok (.iconst 3, 1) := by decide +kernel
theorem dX2_offers_67 : decode cX2_offers 67 = .ok (.idiv, 1) := by decide +kernel
theorem dX2_offers_68 : decode cX2_offers 68 = .ok (.istore_n 3, 1) := by decide +kernel
theorem dX2_offers_69 : decode cX2_offers 69 = .ok (.aload_n 0, 1) := by decide +kernel
theorem dX2_offers_70 : decode cX2_offers 70 = .ok (.iload 10, 2) := by decide +kernel
theorem dX2_offers_72 : decode cX2_offers 72 = .ok (.invokevirtual 45, 3) := by decide +kernel
theorem dX2_offers_75 : decode cX2_offers 75 = .ok (.ifCond .eq 14, 3) := by decide +kernel
theorem dX2_offers_78 : decode cX2_offers 78 = .ok (.iload 4, 2) := by decide +kernel
theorem dX2_offers_80 : decode cX2_offers 80 = .ok (.iload 10, 2) := by decide +kernel
theorem dX2_offers_82 : decode cX2_offers 82 = .ok (.ishr, 1) := by decide +kernel
theorem dX2_offers_83 : decode cX2_offers 83 = .ok (.iconst 1, 1) := by decide +kernel
theorem dX2_offers_84 : decode cX2_offers 84 = .ok (.iand, 1) := by decide +kernel
theorem dX2_offers_85 : decode cX2_offers 85 = .ok (.iconst 1, 1) := by decide +kernel
theorem dX2_offers_86 : decode cX2_offers 86 = .ok (.if_icmp .ne 7, 3) := by decide +kernel
theorem dX2_offers_89 : decode cX2_offers 89 = .ok (.ldc2_w 75, 3) := by decide +kernel
theorem dX2_offers_92 : decode cX2_offers 92 = .ok (.lreturn, 1) := by decide +kernel
theorem dX2_offers_93 : decode cX2_offers 93 = .ok (.iload 4, 2) := by decide +kernel
theorem dX2_offers_95 : decode cX2_offers 95 = .ok (.iconst 1, 1) := by decide +kernel
theorem dX2_offers_96 : decode cX2_offers 96 = .ok (.iload 10, 2) := by decide +kernel
theorem dX2_offers_98 : decode cX2_offers 98 = .ok (.ishl, 1) := by decide +kernel
theorem dX2_offers_99 : decode cX2_offers 99 = .ok (.ior, 1) := by decide +kernel
theorem dX2_offers_100 : decode cX2_offers 100 = .ok (.istore 4, 2) := by decide +kernel
theorem dX2_offers_102 : decode cX2_offers 102 = .ok (.aload_n 0, 1) := by decide +kernel
theorem dX2_offers_103 : decode cX2_offers 103 = .ok (.iload 10, 2) := by decide +kernel
theorem dX2_offers_105 : decode cX2_offers 105 = .ok (.iconst 0, 1) := by decide +kernel
theorem dX2_offers_106 : decode cX2_offers 106 = .ok (.invokevirtual 49, 3) := by decide +kernel
theorem dX2_offers_109 : decode cX2_offers 109 = .ok (.i2l, 1) := by decide +kernel
theorem dX2_offers_110 : decode cX2_offers 110 = .ok (.lstore 11, 2) := by decide +kernel
theorem dX2_offers_112 : decode cX2_offers 112 = .ok (.lload 5, 2) := by decide +kernel
theorem dX2_offers_114 : decode cX2_offers 114 = .ok (.lload 11, 2) := by decide +kernel
theorem dX2_offers_116 : decode cX2_offers 116 = .ok (.lmul, 1) := by decide +kernel
theorem dX2_offers_117 : decode cX2_offers 117 = .ok (.lstore 13, 2) := by decide +kernel
theorem dX2_offers_119 : decode cX2_offers 119 = .ok (.aload_n 0, 1) := by decide +kernel
theorem dX2_offers_120 : decode cX2_offers 120 = .ok (.getfield 32, 3) := by decide +kernel
theorem dX2_offers_123 : decode cX2_offers 123 = .ok (.iload 10, 2) := by decide +kernel
theorem dX2_offers_125 : decode cX2_offers 125 = .ok (.sipush 1001, 3) := by decide +kernel
theorem dX2_offers_128 : decode cX2_offers 128 = .ok (.iastore, 1) := by decide +kernel
theorem dX2_offers_129 : decode cX2_offers 129 = .ok (.aload_n 0, 1) := by decide +kernel
theorem dX2_offers_130 : decode cX2_offers 130 = .ok (.getfield 13, 3) := by decide +kernel
theorem dX2_offers_133 : decode cX2_offers 133 = .ok (.iload 10, 2) := by decide +kernel
theorem dX2_offers_135 : decode cX2_offers 135 = .ok (.iaload, 1) := by decide +kernel
theorem dX2_offers_136 : decode cX2_offers 136 = .ok (.iconst 1, 1) := by decide +kernel
theorem dX2_offers_137 : decode cX2_offers 137 = .ok (.isub, 1) := by decide +kernel
theorem dX2_offers_138 : decode cX2_offers 138 = .ok (.istore 15, 2) := by decide +kernel
theorem dX2_offers_140 : decode cX2_offers 140 = .ok (.iload 15, 2) := by decide +kernel
theorem dX2_offers_142 : decode cX2_offers 142 = .ok (.ifCond .lt 81, 3) := by decide +kernel
theorem dX2_offers_145 : decode cX2_offers 145 = .ok (.aload_n 0, 1) := by decide +kernel
theorem dX2_offers_146 : decode cX2_offers 146 = .ok (.iload 10, 2) := by decide +kernel
theorem dX2_offers_148 : decode cX2_offers 148 = .ok (.iload 15, 2) := by decide +kernel
theorem dX2_offers_150 : decode cX2_offers 150 = .ok (.invokevirtual 49, 3) := by decide +kernel
theorem dX2_offers_153 : decode cX2_offers 153 = .ok (.i2l, 1) := by decide +kernel
theorem dX2_offers_154 : decode cX2_offers 154 = .ok (.lstore 16, 2) := by decide +kernel
theorem dX2_offers_156 : decode cX2_offers 156 = .ok (.aload_n 0, 1) := by decide +kernel
theorem dX2_offers_157 : decode cX2_offers 157 = .ok (.getfield 17, 3) := by decide +kernel
theorem dX2_offers_160 : decode cX2_offers 160 = .ok (.iconst 5, 1) := by decide +kernel
theorem dX2_offers_161 : decode cX2_offers 161 = .ok (.iload 10, 2) := by decide +kernel
theorem dX2_offers_163 : decode cX2_offers 163 = .ok (.imul, 1) := by decide +kernel
theorem dX2_offers_164 : decode cX2_offers 164 = .ok (.iload 15, 2) := by decide +kernel
theorem dX2_offers_166 : decode cX2_offers 166 = .ok (.iadd, 1) := by decide +kernel
theorem dX2_offers_167 : decode cX2_offers 167 = .ok (.iaload, 1) := by decide +kernel
theorem dX2_offers_168 : decode cX2_offers 168 = .ok (.i2l, 1) := by decide +kernel
theorem dX2_offers_169 : decode cX2_offers 169 = .ok (.lload 16, 2) := by decide +kernel
theorem dX2_offers_171 : decode cX2_offers 171 = .ok (.lmul, 1) := by decide +kernel
theorem dX2_offers_172 : decode cX2_offers 172 = .ok (.lload 7, 2) := by decide +kernel
theorem dX2_offers_174 : decode cX2_offers 174 = .ok (.lmul, 1) := by decide +kernel
theorem dX2_offers_175 : decode cX2_offers 175 = .ok (.lload 11, 2) := by decide +kernel
theorem dX2_offers_177 : decode cX2_offers 177 = .ok (.lload 16, 2) := by decide +kernel
theorem dX2_offers_179 : decode cX2_offers 179 = .ok (.lsub, 1) := by decide +kernel
theorem dX2_offers_180 : decode cX2_offers 180 = .ok (.lload 5, 2) := by decide +kernel
theorem dX2_offers_182 : decode cX2_offers 182 = .ok (.lmul, 1) := by decide +kernel
theorem dX2_offers_183 : decode cX2_offers 183 = .ok (.ladd, 1) := by decide +kernel
theorem dX2_offers_184 : decode cX2_offers 184 = .ok (.lstore 18, 2) := by decide +kernel
theorem dX2_offers_186 : decode cX2_offers 186 = .ok (.lload 18, 2) := by decide +kernel
theorem dX2_offers_188 : decode cX2_offers 188 = .ok (.lload 13, 2) := by decide +kernel
theorem dX2_offers_190 : decode cX2_offers 190 = .ok (.lcmp, 1) := by decide +kernel
theorem dX2_offers_191 : decode cX2_offers 191 = .ok (.ifCond .lt 26, 3) := by decide +kernel
theorem dX2_offers_194 : decode cX2_offers 194 = .ok (.lload 18, 2) := by decide +kernel
theorem dX2_offers_196 : decode cX2_offers 196 = .ok (.lstore 13, 2) := by decide +kernel
theorem dX2_offers_198 : decode cX2_offers 198 = .ok (.aload_n 0, 1) := by decide +kernel
theorem dX2_offers_199 : decode cX2_offers 199 = .ok (.getfield 32, 3) := by decide +kernel
theorem dX2_offers_202 : decode cX2_offers 202 = .ok (.iload 10, 2) := by decide +kernel
theorem dX2_offers_204 : decode cX2_offers 204 = .ok (.aload_n 0, 1) := by decide +kernel
theorem dX2_offers_205 : decode cX2_offers 205 = .ok (.getfield 17, 3) := by decide +kernel
theorem dX2_offers_208 : decode cX2_offers 208 = .ok (.iconst 5, 1) := by decide +kernel
theorem dX2_offers_209 : decode cX2_offers 209 = .ok (.iload 10, 2) := by decide +kernel
theorem dX2_offers_211 : decode cX2_offers 211 = .ok (.imul, 1) := by decide +kernel
theorem dX2_offers_212 : decode cX2_offers 212 = .ok (.iload 15, 2) := by decide +kernel
theorem dX2_offers_214 : decode cX2_offers 214 = .ok (.iadd, 1) := by decide +kernel
theorem dX2_offers_215 : decode cX2_offers 215 = .ok (.iaload, 1) := by decide +kernel
theorem dX2_offers_216 : decode cX2_offers 216 = .ok (.iastore, 1) := by decide +kernel
theorem dX2_offers_217 : decode cX2_offers 217 = .ok (.iinc 15 (-1), 3) := by decide +kernel
theorem dX2_offers_220 : decode cX2_offers 220 = .ok (.goto (-80), 3) := by decide +kernel
theorem dX2_offers_223 : decode cX2_offers 223 = .ok (.lload 13, 2) := by decide +kernel
theorem dX2_offers_225 : decode cX2_offers 225 = .ok (.lstore 5, 2) := by decide +kernel
theorem dX2_offers_227 : decode cX2_offers 227 = .ok (.lload 7, 2) := by decide +kernel
theorem dX2_offers_229 : decode cX2_offers 229 = .ok (.lload 11, 2) := by decide +kernel
theorem dX2_offers_231 : decode cX2_offers 231 = .ok (.lmul, 1) := by decide +kernel
theorem dX2_offers_232 : decode cX2_offers 232 = .ok (.lstore 7, 2) := by decide +kernel
theorem dX2_offers_234 : decode cX2_offers 234 = .ok (.iinc 9 1, 3) := by decide +kernel
theorem dX2_offers_237 : decode cX2_offers 237 = .ok (.goto (-186), 3) := by decide +kernel
theorem dX2_offers_240 : decode cX2_offers 240 = .ok (.iload_n 3, 1) := by decide +kernel
theorem dX2_offers_241 : decode cX2_offers 241 = .ok (.ifCond .eq 7, 3) := by decide +kernel
theorem dX2_offers_244 : decode cX2_offers 244 = .ok (.ldc2_w 75, 3) := by decide +kernel
theorem dX2_offers_247 : decode cX2_offers 247 = .ok (.lreturn, 1) := by decide +kernel
theorem dX2_offers_248 : decode cX2_offers 248 = .ok (.iload_n 2, 1) := by decide +kernel
theorem dX2_offers_249 : decode cX2_offers 249 = .ok (.iconst 1, 1) := by decide +kernel
theorem dX2_offers_250 : decode cX2_offers 250 = .ok (.if_icmp .le 15, 3) := by decide +kernel
theorem dX2_offers_253 : decode cX2_offers 253 = .ok (.aload_n 0, 1) := by decide +kernel
theorem dX2_offers_254 : decode cX2_offers 254 = .ok (.getfield 32, 3) := by decide +kernel
theorem dX2_offers_257 : decode cX2_offers 257 = .ok (.iload_n 2, 1) := by decide +kernel
theorem dX2_offers_258 : decode cX2_offers 258 = .ok (.iconst 2, 1) := by decide +kernel
theorem dX2_offers_259 : decode cX2_offers 259 = .ok (.isub, 1) := by decide +kernel
theorem dX2_offers_260 : decode cX2_offers 260 = .ok (.iaload, 1) := by decide +kernel
theorem dX2_offers_261 : decode cX2_offers 261 = .ok (.i2l, 1) := by decide +kernel
theorem dX2_offers_262 : decode cX2_offers 262 = .ok (.goto 12, 3) := by decide +kernel
theorem dX2_offers_265 : decode cX2_offers 265 = .ok (.aload_n 0, 1) := by decide +kernel
theorem dX2_offers_266 : decode cX2_offers 266 = .ok (.lload 5, 2) := by decide +kernel
theorem dX2_offers_268 : decode cX2_offers 268 = .ok (.lload 7, 2) := by decide +kernel
theorem dX2_offers_270 : decode cX2_offers 270 = .ok (.iload_n 2, 1) := by decide +kernel
theorem dX2_offers_271 : decode cX2_offers 271 = .ok (.invokevirtual 81, 3) := by decide +kernel
theorem dX2_offers_274 : decode cX2_offers 274 = .ok (.lreturn, 1) := by decide +kernel
theorem dX2_pairs_0 : decode cX2_pairs 0 = .ok (.iconst 0, 1) := by decide +kernel
theorem dX2_pairs_1 : decode cX2_pairs 1 = .ok (.istore 4, 2) := by decide +kernel
theorem dX2_pairs_3 : decode cX2_pairs 3 = .ok (.iconst 0, 1) := by decide +kernel
theorem dX2_pairs_4 : decode cX2_pairs 4 = .ok (.istore 5, 2) := by decide +kernel
theorem dX2_pairs_6 : decode cX2_pairs 6 = .ok (.iload 5, 2) := by decide +kernel
theorem dX2_pairs_8 : decode cX2_pairs 8 = .ok (.aload_n 0, 1) := by decide +kernel
theorem dX2_pairs_9 : decode cX2_pairs 9 = .ok (.getfield 13, 3) := by decide +kernel
theorem dX2_pairs_12 : decode cX2_pairs 12 = .ok (.iload_n 1, 1) := by decide +kernel
theorem dX2_pairs_13 : decode cX2_pairs 13 = .ok (.iaload, 1) := by decide +kernel
theorem dX2_pairs_14 : decode cX2_pairs 14 = .ok (.if_icmp .ge 88, 3) := by decide +kernel
theorem dX2_pairs_17 : decode cX2_pairs 17 = .ok (.iconst 0, 1) := by decide +kernel
theorem dX2_pairs_18 : decode cX2_pairs 18 = .ok (.istore 6, 2) := by decide +kernel
theorem dX2_pairs_20 : decode cX2_pairs 20 = .ok (.iload 6, 2) := by decide +kernel
theorem dX2_pairs_22 : decode cX2_pairs 22 = .ok (.aload_n 0, 1) := by decide +kernel
theorem dX2_pairs_23 : decode cX2_pairs 23 = .ok (.getfield 13, 3) := by decide +kernel
theorem dX2_pairs_26 : decode cX2_pairs 26 = .ok (.iload_n 2, 1) := by decide +kernel
theorem dX2_pairs_27 : decode cX2_pairs 27 = .ok (.iaload, 1) := by decide +kernel
theorem dX2_pairs_28 : decode cX2_pairs 28 = .ok (.if_icmp .ge 68, 3) := by decide +kernel
theorem dX2_pairs_31 : decode cX2_pairs 31 = .ok (.iload 4, 2) := by decide +kernel
theorem dX2_pairs_33 : decode cX2_pairs 33 = .ok (.aload_n 0, 1) := by decide +kernel
theorem dX2_pairs_34 : decode cX2_pairs 34 = .ok (.getfield 17, 3) := by decide +kernel
theorem dX2_pairs_37 : decode cX2_pairs 37 = .ok (.iconst 5, 1) := by decide +kernel
theorem dX2_pairs_38 : decode cX2_pairs 38 = .ok (.iload_n 1, 1) := by decide +kernel
theorem dX2_pairs_39 : decode cX2_pairs 39 = .ok (.imul, 1) := by decide +kernel
theorem dX2_pairs_40 : decode cX2_pairs 40 = .ok (.iload 5, 2) := by decide +kernel
theorem dX2_pairs_42 : decode cX2_pairs 42 = .ok (.iadd, 1) := by decide +kernel
theorem dX2_pairs_43 : decode cX2_pairs 43 = .ok (.iaload, 1) := by decide +kernel
theorem dX2_pairs_44 : decode cX2_pairs 44 = .ok (.aload_n 0, 1) := by decide +kernel
theorem dX2_pairs_45 : decode cX2_pairs 45 = .ok (.getfield 17, 3) := by decide +kernel
theorem dX2_pairs_48 : decode cX2_pairs 48 = .ok (.iconst 5, 1) := by decide +kernel
theorem dX2_pairs_49 : decode cX2_pairs 49 = .ok (.iload_n 2, 1) := by decide +kernel
theorem dX2_pairs_50 : decode cX2_pairs 50 = .ok (.imul, 1) := by decide +kernel
theorem dX2_pairs_51 : decode cX2_pairs 51 = .ok (.iload 6, 2) := by decide +kernel
theorem dX2_pairs_53 : decode cX2_pairs 53 = .ok (.iadd, 1) := by decide +kernel
theorem dX2_pairs_54 : decode cX2_pairs 54 = .ok (.iaload, 1) := by decide +kernel
theorem dX2_pairs_55 : decode cX2_pairs 55 = .ok (.iadd, 1) := by decide +kernel
theorem dX2_pairs_56 : decode cX2_pairs 56 = .ok (.iload_n 3, 1) := by decide +kernel
theorem dX2_pairs_57 : decode cX2_pairs 57 = .ok (.if_icmp .lt 29, 3) := by decide +kernel
theorem dX2_pairs_60 : decode cX2_pairs 60 = .ok (.aload_n 0, 1) := by decide +kernel
theorem dX2_pairs_61 : decode cX2_pairs 61 = .ok (.getfield 20, 3) := by decide +kernel
theorem dX2_pairs_64 : decode cX2_pairs 64 = .ok (.iconst 5, 1) := by decide +kernel
theorem dX2_pairs_65 : decode cX2_pairs 65 = .ok (.iload_n 1, 1) := by decide +kernel
theorem dX2_pairs_66 : decode cX2_pairs 66 = .ok (.imul, 1) := by decide +kernel
theorem dX2_pairs_67 : decode cX2_pairs 67 = .ok (.iload 5, 2) := by decide +kernel
theorem dX2_pairs_69 : decode cX2_pairs 69 = .ok (.iadd, 1) := by decide +kernel
theorem dX2_pairs_70 : decode cX2_pairs 70 = .ok (.iaload, 1) := by decide +kernel
theorem dX2_pairs_71 : decode cX2_pairs 71 = .ok (.aload_n 0, 1) := by decide +kernel
theorem dX2_pairs_72 : decode cX2_pairs 72 = .ok (.getfield 20, 3) := by decide +kernel
theorem dX2_pairs_75 : decode cX2_pairs 75 = .ok (.iconst 5, 1) := by decide +kernel
theorem dX2_pairs_76 : decode cX2_pairs 76 = .ok (.iload_n 2, 1) := by decide +kernel
theorem dX2_pairs_77 : decode cX2_pairs 77 = .ok (.imul, 1) := by decide +kernel
theorem dX2_pairs_78 : decode cX2_pairs 78 = .ok (.iload 6, 2) := by decide +kernel
theorem dX2_pairs_80 : decode cX2_pairs 80 = .ok (.iadd, 1) := by decide +kernel
theorem dX2_pairs_81 : decode cX2_pairs 81 = .ok (.iaload, 1) := by decide +kernel
theorem dX2_pairs_82 : decode cX2_pairs 82 = .ok (.imul, 1) := by decide +kernel
theorem dX2_pairs_83 : decode cX2_pairs 83 = .ok (.goto 4, 3) := by decide +kernel
theorem dX2_pairs_86 : decode cX2_pairs 86 = .ok (.iconst 0, 1) := by decide +kernel
theorem dX2_pairs_87 : decode cX2_pairs 87 = .ok (.iadd, 1) := by decide +kernel
theorem dX2_pairs_88 : decode cX2_pairs 88 = .ok (.istore 4, 2) := by decide +kernel
theorem dX2_pairs_90 : decode cX2_pairs 90 = .ok (.iinc 6 1, 3) := by decide +kernel
theorem dX2_pairs_93 : decode cX2_pairs 93 = .ok (.goto (-73), 3) := by decide +kernel
theorem dX2_pairs_96 : decode cX2_pairs 96 = .ok (.iinc 5 1, 3) := by decide +kernel
theorem dX2_pairs_99 : decode cX2_pairs 99 = .ok (.goto (-93), 3) := by decide +kernel
theorem dX2_pairs_102 : decode cX2_pairs 102 = .ok (.iload 4, 2) := by decide +kernel
theorem dX2_pairs_104 : decode cX2_pairs 104 = .ok (.ireturn, 1) := by decide +kernel
set_option maxRecDepth 20000 in
theorem ggX2_bundle_X2_isBuyer : GoodIn wsX2_bundle wsX2_isBuyer := goodIn_r _ [9, 10, 11, 12, 8, 13, 31, 32, 33, 34, 35, 36, 37, 38, 39, 40, 41, 42, 43, 44] (by decide +kernel) (by decide +kernel)
set_option maxRecDepth 20000 in
theorem gX2_bundle_X2_isBuyer : GoodIn wsX2_bundle (wsV RX2 45 RX2 yX2_isBuyer wsX2_isBuyer) := goodIn_app (goodIn_of _ (by decide +kernel)) ggX2_bundle_X2_isBuyer
set_option maxRecDepth 20000 in
theorem ggX2_bundle_X2_in : GoodIn wsX2_bundle wsX2_in := goodIn_r _ [13] (by decide +kernel) (by decide +kernel)
set_option maxRecDepth 20000 in
theorem gX2_bundle_X2_in : GoodIn wsX2_bundle (va_wsS RX2 41 yX2_in wsX2_in) := goodIn_app (goodIn_of _ (by decide +kernel)) ggX2_bundle_X2_in
set_option maxRecDepth 20000 in
theorem ggX2_bundle_X2_pairs : GoodIn wsX2_bundle wsX2_pairs := goodIn_r _ [17, 3, 4, 18, 31, 32, 33, 34, 35, 36, 37, 38, 39, 40, 41, 42, 43, 44] (by decide +kernel) (by decide +kernel)
set_option maxRecDepth 20000 in
theorem gX2_bundle_X2_pairs : GoodIn wsX2_bundle (wsV RX2 116 RX2 yX2_pairs wsX2_pairs) := goodIn_app (goodIn_of _ (by decide +kernel)) ggX2_bundle_X2_pairs
set_option maxRecDepth 20000 in
theorem ggX2_bundle_X2_bestOf : GoodIn wsX2_bundle wsX2_bestOf := goodIn_r _ [22, 3, 23, 24, 25, 8, 26, 4, 27, 28, 29, 30, 18, 31, 32, 33, 34, 35, 36, 37, 38, 39, 40, 41, 42, 43, 44] (by decide +kernel) (by decide +kernel)
set_option maxRecDepth 20000 in
theorem gX2_bundle_X2_bestOf : GoodIn wsX2_bundle (wsV RX2 60 RX2 yX2_bestOf wsX2_bestOf) := goodIn_app (goodIn_of _ (by decide +kernel)) ggX2_bundle_X2_bestOf
set_option maxRecDepth 20000 in
theorem ggX2_bundle_X2_take : GoodIn wsX2_bundle wsX2_take := goodIn_r _ [26, 3, 4, 27, 28, 29, 8, 30, 18, 31, 32, 33, 34, 35, 36, 37, 38, 39, 40, 41, 42, 43, 44] (by decide +kernel) (by decide +kernel)
set_option maxRecDepth 20000 in
theorem gX2_bundle_X2_take : GoodIn wsX2_bundle (wsV RX2 53 RX2 yX2_take wsX2_take) := goodIn_app (goodIn_of _ (by decide +kernel)) ggX2_bundle_X2_take
set_option maxRecDepth 20000 in
theorem ggX2_bundle_X2_share : GoodIn wsX2_bundle wsX2_share := goodIn_r _ [30, 3, 18, 31, 32, 33, 34, 35, 36, 37, 38, 39, 40, 41, 42, 43, 44] (by decide +kernel) (by decide +kernel)
set_option maxRecDepth 20000 in
theorem gX2_bundle_X2_share : GoodIn wsX2_bundle (wsV RX2 49 RX2 yX2_share wsX2_share) := goodIn_app (goodIn_of _ (by decide +kernel)) ggX2_bundle_X2_share
theorem dX2_bundle_0 : decode cX2_bundle 0 = .ok (.aload_n 0, 1) := by decide +kernel
theorem dX2_bundle_1 : decode cX2_bundle 1 = .ok (.iconst 0, 1) := by decide +kernel
theorem dX2_bundle_2 : decode cX2_bundle 2 = .ok (.putfield 38, 3) := by decide +kernel
theorem dX2_bundle_5 : decode cX2_bundle 5 = .ok (.aload_n 0, 1) := by decide +kernel
theorem dX2_bundle_6 : decode cX2_bundle 6 = .ok (.iload_n 1, 1) := by decide +kernel
theorem dX2_bundle_7 : decode cX2_bundle 7 = .ok (.invokevirtual 45, 3) := by decide +kernel
theorem dX2_bundle_10 : decode cX2_bundle 10 = .ok (.ifCond .eq 25, 3) := by decide +kernel
theorem dX2_bundle_13 : decode cX2_bundle 13 = .ok (.aload_n 0, 1) := by decide +kernel
theorem dX2_bundle_14 : decode cX2_bundle 14 = .ok (.iload_n 2, 1) := by decide +kernel
theorem dX2_bundle_15 : decode cX2_bundle 15 = .ok (.invokevirtual 45, 3) := by decide +kernel
theorem dX2_bundle_18 : decode cX2_bundle 18 = .ok (.ifCond .eq 17, 3) := by decide +kernel
theorem dX2_bundle_21 : decode cX2_bundle 21 = .ok (.iload_n 1, 1) := by decide +kernel
theorem dX2_bundle_22 : decode cX2_bundle 22 = .ok (.iload_n 2, 1) := by decide +kernel
theorem dX2_bundle_23 : decode cX2_bundle 23 = .ok (.if_icmp .eq 12, 3) := by decide +kernel
theorem dX2_bundle_26 : decode cX2_bundle 26 = .ok (.iload_n 3, 1) := by decide +kernel
theorem dX2_bundle_27 : decode cX2_bundle 27 = .ok (.iconst 0, 1) := by decide +kernel
theorem dX2_bundle_28 : decode cX2_bundle 28 = .ok (.iconst 2, 1) := by decide +kernel
theorem dX2_bundle_29 : decode cX2_bundle 29 = .ok (.invokestatic 41, 3) := by decide +kernel
theorem dX2_bundle_32 : decode cX2_bundle 32 = .ok (.ifCond .ne 6, 3) := by decide +kernel
theorem dX2_bundle_35 : decode cX2_bundle 35 = .ok (.bipush (-5), 2) := by decide +kernel
theorem dX2_bundle_37 : decode cX2_bundle 37 = .ok (.ireturn, 1) := by decide +kernel
theorem dX2_bundle_38 : decode cX2_bundle 38 = .ok (.bipush (-9), 2) := by decide +kernel
theorem dX2_bundle_40 : decode cX2_bundle 40 = .ok (.istore 4, 2) := by decide +kernel
theorem dX2_bundle_42 : decode cX2_bundle 42 = .ok (.ldc2_w 114, 3) := by decide +kernel
theorem dX2_bundle_45 : decode cX2_bundle 45 = .ok (.lstore 5, 2) := by decide +kernel
theorem dX2_bundle_47 : decode cX2_bundle 47 = .ok (.iconst 0, 1) := by decide +kernel
theorem dX2_bundle_48 : decode cX2_bundle 48 = .ok (.istore 7, 2) := by decide +kernel
theorem dX2_bundle_50 : decode cX2_bundle 50 = .ok (.iload 7, 2) := by decide +kernel
theorem dX2_bundle_52 : decode cX2_bundle 52 = .ok (.aload_n 0, 1) := by decide +kernel
theorem dX2_bundle_53 : decode cX2_bundle 53 = .ok (.getfield 13, 3) := by decide +kernel
theorem dX2_bundle_56 : decode cX2_bundle 56 = .ok (.iload_n 1, 1) := by decide +kernel
theorem dX2_bundle_57 : decode cX2_bundle 57 = .ok (.iaload, 1) := by decide +kernel
theorem dX2_bundle_58 : decode cX2_bundle 58 = .ok (.if_icmp .ge 100, 3) := by decide +kernel
theorem dX2_bundle_61 : decode cX2_bundle 61 = .ok (.iconst 0, 1) := by decide +kernel
theorem dX2_bundle_62 : decode cX2_bundle 62 = .ok (.istore 8, 2) := by decide +kernel
theorem dX2_bundle_64 : decode cX2_bundle 64 = .ok (.iload 8, 2) := by decide +kernel
theorem dX2_bundle_66 : decode cX2_bundle 66 = .ok (.aload_n 0, 1) := by decide +kernel
theorem dX2_bundle_67 : decode cX2_bundle 67 = .ok (.getfield 13, 3) := by decide +kernel
theorem dX2_bundle_70 : decode cX2_bundle 70 = .ok (.iload_n 2, 1) := by decide +kernel
theorem dX2_bundle_71 : decode cX2_bundle 71 = .ok (.iaload, 1) := by decide +kernel
theorem dX2_bundle_72 : decode cX2_bundle 72 = .ok (.if_icmp .ge 80, 3) := by decide +kernel
theorem dX2_bundle_75 : decode cX2_bundle 75 = .ok (.aload_n 0, 1) := by decide +kernel
theorem dX2_bundle_76 : decode cX2_bundle 76 = .ok (.getfield 17, 3) := by decide +kernel
theorem dX2_bundle_79 : decode cX2_bundle 79 = .ok (.iconst 5, 1) := by decide +kernel
theorem dX2_bundle_80 : decode cX2_bundle 80 = .ok (.iload_n 1, 1) := by decide +kernel
theorem dX2_bundle_81 : decode cX2_bundle 81 = .ok (.imul, 1) := by decide +kernel
theorem dX2_bundle_82 : decode cX2_bundle 82 = .ok (.iload 7, 2) := by decide +kernel
theorem dX2_bundle_84 : decode cX2_bundle 84 = .ok (.iadd, 1) := by decide +kernel
theorem dX2_bundle_85 : decode cX2_bundle 85 = .ok (.iaload, 1) := by decide +kernel
theorem dX2_bundle_86 : decode cX2_bundle 86 = .ok (.aload_n 0, 1) := by decide +kernel
theorem dX2_bundle_87 : decode cX2_bundle 87 = .ok (.getfield 17, 3) := by decide +kernel
theorem dX2_bundle_90 : decode cX2_bundle 90 = .ok (.iconst 5, 1) := by decide +kernel
theorem dX2_bundle_91 : decode cX2_bundle 91 = .ok (.iload_n 2, 1) := by decide +kernel
theorem dX2_bundle_92 : decode cX2_bundle 92 = .ok (.imul, 1) := by decide +kernel
theorem dX2_bundle_93 : decode cX2_bundle 93 = .ok (.iload 8, 2) := by decide +kernel
theorem dX2_bundle_95 : decode cX2_bundle 95 = .ok (.iadd, 1) := by decide +kernel
theorem dX2_bundle_96 : decode cX2_bundle 96 = .ok (.iaload, 1) := by decide +kernel
theorem dX2_bundle_97 : decode cX2_bundle 97 = .ok (.iadd, 1) := by decide +kernel
theorem dX2_bundle_98 : decode cX2_bundle 98 = .ok (.istore 9, 2) := by decide +kernel
theorem dX2_bundle_100 : decode cX2_bundle 100 = .ok (.iload 9, 2) := by decide +kernel
theorem dX2_bundle_102 : decode cX2_bundle 102 = .ok (.i2l, 1) := by decide +kernel
theorem dX2_bundle_103 : decode cX2_bundle 103 = .ok (.aload_n 0, 1) := by decide +kernel
theorem dX2_bundle_104 : decode cX2_bundle 104 = .ok (.iload_n 1, 1) := by decide +kernel
theorem dX2_bundle_105 : decode cX2_bundle 105 = .ok (.iload_n 2, 1) := by decide +kernel
theorem dX2_bundle_106 : decode cX2_bundle 106 = .ok (.iload 9, 2) := by decide +kernel
theorem dX2_bundle_108 : decode cX2_bundle 108 = .ok (.invokevirtual 116, 3) := by decide +kernel
theorem dX2_bundle_111 : decode cX2_bundle 111 = .ok (.i2l, 1) := by decide +kernel
theorem dX2_bundle_112 : decode cX2_bundle 112 = .ok (.lmul, 1) := by decide +kernel
theorem dX2_bundle_113 : decode cX2_bundle 113 = .ok (.lstore 10, 2) := by decide +kernel
theorem dX2_bundle_115 : decode cX2_bundle 115 = .ok (.lload 10, 2) := by decide +kernel
theorem dX2_bundle_117 : decode cX2_bundle 117 = .ok (.lload 5, 2) := by decide +kernel
theorem dX2_bundle_119 : decode cX2_bundle 119 = .ok (.lcmp, 1) := by decide +kernel
theorem dX2_bundle_120 : decode cX2_bundle 120 = .ok (.ifCond .gt 18, 3) := by decide +kernel
theorem dX2_bundle_123 : decode cX2_bundle 123 = .ok (.lload 10, 2) := by decide +kernel
theorem dX2_bundle_125 : decode cX2_bundle 125 = .ok (.lload 5, 2) := by decide +kernel
theorem dX2_bundle_127 : decode cX2_bundle 127 = .ok (.lcmp, 1) := by decide +kernel
theorem dX2_bundle_128 : decode cX2_bundle 128 = .ok (.ifCond .ne 18, 3) := by decide +kernel
theorem dX2_bundle_131 : decode cX2_bundle 131 = .ok (.iload 9, 2) := by decide +kernel
theorem dX2_bundle_133 : decode cX2_bundle 133 = .ok (.iload 4, 2) := by decide +kernel
theorem dX2_bundle_135 : decode cX2_bundle 135 = .ok (.if_icmp .ge 11, 3) := by decide +kernel
theorem dX2_bundle_138 : decode cX2_bundle 138 = .ok (.lload 10, 2) := by decide +kernel
theorem dX2_bundle_140 : decode cX2_bundle 140 = .ok (.lstore 5, 2) := by decide +kernel
theorem dX2_bundle_142 : decode cX2_bundle 142 = .ok (.iload 9, 2) := by decide +kernel
theorem dX2_bundle_144 : decode cX2_bundle 144 = .ok (.istore 4, 2) := by decide +kernel
theorem dX2_bundle_146 : decode cX2_bundle 146 = .ok (.iinc 8 1, 3) := by decide +kernel
theorem dX2_bundle_149 : decode cX2_bundle 149 = .ok (.goto (-85), 3) := by decide +kernel
theorem dX2_bundle_152 : decode cX2_bundle 152 = .ok (.iinc 7 1, 3) := by decide +kernel
theorem dX2_bundle_155 : decode cX2_bundle 155 = .ok (.goto (-105), 3) := by decide +kernel
theorem dX2_bundle_158 : decode cX2_bundle 158 = .ok (.iload_n 3, 1) := by decide +kernel
theorem dX2_bundle_159 : decode cX2_bundle 159 = .ok (.iconst 2, 1) := by decide +kernel
theorem dX2_bundle_160 : decode cX2_bundle 160 = .ok (.if_icmp .ge 21, 3) := by decide +kernel
theorem dX2_bundle_163 : decode cX2_bundle 163 = .ok (.iload_n 3, 1) := by decide +kernel
theorem dX2_bundle_164 : decode cX2_bundle 164 = .ok (.ifCond .ne 8, 3) := by decide +kernel
theorem dX2_bundle_167 : decode cX2_bundle 167 = .ok (.iload 4, 2) := by decide +kernel
theorem dX2_bundle_169 : decode cX2_bundle 169 = .ok (.goto 11, 3) := by decide +kernel
theorem dX2_bundle_172 : decode cX2_bundle 172 = .ok (.aload_n 0, 1) := by decide +kernel
theorem dX2_bundle_173 : decode cX2_bundle 173 = .ok (.iload_n 1, 1) := by decide +kernel
theorem dX2_bundle_174 : decode cX2_bundle 174 = .ok (.iload_n 2, 1) := by decide +kernel
theorem dX2_bundle_175 : decode cX2_bundle 175 = .ok (.iload 4, 2) := by decide +kernel
theorem dX2_bundle_177 : decode cX2_bundle 177 = .ok (.invokevirtual 116, 3) := by decide +kernel
theorem dX2_bundle_180 : decode cX2_bundle 180 = .ok (.ireturn, 1) := by decide +kernel
theorem dX2_bundle_181 : decode cX2_bundle 181 = .ok (.aload_n 0, 1) := by decide +kernel
theorem dX2_bundle_182 : decode cX2_bundle 182 = .ok (.iload_n 1, 1) := by decide +kernel
theorem dX2_bundle_183 : decode cX2_bundle 183 = .ok (.aload_n 0, 1) := by decide +kernel
theorem dX2_bundle_184 : decode cX2_bundle 184 = .ok (.iload_n 1, 1) := by decide +kernel
theorem dX2_bundle_185 : decode cX2_bundle 185 = .ok (.invokevirtual 60, 3) := by decide +kernel
theorem dX2_bundle_188 : decode cX2_bundle 188 = .ok (.invokevirtual 53, 3) := by decide +kernel
theorem dX2_bundle_191 : decode cX2_bundle 191 = .ok (.i2l, 1) := by decide +kernel
theorem dX2_bundle_192 : decode cX2_bundle 192 = .ok (.aload_n 0, 1) := by decide +kernel
theorem dX2_bundle_193 : decode cX2_bundle 193 = .ok (.iload_n 2, 1) := by decide +kernel
theorem dX2_bundle_194 : decode cX2_bundle 194 = .ok (.iconst 0, 1) := by decide +kernel
theorem dX2_bundle_195 : decode cX2_bundle 195 = .ok (.invokevirtual 49, 3) := by decide +kernel
theorem dX2_bundle_198 : decode cX2_bundle 198 = .ok (.i2l, 1) := by decide +kernel
theorem dX2_bundle_199 : decode cX2_bundle 199 = .ok (.lmul, 1) := by decide +kernel
theorem dX2_bundle_200 : decode cX2_bundle 200 = .ok (.aload_n 0, 1) := by decide +kernel
theorem dX2_bundle_201 : decode cX2_bundle 201 = .ok (.iload_n 2, 1) := by decide +kernel
theorem dX2_bundle_202 : decode cX2_bundle 202 = .ok (.aload_n 0, 1) := by decide +kernel
theorem dX2_bundle_203 : decode cX2_bundle 203 = .ok (.iload_n 2, 1) := by decide +kernel
theorem dX2_bundle_204 : decode cX2_bundle 204 = .ok (.invokevirtual 60, 3) := by decide +kernel
theorem dX2_bundle_207 : decode cX2_bundle 207 = .ok (.invokevirtual 53, 3) := by decide +kernel
theorem dX2_bundle_210 : decode cX2_bundle 210 = .ok (.i2l, 1) := by decide +kernel
theorem dX2_bundle_211 : decode cX2_bundle 211 = .ok (.aload_n 0, 1) := by decide +kernel
theorem dX2_bundle_212 : decode cX2_bundle 212 = .ok (.iload_n 1, 1) := by decide +kernel
theorem dX2_bundle_213 : decode cX2_bundle 213 = .ok (.iconst 0, 1) := by decide +kernel
theorem dX2_bundle_214 : decode cX2_bundle 214 = .ok (.invokevirtual 49, 3) := by decide +kernel
theorem dX2_bundle_217 : decode cX2_bundle 217 = .ok (.i2l, 1) := by decide +kernel
theorem dX2_bundle_218 : decode cX2_bundle 218 = .ok (.lmul, 1) := by decide +kernel
theorem dX2_bundle_219 : decode cX2_bundle 219 = .ok (.ladd, 1) := by decide +kernel
theorem dX2_bundle_220 : decode cX2_bundle 220 = .ok (.lstore 7, 2) := by decide +kernel
theorem dX2_bundle_222 : decode cX2_bundle 222 = .ok (.lload 5, 2) := by decide +kernel
theorem dX2_bundle_224 : decode cX2_bundle 224 = .ok (.lload 7, 2) := by decide +kernel
theorem dX2_bundle_226 : decode cX2_bundle 226 = .ok (.lcmp, 1) := by decide +kernel
theorem dX2_bundle_227 : decode cX2_bundle 227 = .ok (.ifCond .le 7, 3) := by decide +kernel
theorem dX2_bundle_230 : decode cX2_bundle 230 = .ok (.iconst 1, 1) := by decide +kernel
theorem dX2_bundle_231 : decode cX2_bundle 231 = .ok (.goto 16, 3) := by decide +kernel
theorem dX2_bundle_234 : decode cX2_bundle 234 = .ok (.lload 5, 2) := by decide +kernel
theorem dX2_bundle_236 : decode cX2_bundle 236 = .ok (.lload 7, 2) := by decide +kernel
theorem dX2_bundle_238 : decode cX2_bundle 238 = .ok (.lcmp, 1) := by decide +kernel
theorem dX2_bundle_239 : decode cX2_bundle 239 = .ok (.ifCond .ge 7, 3) := by decide +kernel
theorem dX2_bundle_242 : decode cX2_bundle 242 = .ok (.iconst (-1), 1) := by decide +kernel
theorem dX2_bundle_243 : decode cX2_bundle 243 = .ok (.goto 4, 3) := by decide +kernel
theorem dX2_bundle_246 : decode cX2_bundle 246 = .ok (.iconst 0, 1) := by decide +kernel
theorem dX2_bundle_247 : decode cX2_bundle 247 = .ok (.ireturn, 1) := by decide +kernel
set_option maxRecDepth 20000 in
theorem ggX2_sample_X2_in : GoodIn wsX2_sample wsX2_in := goodIn_r _ [7] (by decide +kernel) (by decide +kernel)
set_option maxRecDepth 20000 in
theorem gX2_sample_X2_in : GoodIn wsX2_sample (va_wsS RX2 41 yX2_in wsX2_in) := goodIn_app (goodIn_of _ (by decide +kernel)) ggX2_sample_X2_in
theorem dX2_sample_0 : decode cX2_sample 0 = .ok (.aload_n 0, 1) := by decide +kernel
theorem dX2_sample_1 : decode cX2_sample 1 = .ok (.iconst 0, 1) := by decide +kernel
theorem dX2_sample_2 : decode cX2_sample 2 = .ok (.putfield 38, 3) := by decide +kernel
theorem dX2_sample_5 : decode cX2_sample 5 = .ok (.iload_n 1, 1) := by decide +kernel
theorem dX2_sample_6 : decode cX2_sample 6 = .ok (.iconst 0, 1) := by decide +kernel
theorem dX2_sample_7 : decode cX2_sample 7 = .ok (.sipush 1000, 3) := by decide +kernel
theorem dX2_sample_10 : decode cX2_sample 10 = .ok (.invokestatic 41, 3) := by decide +kernel
theorem dX2_sample_13 : decode cX2_sample 13 = .ok (.ifCond .ne 5, 3) := by decide +kernel
theorem dX2_sample_16 : decode cX2_sample 16 = .ok (.iconst (-1), 1) := by decide +kernel
theorem dX2_sample_17 : decode cX2_sample 17 = .ok (.ireturn, 1) := by decide +kernel
theorem dX2_sample_18 : decode cX2_sample 18 = .ok (.aload_n 0, 1) := by decide +kernel
theorem dX2_sample_19 : decode cX2_sample 19 = .ok (.getfield 120, 3) := by decide +kernel
theorem dX2_sample_22 : decode cX2_sample 22 = .ok (.bipush 12, 2) := by decide +kernel
theorem dX2_sample_24 : decode cX2_sample 24 = .ok (.if_icmp .ne 6, 3) := by decide +kernel
theorem dX2_sample_27 : decode cX2_sample 27 = .ok (.bipush (-3), 2) := by decide +kernel
theorem dX2_sample_29 : decode cX2_sample 29 = .ok (.ireturn, 1) := by decide +kernel
theorem dX2_sample_30 : decode cX2_sample 30 = .ok (.aload_n 0, 1) := by decide +kernel
theorem dX2_sample_31 : decode cX2_sample 31 = .ok (.getfield 23, 3) := by decide +kernel
theorem dX2_sample_34 : decode cX2_sample 34 = .ok (.aload_n 0, 1) := by decide +kernel
theorem dX2_sample_35 : decode cX2_sample 35 = .ok (.getfield 120, 3) := by decide +kernel
theorem dX2_sample_38 : decode cX2_sample 38 = .ok (.iload_n 1, 1) := by decide +kernel
theorem dX2_sample_39 : decode cX2_sample 39 = .ok (.iastore, 1) := by decide +kernel
theorem dX2_sample_40 : decode cX2_sample 40 = .ok (.aload_n 0, 1) := by decide +kernel
theorem dX2_sample_41 : decode cX2_sample 41 = .ok (.dup, 1) := by decide +kernel
theorem dX2_sample_42 : decode cX2_sample 42 = .ok (.getfield 120, 3) := by decide +kernel
theorem dX2_sample_45 : decode cX2_sample 45 = .ok (.iconst 1, 1) := by decide +kernel
theorem dX2_sample_46 : decode cX2_sample 46 = .ok (.iadd, 1) := by decide +kernel
theorem dX2_sample_47 : decode cX2_sample 47 = .ok (.putfield 120, 3) := by decide +kernel
theorem dX2_sample_50 : decode cX2_sample 50 = .ok (.aload_n 0, 1) := by decide +kernel
theorem dX2_sample_51 : decode cX2_sample 51 = .ok (.getfield 120, 3) := by decide +kernel
theorem dX2_sample_54 : decode cX2_sample 54 = .ok (.ireturn, 1) := by decide +kernel
theorem dX2_clear_0 : decode cX2_clear 0 = .ok (.aload_n 0, 1) := by decide +kernel
theorem dX2_clear_1 : decode cX2_clear 1 = .ok (.iconst 0, 1) := by decide +kernel
theorem dX2_clear_2 : decode cX2_clear 2 = .ok (.putfield 38, 3) := by decide +kernel
theorem dX2_clear_5 : decode cX2_clear 5 = .ok (.aload_n 0, 1) := by decide +kernel
theorem dX2_clear_6 : decode cX2_clear 6 = .ok (.getfield 120, 3) := by decide +kernel
theorem dX2_clear_9 : decode cX2_clear 9 = .ok (.istore_n 1, 1) := by decide +kernel
theorem dX2_clear_10 : decode cX2_clear 10 = .ok (.aload_n 0, 1) := by decide +kernel
theorem dX2_clear_11 : decode cX2_clear 11 = .ok (.iconst 0, 1) := by decide +kernel
theorem dX2_clear_12 : decode cX2_clear 12 = .ok (.putfield 120, 3) := by decide +kernel
theorem dX2_clear_15 : decode cX2_clear 15 = .ok (.iload_n 1, 1) := by decide +kernel
theorem dX2_clear_16 : decode cX2_clear 16 = .ok (.ireturn, 1) := by decide +kernel
theorem dX2_learnt_0 : decode cX2_learnt 0 = .ok (.aload_n 0, 1) := by decide +kernel
theorem dX2_learnt_1 : decode cX2_learnt 1 = .ok (.iconst 0, 1) := by decide +kernel
theorem dX2_learnt_2 : decode cX2_learnt 2 = .ok (.putfield 38, 3) := by decide +kernel
theorem dX2_learnt_5 : decode cX2_learnt 5 = .ok (.bipush (-9), 2) := by decide +kernel
theorem dX2_learnt_7 : decode cX2_learnt 7 = .ok (.istore_n 1, 1) := by decide +kernel
theorem dX2_learnt_8 : decode cX2_learnt 8 = .ok (.iconst (-1), 1) := by decide +kernel
theorem dX2_learnt_9 : decode cX2_learnt 9 = .ok (.istore_n 2, 1) := by decide +kernel
theorem dX2_learnt_10 : decode cX2_learnt 10 = .ok (.iconst 0, 1) := by decide +kernel
theorem dX2_learnt_11 : decode cX2_learnt 11 = .ok (.istore_n 3, 1) := by decide +kernel
theorem dX2_learnt_12 : decode cX2_learnt 12 = .ok (.iload_n 3, 1) := by decide +kernel
theorem dX2_learnt_13 : decode cX2_learnt 13 = .ok (.aload_n 0, 1) := by decide +kernel
theorem dX2_learnt_14 : decode cX2_learnt 14 = .ok (.getfield 120, 3) := by decide +kernel
theorem dX2_learnt_17 : decode cX2_learnt 17 = .ok (.if_icmp .ge 99, 3) := by decide +kernel
theorem dX2_learnt_20 : decode cX2_learnt 20 = .ok (.iconst 0, 1) := by decide +kernel
theorem dX2_learnt_21 : decode cX2_learnt 21 = .ok (.istore 4, 2) := by decide +kernel
theorem dX2_learnt_23 : decode cX2_learnt 23 = .ok (.iconst 0, 1) := by decide +kernel
theorem dX2_learnt_24 : decode cX2_learnt 24 = .ok (.istore 5, 2) := by decide +kernel
theorem dX2_learnt_26 : decode cX2_learnt 26 = .ok (.iload 5, 2) := by decide +kernel
theorem dX2_learnt_28 : decode cX2_learnt 28 = .ok (.aload_n 0, 1) := by decide +kernel
theorem dX2_learnt_29 : decode cX2_learnt 29 = .ok (.getfield 120, 3) := by decide +kernel
theorem dX2_learnt_32 : decode cX2_learnt 32 = .ok (.if_icmp .ge 35, 3) := by decide +kernel
theorem dX2_learnt_35 : decode cX2_learnt 35 = .ok (.iload 4, 2) := by decide +kernel
theorem dX2_learnt_37 : decode cX2_learnt 37 = .ok (.aload_n 0, 1) := by decide +kernel
theorem dX2_learnt_38 : decode cX2_learnt 38 = .ok (.getfield 23, 3) := by decide +kernel
theorem dX2_learnt_41 : decode cX2_learnt 41 = .ok (.iload 5, 2) := by decide +kernel
theorem dX2_learnt_43 : decode cX2_learnt 43 = .ok (.iaload, 1) := by decide +kernel
theorem dX2_learnt_44 : decode cX2_learnt 44 = .ok (.aload_n 0, 1) := by decide +kernel
theorem dX2_learnt_45 : decode cX2_learnt 45 = .ok (.getfield 23, 3) := by decide +kernel
theorem dX2_learnt_48 : decode cX2_learnt 48 = .ok (.iload_n 3, 1) := by decide +kernel
theorem dX2_learnt_49 : decode cX2_learnt 49 = .ok (.iaload, 1) := by decide +kernel
theorem dX2_learnt_50 : decode cX2_learnt 50 = .ok (.if_icmp .lt 7, 3) := by decide +kernel
theorem dX2_learnt_53 : decode cX2_learnt 53 = .ok (.iconst 1, 1) := by decide +kernel
theorem dX2_learnt_54 : decode cX2_learnt 54 = .ok (.goto 4, 3) := by decide +kernel
theorem dX2_learnt_57 : decode cX2_learnt 57 = .ok (.iconst 0, 1) := by decide +kernel
theorem dX2_learnt_58 : decode cX2_learnt 58 = .ok (.iadd, 1) := by decide +kernel
theorem dX2_learnt_59 : decode cX2_learnt 59 = .ok (.istore 4, 2) := by decide +kernel
theorem dX2_learnt_61 : decode cX2_learnt 61 = .ok (.iinc 5 1, 3) := by decide +kernel
theorem dX2_learnt_64 : decode cX2_learnt 64 = .ok (.goto (-38), 3) := by decide +kernel
theorem dX2_learnt_67 : decode cX2_learnt 67 = .ok (.aload_n 0, 1) := by decide +kernel
theorem dX2_learnt_68 : decode cX2_learnt 68 = .ok (.getfield 23, 3) := by decide +kernel
theorem dX2_learnt_71 : decode cX2_learnt 71 = .ok (.iload_n 3, 1) := by decide +kernel
theorem dX2_learnt_72 : decode cX2_learnt 72 = .ok (.iaload, 1) := by decide +kernel
theorem dX2_learnt_73 : decode cX2_learnt 73 = .ok (.iload 4, 2) := by decide +kernel
theorem dX2_learnt_75 : decode cX2_learnt 75 = .ok (.imul, 1) := by decide +kernel
theorem dX2_learnt_76 : decode cX2_learnt 76 = .ok (.istore 5, 2) := by decide +kernel
theorem dX2_learnt_78 : decode cX2_learnt 78 = .ok (.iload 5, 2) := by decide +kernel
theorem dX2_learnt_80 : decode cX2_learnt 80 = .ok (.iload_n 2, 1) := by decide +kernel
theorem dX2_learnt_81 : decode cX2_learnt 81 = .ok (.if_icmp .gt 19, 3) := by decide +kernel
theorem dX2_learnt_84 : decode cX2_learnt 84 = .ok (.iload 5, 2) := by decide +kernel
theorem dX2_learnt_86 : decode cX2_learnt 86 = .ok (.iload_n 2, 1) := by decide +kernel
theorem dX2_learnt_87 : decode cX2_learnt 87 = .ok (.if_icmp .ne 23, 3) := by decide +kernel
theorem dX2_learnt_90 : decode cX2_learnt 90 = .ok (.aload_n 0, 1) := by decide +kernel
theorem dX2_learnt_91 : decode cX2_learnt 91 = .ok (.getfield 23, 3) := by decide +kernel
theorem dX2_learnt_94 : decode cX2_learnt 94 = .ok (.iload_n 3, 1) := by decide +kernel
theorem dX2_learnt_95 : decode cX2_learnt 95 = .ok (.iaload, 1) := by decide +kernel
theorem dX2_learnt_96 : decode cX2_learnt 96 = .ok (.iload_n 1, 1) := by decide +kernel
theorem dX2_learnt_97 : decode cX2_learnt 97 = .ok (.if_icmp .ge 13, 3) := by decide +kernel
theorem dX2_learnt_100 : decode cX2_learnt 100 = .ok (.iload 5, 2) := by decide +kernel
theorem dX2_learnt_102 : decode cX2_learnt 102 = .ok (.istore_n 2, 1) := by decide +kernel
theorem dX2_learnt_103 : decode cX2_learnt 103 = .ok (.aload_n 0, 1) := by decide +kernel
theorem dX2_learnt_104 : decode cX2_learnt 104 = .ok (.getfield 23, 3) := by decide +kernel
theorem dX2_learnt_107 : decode cX2_learnt 107 = .ok (.iload_n 3, 1) := by decide +kernel
theorem dX2_learnt_108 : decode cX2_learnt 108 = .ok (.iaload, 1) := by decide +kernel
theorem dX2_learnt_109 : decode cX2_learnt 109 = .ok (.istore_n 1, 1) := by decide +kernel
theorem dX2_learnt_110 : decode cX2_learnt 110 = .ok (.iinc 3 1, 3) := by decide +kernel
theorem dX2_learnt_113 : decode cX2_learnt 113 = .ok (.goto (-101), 3) := by decide +kernel
theorem dX2_learnt_116 : decode cX2_learnt 116 = .ok (.iload_n 1, 1) := by decide +kernel
theorem dX2_learnt_117 : decode cX2_learnt 117 = .ok (.ireturn, 1) := by decide +kernel
theorem dX2_count_0 : decode cX2_count 0 = .ok (.aload_n 0, 1) := by decide +kernel
theorem dX2_count_1 : decode cX2_count 1 = .ok (.iconst 0, 1) := by decide +kernel
theorem dX2_count_2 : decode cX2_count 2 = .ok (.putfield 38, 3) := by decide +kernel
theorem dX2_count_5 : decode cX2_count 5 = .ok (.iload_n 1, 1) := by decide +kernel
theorem dX2_count_6 : decode cX2_count 6 = .ok (.ifCond .ne 10, 3) := by decide +kernel
theorem dX2_count_9 : decode cX2_count 9 = .ok (.aload_n 0, 1) := by decide +kernel
theorem dX2_count_10 : decode cX2_count 10 = .ok (.getfield 7, 3) := by decide +kernel
theorem dX2_count_13 : decode cX2_count 13 = .ok (.goto 28, 3) := by decide +kernel
theorem dX2_count_16 : decode cX2_count 16 = .ok (.iload_n 1, 1) := by decide +kernel
theorem dX2_count_17 : decode cX2_count 17 = .ok (.iconst 1, 1) := by decide +kernel
theorem dX2_count_18 : decode cX2_count 18 = .ok (.if_icmp .ne 10, 3) := by decide +kernel
theorem dX2_count_21 : decode cX2_count 21 = .ok (.aload_n 0, 1) := by decide +kernel
theorem dX2_count_22 : decode cX2_count 22 = .ok (.getfield 101, 3) := by decide +kernel
theorem dX2_count_25 : decode cX2_count 25 = .ok (.goto 16, 3) := by decide +kernel
theorem dX2_count_28 : decode cX2_count 28 = .ok (.iload_n 1, 1) := by decide +kernel
theorem dX2_count_29 : decode cX2_count 29 = .ok (.iconst 2, 1) := by decide +kernel
theorem dX2_count_30 : decode cX2_count 30 = .ok (.if_icmp .ne 10, 3) := by decide +kernel
theorem dX2_count_33 : decode cX2_count 33 = .ok (.aload_n 0, 1) := by decide +kernel
theorem dX2_count_34 : decode cX2_count 34 = .ok (.getfield 120, 3) := by decide +kernel
theorem dX2_count_37 : decode cX2_count 37 = .ok (.goto 4, 3) := by decide +kernel
theorem dX2_count_40 : decode cX2_count 40 = .ok (.iconst (-1), 1) := by decide +kernel
theorem dX2_count_41 : decode cX2_count 41 = .ok (.ireturn, 1) := by decide +kernel
theorem dX2_trace_0 : decode cX2_trace 0 = .ok (.aload_n 0, 1) := by decide +kernel
theorem dX2_trace_1 : decode cX2_trace 1 = .ok (.iconst 0, 1) := by decide +kernel
theorem dX2_trace_2 : decode cX2_trace 2 = .ok (.putfield 38, 3) := by decide +kernel
theorem dX2_trace_5 : decode cX2_trace 5 = .ok (.aload_n 0, 1) := by decide +kernel
theorem dX2_trace_6 : decode cX2_trace 6 = .ok (.getfield 107, 3) := by decide +kernel
theorem dX2_trace_9 : decode cX2_trace 9 = .ok (.lreturn, 1) := by decide +kernel
theorem dJ6_signum_0f7a4_0 : decode cJ6_signum_0f7a4 0 = .ok (.iload_n 0, 1) := by decide +kernel
theorem dJ6_signum_0f7a4_1 : decode cJ6_signum_0f7a4 1 = .ok (.bipush 31, 2) := by decide +kernel
theorem dJ6_signum_0f7a4_3 : decode cJ6_signum_0f7a4 3 = .ok (.ishr, 1) := by decide +kernel
theorem dJ6_signum_0f7a4_4 : decode cJ6_signum_0f7a4 4 = .ok (.iload_n 0, 1) := by decide +kernel
theorem dJ6_signum_0f7a4_5 : decode cJ6_signum_0f7a4 5 = .ok (.ineg, 1) := by decide +kernel
theorem dJ6_signum_0f7a4_6 : decode cJ6_signum_0f7a4 6 = .ok (.bipush 31, 2) := by decide +kernel
theorem dJ6_signum_0f7a4_8 : decode cJ6_signum_0f7a4 8 = .ok (.iushr, 1) := by decide +kernel
theorem dJ6_signum_0f7a4_9 : decode cJ6_signum_0f7a4 9 = .ok (.ior, 1) := by decide +kernel
theorem dJ6_signum_0f7a4_10 : decode cJ6_signum_0f7a4 10 = .ok (.ireturn, 1) := by decide +kernel
theorem dJ9_abs_067f4_0 : decode cJ9_abs_067f4 0 = .ok (.lload_n 0, 1) := by decide +kernel
theorem dJ9_abs_067f4_1 : decode cJ9_abs_067f4 1 = .ok (.lconst 0, 1) := by decide +kernel
theorem dJ9_abs_067f4_2 : decode cJ9_abs_067f4 2 = .ok (.lcmp, 1) := by decide +kernel
theorem dJ9_abs_067f4_3 : decode cJ9_abs_067f4 3 = .ok (.ifCond .ge 8, 3) := by decide +kernel
theorem dJ9_abs_067f4_6 : decode cJ9_abs_067f4 6 = .ok (.lload_n 0, 1) := by decide +kernel
theorem dJ9_abs_067f4_7 : decode cJ9_abs_067f4 7 = .ok (.lneg, 1) := by decide +kernel
theorem dJ9_abs_067f4_8 : decode cJ9_abs_067f4 8 = .ok (.goto 4, 3) := by decide +kernel
theorem dJ9_abs_067f4_11 : decode cJ9_abs_067f4 11 = .ok (.lload_n 0, 1) := by decide +kernel
theorem dJ9_abs_067f4_12 : decode cJ9_abs_067f4 12 = .ok (.lreturn, 1) := by decide +kernel
theorem dJ9_max_7cf53_0 : decode cJ9_max_7cf53 0 = .ok (.iload_n 0, 1) := by decide +kernel
theorem dJ9_max_7cf53_1 : decode cJ9_max_7cf53 1 = .ok (.iload_n 1, 1) := by decide +kernel
theorem dJ9_max_7cf53_2 : decode cJ9_max_7cf53 2 = .ok (.if_icmp .lt 7, 3) := by decide +kernel
theorem dJ9_max_7cf53_5 : decode cJ9_max_7cf53 5 = .ok (.iload_n 0, 1) := by decide +kernel
theorem dJ9_max_7cf53_6 : decode cJ9_max_7cf53 6 = .ok (.goto 4, 3) := by decide +kernel
theorem dJ9_max_7cf53_9 : decode cJ9_max_7cf53 9 = .ok (.iload_n 1, 1) := by decide +kernel
theorem dJ9_max_7cf53_10 : decode cJ9_max_7cf53 10 = .ok (.ireturn, 1) := by decide +kernel
theorem dJ9_min_7cf53_0 : decode cJ9_min_7cf53 0 = .ok (.iload_n 0, 1) := by decide +kernel
theorem dJ9_min_7cf53_1 : decode cJ9_min_7cf53 1 = .ok (.iload_n 1, 1) := by decide +kernel
theorem dJ9_min_7cf53_2 : decode cJ9_min_7cf53 2 = .ok (.if_icmp .gt 7, 3) := by decide +kernel
theorem dJ9_min_7cf53_5 : decode cJ9_min_7cf53 5 = .ok (.iload_n 0, 1) := by decide +kernel
theorem dJ9_min_7cf53_6 : decode cJ9_min_7cf53 6 = .ok (.goto 4, 3) := by decide +kernel
theorem dJ9_min_7cf53_9 : decode cJ9_min_7cf53 9 = .ok (.iload_n 1, 1) := by decide +kernel
theorem dJ9_min_7cf53_10 : decode cJ9_min_7cf53 10 = .ok (.ireturn, 1) := by decide +kernel
