set_option maxRecDepth 20000 in
theorem ggX7_init_X2_init : GoodIn wsX7_init wsX2_init := goodIn_r _ [29, 30, 2, 3, 31, 32, 73, 74, 75, 76] (by decide +kernel) (by decide +kernel)
set_option maxRecDepth 20000 in
theorem gX7_init_X2_init_n17 : GoodIn wsX7_init (wsX2_init) := ggX7_init_X2_init
set_option maxRecDepth 20000 in
theorem ggX7_init_X4_init : GoodIn wsX7_init wsX4_init := goodIn_r _ [34, 35, 2, 3, 31, 36, 37, 38, 39, 77, 78, 79, 80, 81, 82] (by decide +kernel) (by decide +kernel)
set_option maxRecDepth 20000 in
theorem gX7_init_X4_init_n20 : GoodIn wsX7_init (wsX4_init) := ggX7_init_X4_init
set_option maxRecDepth 20000 in
theorem ggX7_init_X1_init : GoodIn wsX7_init wsX1_init := goodIn_r _ [41, 42, 2, 3, 31, 43, 44, 45, 9, 10, 46, 33, 34, 35, 36, 37, 38, 39, 83, 84, 85, 86, 87, 88, 89, 77, 78, 79, 80, 81, 82] (by decide +kernel) (by decide +kernel)
set_option maxRecDepth 20000 in
theorem gX7_init_X1_init_n27 : GoodIn wsX7_init (wsX1_init) := ggX7_init_X1_init
set_option maxRecDepth 20000 in
theorem ggX7_init_X6_init : GoodIn wsX7_init wsX6_init := goodIn_r _ [48, 49, 2, 3, 50, 9, 10, 51, 33, 34, 35, 31, 36, 37, 38, 39, 77, 78, 79, 80, 81, 82, 90, 91, 92, 93] (by decide +kernel) (by decide +kernel)
set_option maxRecDepth 20000 in
theorem gX7_init_X6_init_n34 : GoodIn wsX7_init (wsX6_init) := ggX7_init_X6_init
set_option maxRecDepth 20000 in
theorem ggX7_init_X3_init : GoodIn wsX7_init wsX3_init := goodIn_r _ [53, 54, 2, 3, 31, 55, 56, 57, 58, 94, 95, 96, 97, 98] (by decide +kernel) (by decide +kernel)
set_option maxRecDepth 20000 in
theorem gX7_init_X3_init_n41 : GoodIn wsX7_init (wsX3_init) := ggX7_init_X3_init
set_option maxRecDepth 20000 in
theorem ggX7_init_X0_init : GoodIn wsX7_init wsX0_init := goodIn_r _ [60, 61, 2, 3, 31, 62, 63, 99, 100, 101] (by decide +kernel) (by decide +kernel)
set_option maxRecDepth 20000 in
theorem gX7_init_X0_init_n48 : GoodIn wsX7_init (wsX0_init) := ggX7_init_X0_init
theorem dX7_init_0 : decode cX7_init 0 = .ok (.aload_n 0, 1) := by decide +kernel
theorem dX7_init_1 : decode cX7_init 1 = .ok (.invokespecial 3, 3) := by decide +kernel
theorem dX7_init_4 : decode cX7_init 4 = .ok (.aload_n 0, 1) := by decide +kernel
theorem dX7_init_5 : decode cX7_init 5 = .ok (.iconst 4, 1) := by decide +kernel
theorem dX7_init_6 : decode cX7_init 6 = .ok (.anewarray 11, 3) := by decide +kernel
theorem dX7_init_9 : decode cX7_init 9 = .ok (.putfield 13, 3) := by decide +kernel
theorem dX7_init_12 : decode cX7_init 12 = .ok (.iconst 0, 1) := by decide +kernel
theorem dX7_init_13 : decode cX7_init 13 = .ok (.istore_n 1, 1) := by decide +kernel
theorem dX7_init_14 : decode cX7_init 14 = .ok (.iload_n 1, 1) := by decide +kernel
theorem dX7_init_15 : decode cX7_init 15 = .ok (.iconst 4, 1) := by decide +kernel
theorem dX7_init_16 : decode cX7_init 16 = .ok (.if_icmp .ge 22, 3) := by decide +kernel
theorem dX7_init_19 : decode cX7_init 19 = .ok (.aload_n 0, 1) := by decide +kernel
theorem dX7_init_20 : decode cX7_init 20 = .ok (.getfield 13, 3) := by decide +kernel
theorem dX7_init_23 : decode cX7_init 23 = .ok (.iload_n 1, 1) := by decide +kernel
theorem dX7_init_24 : decode cX7_init 24 = .ok (.new 11, 3) := by decide +kernel
theorem dX7_init_27 : decode cX7_init 27 = .ok (.dup, 1) := by decide +kernel
theorem dX7_init_28 : decode cX7_init 28 = .ok (.invokespecial 17, 3) := by decide +kernel
theorem dX7_init_31 : decode cX7_init 31 = .ok (.aastore, 1) := by decide +kernel
theorem dX7_init_32 : decode cX7_init 32 = .ok (.iinc 1 1, 3) := by decide +kernel
theorem dX7_init_35 : decode cX7_init 35 = .ok (.goto (-21), 3) := by decide +kernel
theorem dX7_init_38 : decode cX7_init 38 = .ok (.aload_n 0, 1) := by decide +kernel
theorem dX7_init_39 : decode cX7_init 39 = .ok (.new 18, 3) := by decide +kernel
theorem dX7_init_42 : decode cX7_init 42 = .ok (.dup, 1) := by decide +kernel
theorem dX7_init_43 : decode cX7_init 43 = .ok (.invokespecial 20, 3) := by decide +kernel
theorem dX7_init_46 : decode cX7_init 46 = .ok (.putfield 21, 3) := by decide +kernel
theorem dX7_init_49 : decode cX7_init 49 = .ok (.aload_n 0, 1) := by decide +kernel
theorem dX7_init_50 : decode cX7_init 50 = .ok (.new 25, 3) := by decide +kernel
theorem dX7_init_53 : decode cX7_init 53 = .ok (.dup, 1) := by decide +kernel
theorem dX7_init_54 : decode cX7_init 54 = .ok (.invokespecial 27, 3) := by decide +kernel
theorem dX7_init_57 : decode cX7_init 57 = .ok (.putfield 28, 3) := by decide +kernel
theorem dX7_init_60 : decode cX7_init 60 = .ok (.aload_n 0, 1) := by decide +kernel
theorem dX7_init_61 : decode cX7_init 61 = .ok (.new 32, 3) := by decide +kernel
theorem dX7_init_64 : decode cX7_init 64 = .ok (.dup, 1) := by decide +kernel
theorem dX7_init_65 : decode cX7_init 65 = .ok (.invokespecial 34, 3) := by decide +kernel
theorem dX7_init_68 : decode cX7_init 68 = .ok (.putfield 35, 3) := by decide +kernel
theorem dX7_init_71 : decode cX7_init 71 = .ok (.aload_n 0, 1) := by decide +kernel
theorem dX7_init_72 : decode cX7_init 72 = .ok (.new 39, 3) := by decide +kernel
theorem dX7_init_75 : decode cX7_init 75 = .ok (.dup, 1) := by decide +kernel
theorem dX7_init_76 : decode cX7_init 76 = .ok (.invokespecial 41, 3) := by decide +kernel
theorem dX7_init_79 : decode cX7_init 79 = .ok (.putfield 42, 3) := by decide +kernel
theorem dX7_init_82 : decode cX7_init 82 = .ok (.aload_n 0, 1) := by decide +kernel
theorem dX7_init_83 : decode cX7_init 83 = .ok (.new 46, 3) := by decide +kernel
theorem dX7_init_86 : decode cX7_init 86 = .ok (.dup, 1) := by decide +kernel
theorem dX7_init_87 : decode cX7_init 87 = .ok (.invokespecial 48, 3) := by decide +kernel
theorem dX7_init_90 : decode cX7_init 90 = .ok (.putfield 49, 3) := by decide +kernel
theorem dX7_init_93 : decode cX7_init 93 = .ok (.return_, 1) := by decide +kernel
set_option maxRecDepth 20000 in
theorem ggX7_book_X7_isSheet : GoodIn wsX7_book wsX7_isSheet := goodIn_r _ [9] (by decide +kernel) (by decide +kernel)
set_option maxRecDepth 20000 in
theorem gX7_book_X7_isSheet : GoodIn wsX7_book (va_wsS RX7 57 yX7_isSheet wsX7_isSheet) := goodIn_app (goodIn_of _ (by decide +kernel)) ggX7_book_X7_isSheet
set_option maxRecDepth 20000 in
theorem ggX7_book_X7_isLane : GoodIn wsX7_book wsX7_isLane := goodIn_r _ [12] (by decide +kernel) (by decide +kernel)
set_option maxRecDepth 20000 in
theorem gX7_book_X7_isLane : GoodIn wsX7_book (va_wsS RX7 61 yX7_isLane wsX7_isLane) := goodIn_app (goodIn_of _ (by decide +kernel)) ggX7_book_X7_isLane
set_option maxRecDepth 20000 in
theorem ggX7_book_X2_faultAsLane : GoodIn wsX7_book wsX2_faultAsLane := goodIn_r _ [17, 18, 19, 20, 21, 22, 16, 23, 24, 87, 88, 89, 90] (by decide +kernel) (by decide +kernel)
set_option maxRecDepth 20000 in
theorem gX7_book_X2_faultAsLane : GoodIn wsX7_book (wsV RX7 64 RX2 yX2_faultAsLane wsX2_faultAsLane) := goodIn_app (goodIn_of _ (by decide +kernel)) ggX7_book_X2_faultAsLane
set_option maxRecDepth 20000 in
theorem ggX7_book_X7_faulted : GoodIn wsX7_book wsX7_faulted := goodIn_r _ [28, 1, 65, 66, 67, 68, 69, 70, 71, 72, 73] (by decide +kernel) (by decide +kernel)
set_option maxRecDepth 20000 in
theorem gX7_book_X7_faulted : GoodIn wsX7_book (wsV RX7 68 RX7 yX7_faulted wsX7_faulted) := goodIn_app (goodIn_of _ (by decide +kernel)) ggX7_book_X7_faulted
set_option maxRecDepth 20000 in
theorem ggX7_book_X5_firstFault : GoodIn wsX7_book wsX5_firstFault := goodIn_r _ [32, 33, 34, 31, 35, 36, 37, 38, 39, 40, 41, 87, 88, 89, 90] (by decide +kernel) (by decide +kernel)
set_option maxRecDepth 20000 in
theorem gX7_book_X5_firstFault : GoodIn wsX7_book (va_wsS RX7 72 yX5_firstFault wsX5_firstFault) := goodIn_app (goodIn_of _ (by decide +kernel)) ggX7_book_X5_firstFault
set_option maxRecDepth 20000 in
theorem ggX7_book_X4_fill : GoodIn wsX7_book wsX4_fill := goodIn_r _ [46, 47, 48, 49, 50, 51, 52, 40, 31, 41, 53, 54, 55, 56, 57, 58, 45, 59, 60, 61, 62, 63, 64, 81, 82, 83, 84, 85, 86, 87, 88, 89, 90] (by decide +kernel) (by decide +kernel)
set_option maxRecDepth 20000 in
theorem gX7_book_X4_fill : GoodIn wsX7_book (wsV RX7 78 RX4 yX4_fill wsX4_fill) := goodIn_app (goodIn_of _ (by decide +kernel)) ggX7_book_X4_fill
theorem dX7_book_0 : decode cX7_book 0 = .ok (.aload_n 0, 1) := by decide +kernel
theorem dX7_book_1 : decode cX7_book 1 = .ok (.iconst 0, 1) := by decide +kernel
theorem dX7_book_2 : decode cX7_book 2 = .ok (.putfield 53, 3) := by decide +kernel
theorem dX7_book_5 : decode cX7_book 5 = .ok (.iload_n 1, 1) := by decide +kernel
theorem dX7_book_6 : decode cX7_book 6 = .ok (.invokestatic 57, 3) := by decide +kernel
theorem dX7_book_9 : decode cX7_book 9 = .ok (.ifCond .ne 5, 3) := by decide +kernel
theorem dX7_book_12 : decode cX7_book 12 = .ok (.iconst (-1), 1) := by decide +kernel
theorem dX7_book_13 : decode cX7_book 13 = .ok (.ireturn, 1) := by decide +kernel
theorem dX7_book_14 : decode cX7_book 14 = .ok (.iload_n 2, 1) := by decide +kernel
theorem dX7_book_15 : decode cX7_book 15 = .ok (.invokestatic 61, 3) := by decide +kernel
theorem dX7_book_18 : decode cX7_book 18 = .ok (.ifCond .ne 6, 3) := by decide +kernel
theorem dX7_book_21 : decode cX7_book 21 = .ok (.bipush (-2), 2) := by decide +kernel
theorem dX7_book_23 : decode cX7_book 23 = .ok (.ireturn, 1) := by decide +kernel
theorem dX7_book_24 : decode cX7_book 24 = .ok (.aload_n 0, 1) := by decide +kernel
theorem dX7_book_25 : decode cX7_book 25 = .ok (.getfield 13, 3) := by decide +kernel
theorem dX7_book_28 : decode cX7_book 28 = .ok (.iload_n 1, 1) := by decide +kernel
theorem dX7_book_29 : decode cX7_book 29 = .ok (.aaload, 1) := by decide +kernel
theorem dX7_book_30 : decode cX7_book 30 = .ok (.astore 5, 2) := by decide +kernel
theorem dX7_book_32 : decode cX7_book 32 = .ok (.aload 5, 2) := by decide +kernel
theorem dX7_book_34 : decode cX7_book 34 = .ok (.iload_n 2, 1) := by decide +kernel
theorem dX7_book_35 : decode cX7_book 35 = .ok (.iload_n 3, 1) := by decide +kernel
theorem dX7_book_36 : decode cX7_book 36 = .ok (.iload 4, 2) := by decide +kernel
theorem dX7_book_38 : decode cX7_book 38 = .ok (.invokevirtual 64, 3) := by decide +kernel
theorem dX7_book_41 : decode cX7_book 41 = .ok (.istore 6, 2) := by decide +kernel
theorem dX7_book_43 : decode cX7_book 43 = .ok (.iload 6, 2) := by decide +kernel
theorem dX7_book_45 : decode cX7_book 45 = .ok (.ifCond .eq 10, 3) := by decide +kernel
theorem dX7_book_48 : decode cX7_book 48 = .ok (.aload_n 0, 1) := by decide +kernel
theorem dX7_book_49 : decode cX7_book 49 = .ok (.iload 6, 2) := by decide +kernel
theorem dX7_book_51 : decode cX7_book 51 = .ok (.invokevirtual 68, 3) := by decide +kernel
theorem dX7_book_54 : decode cX7_book 54 = .ok (.ireturn, 1) := by decide +kernel
theorem dX7_book_55 : decode cX7_book 55 = .ok (.aload 5, 2) := by decide +kernel
theorem dX7_book_57 : decode cX7_book 57 = .ok (.iload_n 3, 1) := by decide +kernel
theorem dX7_book_58 : decode cX7_book 58 = .ok (.iload 4, 2) := by decide +kernel
theorem dX7_book_60 : decode cX7_book 60 = .ok (.invokestatic 72, 3) := by decide +kernel
theorem dX7_book_63 : decode cX7_book 63 = .ok (.istore 7, 2) := by decide +kernel
theorem dX7_book_65 : decode cX7_book 65 = .ok (.iload 7, 2) := by decide +kernel
theorem dX7_book_67 : decode cX7_book 67 = .ok (.bipush (-9), 2) := by decide +kernel
theorem dX7_book_69 : decode cX7_book 69 = .ok (.if_icmp .eq 9, 3) := by decide +kernel
theorem dX7_book_72 : decode cX7_book 72 = .ok (.bipush (-100), 2) := by decide +kernel
theorem dX7_book_74 : decode cX7_book 74 = .ok (.iload 7, 2) := by decide +kernel
theorem dX7_book_76 : decode cX7_book 76 = .ok (.isub, 1) := by decide +kernel
theorem dX7_book_77 : decode cX7_book 77 = .ok (.ireturn, 1) := by decide +kernel
theorem dX7_book_78 : decode cX7_book 78 = .ok (.aload_n 0, 1) := by decide +kernel
theorem dX7_book_79 : decode cX7_book 79 = .ok (.getfield 21, 3) := by decide +kernel
theorem dX7_book_82 : decode cX7_book 82 = .ok (.aload 5, 2) := by decide +kernel
theorem dX7_book_84 : decode cX7_book 84 = .ok (.iload_n 3, 1) := by decide +kernel
theorem dX7_book_85 : decode cX7_book 85 = .ok (.iload 4, 2) := by decide +kernel
theorem dX7_book_87 : decode cX7_book 87 = .ok (.invokevirtual 78, 3) := by decide +kernel
theorem dX7_book_90 : decode cX7_book 90 = .ok (.aload_n 0, 1) := by decide +kernel
theorem dX7_book_91 : decode cX7_book 91 = .ok (.getfield 28, 3) := by decide +kernel
theorem dX7_book_94 : decode cX7_book 94 = .ok (.iconst 0, 1) := by decide +kernel
theorem dX7_book_95 : decode cX7_book 95 = .ok (.putfield 82, 3) := by decide +kernel
theorem dX7_book_98 : decode cX7_book 98 = .ok (.aload_n 0, 1) := by decide +kernel
theorem dX7_book_99 : decode cX7_book 99 = .ok (.iconst 0, 1) := by decide +kernel
theorem dX7_book_100 : decode cX7_book 100 = .ok (.putfield 85, 3) := by decide +kernel
theorem dX7_book_103 : decode cX7_book 103 = .ok (.aload_n 0, 1) := by decide +kernel
theorem dX7_book_104 : decode cX7_book 104 = .ok (.getfield 21, 3) := by decide +kernel
theorem dX7_book_107 : decode cX7_book 107 = .ok (.getfield 88, 3) := by decide +kernel
theorem dX7_book_110 : decode cX7_book 110 = .ok (.ireturn, 1) := by decide +kernel
set_option maxRecDepth 20000 in
theorem ggX7_ofSlip_X4_has : GoodIn wsX7_ofSlip wsX4_has := goodIn_r _ [6, 7, 40, 41, 42, 43, 44, 45] (by decide +kernel) (by decide +kernel)
set_option maxRecDepth 20000 in
theorem gX7_ofSlip_X4_has : GoodIn wsX7_ofSlip (wsV RX7 89 RX4 yX4_has wsX4_has) := goodIn_app (goodIn_of _ (by decide +kernel)) ggX7_ofSlip_X4_has
set_option maxRecDepth 20000 in
theorem ggX7_ofSlip_X4_leafOf : GoodIn wsX7_ofSlip wsX4_leafOf := goodIn_r _ [11, 12, 13, 14, 15, 5, 16, 7, 17, 18, 19, 20, 21, 22, 23, 24, 25, 26, 27, 40, 41, 42, 43, 44, 45] (by decide +kernel) (by decide +kernel)
set_option maxRecDepth 20000 in
theorem gX7_ofSlip_X4_leafOf : GoodIn wsX7_ofSlip (wsV RX7 105 RX4 yX4_leafOf wsX4_leafOf) := goodIn_app (goodIn_of _ (by decide +kernel)) ggX7_ofSlip_X4_leafOf
set_option maxRecDepth 20000 in
theorem ggX7_ofSlip_X4_looksOf : GoodIn wsX7_ofSlip wsX4_looksOf := goodIn_r _ [16, 7, 12, 17, 18, 19, 5, 20, 21, 40, 41, 42, 43, 44, 45] (by decide +kernel) (by decide +kernel)
set_option maxRecDepth 20000 in
theorem gX7_ofSlip_X4_looksOf : GoodIn wsX7_ofSlip (wsV RX7 108 RX4 yX4_looksOf wsX4_looksOf) := goodIn_app (goodIn_of _ (by decide +kernel)) ggX7_ofSlip_X4_looksOf
set_option maxRecDepth 20000 in
theorem ggX7_ofSlip_X4_isWet : GoodIn wsX7_ofSlip wsX4_isWet := goodIn_r _ [20, 21, 40, 41, 42, 43, 44, 45] (by decide +kernel) (by decide +kernel)
set_option maxRecDepth 20000 in
theorem gX7_ofSlip_X4_isWet : GoodIn wsX7_ofSlip (wsV RX7 111 RX4 yX4_isWet wsX4_isWet) := goodIn_app (goodIn_of _ (by decide +kernel)) ggX7_ofSlip_X4_isWet
set_option maxRecDepth 20000 in
theorem ggX7_ofSlip_X4_pointsTo : GoodIn wsX7_ofSlip wsX4_pointsTo := goodIn_r _ [25, 26, 27, 40, 41, 42, 43, 44, 45] (by decide +kernel) (by decide +kernel)
set_option maxRecDepth 20000 in
theorem gX7_ofSlip_X4_pointsTo : GoodIn wsX7_ofSlip (wsV RX7 114 RX4 yX4_pointsTo wsX4_pointsTo) := goodIn_app (goodIn_of _ (by decide +kernel)) ggX7_ofSlip_X4_pointsTo
theorem dX7_ofSlip_0 : decode cX7_ofSlip 0 = .ok (.aload_n 0, 1) := by decide +kernel
theorem dX7_ofSlip_1 : decode cX7_ofSlip 1 = .ok (.getfield 21, 3) := by decide +kernel
theorem dX7_ofSlip_4 : decode cX7_ofSlip 4 = .ok (.iload_n 1, 1) := by decide +kernel
theorem dX7_ofSlip_5 : decode cX7_ofSlip 5 = .ok (.invokevirtual 89, 3) := by decide +kernel
theorem dX7_ofSlip_8 : decode cX7_ofSlip 8 = .ok (.ifCond .ne 5, 3) := by decide +kernel
theorem dX7_ofSlip_11 : decode cX7_ofSlip 11 = .ok (.iconst (-1), 1) := by decide +kernel
theorem dX7_ofSlip_12 : decode cX7_ofSlip 12 = .ok (.ireturn, 1) := by decide +kernel
theorem dX7_ofSlip_13 : decode cX7_ofSlip 13 = .ok (.iload_n 2, 1) := by decide +kernel
theorem dX7_ofSlip_14 : decode cX7_ofSlip 14 = .ok (.tableswitch 130 0 7 #[46, 56, 66, 76, 86, 95, 104, 121], 46) := by decide +kernel
theorem dX7_ofSlip_60 : decode cX7_ofSlip 60 = .ok (.aload_n 0, 1) := by decide +kernel
theorem dX7_ofSlip_61 : decode cX7_ofSlip 61 = .ok (.getfield 21, 3) := by decide +kernel
theorem dX7_ofSlip_64 : decode cX7_ofSlip 64 = .ok (.getfield 92, 3) := by decide +kernel
theorem dX7_ofSlip_67 : decode cX7_ofSlip 67 = .ok (.iload_n 1, 1) := by decide +kernel
theorem dX7_ofSlip_68 : decode cX7_ofSlip 68 = .ok (.iaload, 1) := by decide +kernel
theorem dX7_ofSlip_69 : decode cX7_ofSlip 69 = .ok (.ireturn, 1) := by decide +kernel
theorem dX7_ofSlip_70 : decode cX7_ofSlip 70 = .ok (.aload_n 0, 1) := by decide +kernel
theorem dX7_ofSlip_71 : decode cX7_ofSlip 71 = .ok (.getfield 21, 3) := by decide +kernel
theorem dX7_ofSlip_74 : decode cX7_ofSlip 74 = .ok (.getfield 96, 3) := by decide +kernel
theorem dX7_ofSlip_77 : decode cX7_ofSlip 77 = .ok (.iload_n 1, 1) := by decide +kernel
theorem dX7_ofSlip_78 : decode cX7_ofSlip 78 = .ok (.iaload, 1) := by decide +kernel
theorem dX7_ofSlip_79 : decode cX7_ofSlip 79 = .ok (.ireturn, 1) := by decide +kernel
theorem dX7_ofSlip_80 : decode cX7_ofSlip 80 = .ok (.aload_n 0, 1) := by decide +kernel
theorem dX7_ofSlip_81 : decode cX7_ofSlip 81 = .ok (.getfield 21, 3) := by decide +kernel
theorem dX7_ofSlip_84 : decode cX7_ofSlip 84 = .ok (.getfield 99, 3) := by decide +kernel
theorem dX7_ofSlip_87 : decode cX7_ofSlip 87 = .ok (.iload_n 1, 1) := by decide +kernel
theorem dX7_ofSlip_88 : decode cX7_ofSlip 88 = .ok (.iaload, 1) := by decide +kernel
theorem dX7_ofSlip_89 : decode cX7_ofSlip 89 = .ok (.ireturn, 1) := by decide +kernel
theorem dX7_ofSlip_90 : decode cX7_ofSlip 90 = .ok (.aload_n 0, 1) := by decide +kernel
theorem dX7_ofSlip_91 : decode cX7_ofSlip 91 = .ok (.getfield 21, 3) := by decide +kernel
theorem dX7_ofSlip_94 : decode cX7_ofSlip 94 = .ok (.getfield 102, 3) := by decide +kernel
theorem dX7_ofSlip_97 : decode cX7_ofSlip 97 = .ok (.iload_n 1, 1) := by decide +kernel
theorem dX7_ofSlip_98 : decode cX7_ofSlip 98 = .ok (.iaload, 1) := by decide +kernel
theorem dX7_ofSlip_99 : decode cX7_ofSlip 99 = .ok (.ireturn, 1) := by decide +kernel
theorem dX7_ofSlip_100 : decode cX7_ofSlip 100 = .ok (.aload_n 0, 1) := by decide +kernel
theorem dX7_ofSlip_101 : decode cX7_ofSlip 101 = .ok (.getfield 21, 3) := by decide +kernel
theorem dX7_ofSlip_104 : decode cX7_ofSlip 104 = .ok (.iload_n 1, 1) := by decide +kernel
theorem dX7_ofSlip_105 : decode cX7_ofSlip 105 = .ok (.invokevirtual 105, 3) := by decide +kernel
theorem dX7_ofSlip_108 : decode cX7_ofSlip 108 = .ok (.ireturn, 1) := by decide +kernel
theorem dX7_ofSlip_109 : decode cX7_ofSlip 109 = .ok (.aload_n 0, 1) := by decide +kernel
theorem dX7_ofSlip_110 : decode cX7_ofSlip 110 = .ok (.getfield 21, 3) := by decide +kernel
theorem dX7_ofSlip_113 : decode cX7_ofSlip 113 = .ok (.iload_n 1, 1) := by decide +kernel
theorem dX7_ofSlip_114 : decode cX7_ofSlip 114 = .ok (.invokevirtual 108, 3) := by decide +kernel
theorem dX7_ofSlip_117 : decode cX7_ofSlip 117 = .ok (.ireturn, 1) := by decide +kernel
theorem dX7_ofSlip_118 : decode cX7_ofSlip 118 = .ok (.aload_n 0, 1) := by decide +kernel
theorem dX7_ofSlip_119 : decode cX7_ofSlip 119 = .ok (.getfield 21, 3) := by decide +kernel
theorem dX7_ofSlip_122 : decode cX7_ofSlip 122 = .ok (.iload_n 1, 1) := by decide +kernel
theorem dX7_ofSlip_123 : decode cX7_ofSlip 123 = .ok (.invokevirtual 111, 3) := by decide +kernel
theorem dX7_ofSlip_126 : decode cX7_ofSlip 126 = .ok (.ifCond .eq 7, 3) := by decide +kernel
theorem dX7_ofSlip_129 : decode cX7_ofSlip 129 = .ok (.iconst 1, 1) := by decide +kernel
theorem dX7_ofSlip_130 : decode cX7_ofSlip 130 = .ok (.goto 4, 3) := by decide +kernel
theorem dX7_ofSlip_133 : decode cX7_ofSlip 133 = .ok (.iconst 0, 1) := by decide +kernel
theorem dX7_ofSlip_134 : decode cX7_ofSlip 134 = .ok (.ireturn, 1) := by decide +kernel
theorem dX7_ofSlip_135 : decode cX7_ofSlip 135 = .ok (.aload_n 0, 1) := by decide +kernel
theorem dX7_ofSlip_136 : decode cX7_ofSlip 136 = .ok (.getfield 21, 3) := by decide +kernel
theorem dX7_ofSlip_139 : decode cX7_ofSlip 139 = .ok (.iload_n 1, 1) := by decide +kernel
theorem dX7_ofSlip_140 : decode cX7_ofSlip 140 = .ok (.invokevirtual 114, 3) := by decide +kernel
theorem dX7_ofSlip_143 : decode cX7_ofSlip 143 = .ok (.ireturn, 1) := by decide +kernel
theorem dX7_ofSlip_144 : decode cX7_ofSlip 144 = .ok (.bipush (-2), 2) := by decide +kernel
theorem dX7_ofSlip_146 : decode cX7_ofSlip 146 = .ok (.ireturn, 1) := by decide +kernel
set_option maxRecDepth 20000 in
theorem ggX7_want_X4_has : GoodIn wsX7_want wsX4_has := goodIn_r _ [6, 7, 17, 18, 19, 20, 21, 22] (by decide +kernel) (by decide +kernel)
set_option maxRecDepth 20000 in
theorem gX7_want_X4_has : GoodIn wsX7_want (wsV RX7 89 RX4 yX4_has wsX4_has) := goodIn_app (goodIn_of _ (by decide +kernel)) ggX7_want_X4_has
theorem dX7_want_0 : decode cX7_want 0 = .ok (.aload_n 0, 1) := by decide +kernel
theorem dX7_want_1 : decode cX7_want 1 = .ok (.getfield 21, 3) := by decide +kernel
theorem dX7_want_4 : decode cX7_want 4 = .ok (.iload_n 1, 1) := by decide +kernel
theorem dX7_want_5 : decode cX7_want 5 = .ok (.invokevirtual 89, 3) := by decide +kernel
theorem dX7_want_8 : decode cX7_want 8 = .ok (.ifCond .ne 5, 3) := by decide +kernel
theorem dX7_want_11 : decode cX7_want 11 = .ok (.iconst (-1), 1) := by decide +kernel
theorem dX7_want_12 : decode cX7_want 12 = .ok (.ireturn, 1) := by decide +kernel
theorem dX7_want_13 : decode cX7_want 13 = .ok (.iload_n 2, 1) := by decide +kernel
theorem dX7_want_14 : decode cX7_want 14 = .ok (.ifCond .lt 9, 3) := by decide +kernel
theorem dX7_want_17 : decode cX7_want 17 = .ok (.iload_n 2, 1) := by decide +kernel
theorem dX7_want_18 : decode cX7_want 18 = .ok (.bipush 9, 2) := by decide +kernel
theorem dX7_want_20 : decode cX7_want 20 = .ok (.if_icmp .le 6, 3) := by decide +kernel
theorem dX7_want_23 : decode cX7_want 23 = .ok (.bipush (-2), 2) := by decide +kernel
theorem dX7_want_25 : decode cX7_want 25 = .ok (.ireturn, 1) := by decide +kernel
theorem dX7_want_26 : decode cX7_want 26 = .ok (.aload_n 0, 1) := by decide +kernel
theorem dX7_want_27 : decode cX7_want 27 = .ok (.getfield 21, 3) := by decide +kernel
theorem dX7_want_30 : decode cX7_want 30 = .ok (.getfield 99, 3) := by decide +kernel
theorem dX7_want_33 : decode cX7_want 33 = .ok (.iload_n 1, 1) := by decide +kernel
theorem dX7_want_34 : decode cX7_want 34 = .ok (.iaload, 1) := by decide +kernel
theorem dX7_want_35 : decode cX7_want 35 = .ok (.istore_n 3, 1) := by decide +kernel
theorem dX7_want_36 : decode cX7_want 36 = .ok (.aload_n 0, 1) := by decide +kernel
theorem dX7_want_37 : decode cX7_want 37 = .ok (.getfield 21, 3) := by decide +kernel
theorem dX7_want_40 : decode cX7_want 40 = .ok (.getfield 99, 3) := by decide +kernel
theorem dX7_want_43 : decode cX7_want 43 = .ok (.iload_n 1, 1) := by decide +kernel
theorem dX7_want_44 : decode cX7_want 44 = .ok (.iload_n 2, 1) := by decide +kernel
theorem dX7_want_45 : decode cX7_want 45 = .ok (.iastore, 1) := by decide +kernel
theorem dX7_want_46 : decode cX7_want 46 = .ok (.iload_n 3, 1) := by decide +kernel
theorem dX7_want_47 : decode cX7_want 47 = .ok (.ireturn, 1) := by decide +kernel
set_option maxRecDepth 20000 in
theorem ggX7_see_X4_has : GoodIn wsX7_see wsX4_has := goodIn_r _ [6, 7, 17, 18, 19, 20, 21, 22] (by decide +kernel) (by decide +kernel)
set_option maxRecDepth 20000 in
theorem gX7_see_X4_has : GoodIn wsX7_see (wsV RX7 89 RX4 yX4_has wsX4_has) := goodIn_app (goodIn_of _ (by decide +kernel)) ggX7_see_X4_has
theorem dX7_see_0 : decode cX7_see 0 = .ok (.aload_n 0, 1) := by decide +kernel
theorem dX7_see_1 : decode cX7_see 1 = .ok (.getfield 21, 3) := by decide +kernel
theorem dX7_see_4 : decode cX7_see 4 = .ok (.iload_n 1, 1) := by decide +kernel
theorem dX7_see_5 : decode cX7_see 5 = .ok (.invokevirtual 89, 3) := by decide +kernel
theorem dX7_see_8 : decode cX7_see 8 = .ok (.ifCond .ne 5, 3) := by decide +kernel
theorem dX7_see_11 : decode cX7_see 11 = .ok (.iconst (-1), 1) := by decide +kernel
theorem dX7_see_12 : decode cX7_see 12 = .ok (.ireturn, 1) := by decide +kernel
theorem dX7_see_13 : decode cX7_see 13 = .ok (.iload_n 2, 1) := by decide +kernel
theorem dX7_see_14 : decode cX7_see 14 = .ok (.bipush (-9), 2) := by decide +kernel
theorem dX7_see_16 : decode cX7_see 16 = .ok (.if_icmp .eq 16, 3) := by decide +kernel
theorem dX7_see_19 : decode cX7_see 19 = .ok (.aload_n 0, 1) := by decide +kernel
theorem dX7_see_20 : decode cX7_see 20 = .ok (.getfield 21, 3) := by decide +kernel
theorem dX7_see_23 : decode cX7_see 23 = .ok (.iload_n 2, 1) := by decide +kernel
theorem dX7_see_24 : decode cX7_see 24 = .ok (.invokevirtual 89, 3) := by decide +kernel
theorem dX7_see_27 : decode cX7_see 27 = .ok (.ifCond .ne 5, 3) := by decide +kernel
theorem dX7_see_30 : decode cX7_see 30 = .ok (.iconst (-1), 1) := by decide +kernel
theorem dX7_see_31 : decode cX7_see 31 = .ok (.ireturn, 1) := by decide +kernel
theorem dX7_see_32 : decode cX7_see 32 = .ok (.aload_n 0, 1) := by decide +kernel
theorem dX7_see_33 : decode cX7_see 33 = .ok (.getfield 21, 3) := by decide +kernel
theorem dX7_see_36 : decode cX7_see 36 = .ok (.getfield 102, 3) := by decide +kernel
theorem dX7_see_39 : decode cX7_see 39 = .ok (.iload_n 1, 1) := by decide +kernel
theorem dX7_see_40 : decode cX7_see 40 = .ok (.iaload, 1) := by decide +kernel
theorem dX7_see_41 : decode cX7_see 41 = .ok (.istore_n 3, 1) := by decide +kernel
theorem dX7_see_42 : decode cX7_see 42 = .ok (.aload_n 0, 1) := by decide +kernel
theorem dX7_see_43 : decode cX7_see 43 = .ok (.getfield 21, 3) := by decide +kernel
theorem dX7_see_46 : decode cX7_see 46 = .ok (.getfield 102, 3) := by decide +kernel
theorem dX7_see_49 : decode cX7_see 49 = .ok (.iload_n 1, 1) := by decide +kernel
theorem dX7_see_50 : decode cX7_see 50 = .ok (.iload_n 2, 1) := by decide +kernel
theorem dX7_see_51 : decode cX7_see 51 = .ok (.iastore, 1) := by decide +kernel
theorem dX7_see_52 : decode cX7_see 52 = .ok (.iload_n 3, 1) := by decide +kernel
theorem dX7_see_53 : decode cX7_see 53 = .ok (.ireturn, 1) := by decide +kernel
set_option maxRecDepth 20000 in
theorem ggX7_ask_X4_has : GoodIn wsX7_ask wsX4_has := goodIn_r _ [7, 8, 38, 39, 40, 41, 42, 43] (by decide +kernel) (by decide +kernel)
set_option maxRecDepth 20000 in
theorem gX7_ask_X4_has : GoodIn wsX7_ask (wsV RX7 89 RX4 yX4_has wsX4_has) := goodIn_app (goodIn_of _ (by decide +kernel)) ggX7_ask_X4_has
set_option maxRecDepth 20000 in
theorem ggX7_ask_X4_leafOf : GoodIn wsX7_ask wsX4_leafOf := goodIn_r _ [12, 13, 14, 15, 16, 6, 17, 8, 18, 19, 20, 21, 22, 23, 24, 25, 26, 27, 28, 38, 39, 40, 41, 42, 43] (by decide +kernel) (by decide +kernel)
set_option maxRecDepth 20000 in
theorem gX7_ask_X4_leafOf : GoodIn wsX7_ask (wsV RX7 105 RX4 yX4_leafOf wsX4_leafOf) := goodIn_app (goodIn_of _ (by decide +kernel)) ggX7_ask_X4_leafOf
theorem dX7_ask_0 : decode cX7_ask 0 = .ok (.aload_n 0, 1) := by decide +kernel
theorem dX7_ask_1 : decode cX7_ask 1 = .ok (.getfield 21, 3) := by decide +kernel
theorem dX7_ask_4 : decode cX7_ask 4 = .ok (.iload_n 1, 1) := by decide +kernel
theorem dX7_ask_5 : decode cX7_ask 5 = .ok (.invokevirtual 89, 3) := by decide +kernel
theorem dX7_ask_8 : decode cX7_ask 8 = .ok (.ifCond .ne 5, 3) := by decide +kernel
theorem dX7_ask_11 : decode cX7_ask 11 = .ok (.iconst (-1), 1) := by decide +kernel
theorem dX7_ask_12 : decode cX7_ask 12 = .ok (.ireturn, 1) := by decide +kernel
theorem dX7_ask_13 : decode cX7_ask 13 = .ok (.aload_n 0, 1) := by decide +kernel
theorem dX7_ask_14 : decode cX7_ask 14 = .ok (.dup, 1) := by decide +kernel
theorem dX7_ask_15 : decode cX7_ask 15 = .ok (.getfield 85, 3) := by decide +kernel
theorem dX7_ask_18 : decode cX7_ask 18 = .ok (.iconst 1, 1) := by decide +kernel
theorem dX7_ask_19 : decode cX7_ask 19 = .ok (.iadd, 1) := by decide +kernel
theorem dX7_ask_20 : decode cX7_ask 20 = .ok (.putfield 85, 3) := by decide +kernel
theorem dX7_ask_23 : decode cX7_ask 23 = .ok (.aload_n 0, 1) := by decide +kernel
theorem dX7_ask_24 : decode cX7_ask 24 = .ok (.getfield 21, 3) := by decide +kernel
theorem dX7_ask_27 : decode cX7_ask 27 = .ok (.iload_n 1, 1) := by decide +kernel
theorem dX7_ask_28 : decode cX7_ask 28 = .ok (.invokevirtual 105, 3) := by decide +kernel
theorem dX7_ask_31 : decode cX7_ask 31 = .ok (.ireturn, 1) := by decide +kernel
set_option maxRecDepth 20000 in
theorem ggX7_wet_X4_has : GoodIn wsX7_wet wsX4_has := goodIn_r _ [6, 7, 37, 38, 39, 40, 41, 42] (by decide +kernel) (by decide +kernel)
set_option maxRecDepth 20000 in
theorem gX7_wet_X4_has : GoodIn wsX7_wet (wsV RX7 89 RX4 yX4_has wsX4_has) := goodIn_app (goodIn_of _ (by decide +kernel)) ggX7_wet_X4_has
set_option maxRecDepth 20000 in
theorem ggX7_wet_X4_soak : GoodIn wsX7_wet wsX4_soak := goodIn_r _ [11, 12, 13, 14, 15, 5, 16, 37, 38, 39, 40, 41, 42] (by decide +kernel) (by decide +kernel)
set_option maxRecDepth 20000 in
theorem gX7_wet_X4_soak : GoodIn wsX7_wet (wsV RX7 117 RX4 yX4_soak wsX4_soak) := goodIn_app (goodIn_of _ (by decide +kernel)) ggX7_wet_X4_soak
set_option maxRecDepth 20000 in
theorem ggX7_wet_X4_howManyWet : GoodIn wsX7_wet wsX4_howManyWet := goodIn_r _ [20, 12, 21, 22, 23, 24, 25, 26, 27, 37, 38, 39, 40, 41, 42] (by decide +kernel) (by decide +kernel)
set_option maxRecDepth 20000 in
theorem gX7_wet_X4_howManyWet : GoodIn wsX7_wet (wsV RX7 120 RX4 yX4_howManyWet wsX4_howManyWet) := goodIn_app (goodIn_of _ (by decide +kernel)) ggX7_wet_X4_howManyWet
theorem dX7_wet_0 : decode cX7_wet 0 = .ok (.aload_n 0, 1) := by decide +kernel
theorem dX7_wet_1 : decode cX7_wet 1 = .ok (.getfield 21, 3) := by decide +kernel
theorem dX7_wet_4 : decode cX7_wet 4 = .ok (.iload_n 1, 1) := by decide +kernel
theorem dX7_wet_5 : decode cX7_wet 5 = .ok (.invokevirtual 89, 3) := by decide +kernel
theorem dX7_wet_8 : decode cX7_wet 8 = .ok (.ifCond .ne 5, 3) := by decide +kernel
theorem dX7_wet_11 : decode cX7_wet 11 = .ok (.iconst (-1), 1) := by decide +kernel
theorem dX7_wet_12 : decode cX7_wet 12 = .ok (.ireturn, 1) := by decide +kernel
theorem dX7_wet_13 : decode cX7_wet 13 = .ok (.aload_n 0, 1) := by decide +kernel
theorem dX7_wet_14 : decode cX7_wet 14 = .ok (.getfield 21, 3) := by decide +kernel
theorem dX7_wet_17 : decode cX7_wet 17 = .ok (.iload_n 1, 1) := by decide +kernel
theorem dX7_wet_18 : decode cX7_wet 18 = .ok (.invokevirtual 117, 3) := by decide +kernel
theorem dX7_wet_21 : decode cX7_wet 21 = .ok (.ifCond .ne 6, 3) := by decide +kernel
theorem dX7_wet_24 : decode cX7_wet 24 = .ok (.bipush (-3), 2) := by decide +kernel
theorem dX7_wet_26 : decode cX7_wet 26 = .ok (.ireturn, 1) := by decide +kernel
theorem dX7_wet_27 : decode cX7_wet 27 = .ok (.aload_n 0, 1) := by decide +kernel
theorem dX7_wet_28 : decode cX7_wet 28 = .ok (.getfield 21, 3) := by decide +kernel
theorem dX7_wet_31 : decode cX7_wet 31 = .ok (.invokevirtual 120, 3) := by decide +kernel
theorem dX7_wet_34 : decode cX7_wet 34 = .ok (.ireturn, 1) := by decide +kernel
set_option maxRecDepth 20000 in
theorem ggX7_dry_X4_has : GoodIn wsX7_dry wsX4_has := goodIn_r _ [6, 7, 37, 38, 39, 40, 41, 42] (by decide +kernel) (by decide +kernel)
set_option maxRecDepth 20000 in
theorem gX7_dry_X4_has : GoodIn wsX7_dry (wsV RX7 89 RX4 yX4_has wsX4_has) := goodIn_app (goodIn_of _ (by decide +kernel)) ggX7_dry_X4_has
set_option maxRecDepth 20000 in
theorem ggX7_dry_X4_air : GoodIn wsX7_dry wsX4_air := goodIn_r _ [11, 12, 13, 14, 15, 5, 16, 37, 38, 39, 40, 41, 42] (by decide +kernel) (by decide +kernel)
set_option maxRecDepth 20000 in
theorem gX7_dry_X4_air : GoodIn wsX7_dry (wsV RX7 124 RX4 yX4_air wsX4_air) := goodIn_app (goodIn_of _ (by decide +kernel)) ggX7_dry_X4_air
set_option maxRecDepth 20000 in
theorem ggX7_dry_X4_howManyWet : GoodIn wsX7_dry wsX4_howManyWet := goodIn_r _ [20, 12, 21, 22, 23, 24, 25, 26, 27, 37, 38, 39, 40, 41, 42] (by decide +kernel) (by decide +kernel)
set_option maxRecDepth 20000 in
theorem gX7_dry_X4_howManyWet : GoodIn wsX7_dry (wsV RX7 120 RX4 yX4_howManyWet wsX4_howManyWet) := goodIn_app (goodIn_of _ (by decide +kernel)) ggX7_dry_X4_howManyWet
theorem dX7_dry_0 : decode cX7_dry 0 = .ok (.aload_n 0, 1) := by decide +kernel
theorem dX7_dry_1 : decode cX7_dry 1 = .ok (.getfield 21, 3) := by decide +kernel
theorem dX7_dry_4 : decode cX7_dry 4 = .ok (.iload_n 1, 1) := by decide +kernel
theorem dX7_dry_5 : decode cX7_dry 5 = .ok (.invokevirtual 89, 3) := by decide +kernel
theorem dX7_dry_8 : decode cX7_dry 8 = .ok (.ifCond .ne 5, 3) := by decide +kernel
theorem dX7_dry_11 : decode cX7_dry 11 = .ok (.iconst (-1), 1) := by decide +kernel
theorem dX7_dry_12 : decode cX7_dry 12 = .ok (.ireturn, 1) := by decide +kernel
theorem dX7_dry_13 : decode cX7_dry 13 = .ok (.aload_n 0, 1) := by decide +kernel
theorem dX7_dry_14 : decode cX7_dry 14 = .ok (.getfield 21, 3) := by decide +kernel
theorem dX7_dry_17 : decode cX7_dry 17 = .ok (.iload_n 1, 1) := by decide +kernel
theorem dX7_dry_18 : decode cX7_dry 18 = .ok (.invokevirtual 124, 3) := by decide +kernel
theorem dX7_dry_21 : decode cX7_dry 21 = .ok (.ifCond .ne 6, 3) := by decide +kernel
theorem dX7_dry_24 : decode cX7_dry 24 = .ok (.bipush (-3), 2) := by decide +kernel
theorem dX7_dry_26 : decode cX7_dry 26 = .ok (.ireturn, 1) := by decide +kernel
theorem dX7_dry_27 : decode cX7_dry 27 = .ok (.aload_n 0, 1) := by decide +kernel
theorem dX7_dry_28 : decode cX7_dry 28 = .ok (.getfield 21, 3) := by decide +kernel
theorem dX7_dry_31 : decode cX7_dry 31 = .ok (.invokevirtual 120, 3) := by decide +kernel
theorem dX7_dry_34 : decode cX7_dry 34 = .ok (.ireturn, 1) := by decide +kernel
set_option maxRecDepth 20000 in
theorem ggX7_leads_X7_isLeaf : GoodIn wsX7_leads wsX7_isLeaf := goodIn_r _ [5] (by decide +kernel) (by decide +kernel)
set_option maxRecDepth 20000 in
theorem gX7_leads_X7_isLeaf : GoodIn wsX7_leads (va_wsS RX7 127 yX7_isLeaf wsX7_isLeaf) := goodIn_app (goodIn_of _ (by decide +kernel)) ggX7_leads_X7_isLeaf
set_option maxRecDepth 20000 in
theorem ggX7_leads_X4_leafOf : GoodIn wsX7_leads wsX4_leafOf := goodIn_r _ [10, 11, 12, 13, 14, 9, 15, 16, 17, 18, 19, 20, 21, 22, 23, 24, 25, 26, 27, 37, 38, 39, 40, 41, 42] (by decide +kernel) (by decide +kernel)
set_option maxRecDepth 20000 in
theorem gX7_leads_X4_leafOf : GoodIn wsX7_leads (wsV RX7 105 RX4 yX4_leafOf wsX4_leafOf) := goodIn_app (goodIn_of _ (by decide +kernel)) ggX7_leads_X4_leafOf
theorem dX7_leads_0 : decode cX7_leads 0 = .ok (.iload_n 1, 1) := by decide +kernel
theorem dX7_leads_1 : decode cX7_leads 1 = .ok (.invokestatic 127, 3) := by decide +kernel
theorem dX7_leads_4 : decode cX7_leads 4 = .ok (.ifCond .ne 6, 3) := by decide +kernel
theorem dX7_leads_7 : decode cX7_leads 7 = .ok (.bipush (-2), 2) := by decide +kernel
theorem dX7_leads_9 : decode cX7_leads 9 = .ok (.ireturn, 1) := by decide +kernel
theorem dX7_leads_10 : decode cX7_leads 10 = .ok (.aload_n 0, 1) := by decide +kernel
theorem dX7_leads_11 : decode cX7_leads 11 = .ok (.getfield 21, 3) := by decide +kernel
theorem dX7_leads_14 : decode cX7_leads 14 = .ok (.getfield 88, 3) := by decide +kernel
theorem dX7_leads_17 : decode cX7_leads 17 = .ok (.ifCond .ne 6, 3) := by decide +kernel
theorem dX7_leads_20 : decode cX7_leads 20 = .ok (.bipush (-3), 2) := by decide +kernel
theorem dX7_leads_22 : decode cX7_leads 22 = .ok (.ireturn, 1) := by decide +kernel
theorem dX7_leads_23 : decode cX7_leads 23 = .ok (.iconst 0, 1) := by decide +kernel
theorem dX7_leads_24 : decode cX7_leads 24 = .ok (.istore_n 2, 1) := by decide +kernel
theorem dX7_leads_25 : decode cX7_leads 25 = .ok (.iconst 0, 1) := by decide +kernel
theorem dX7_leads_26 : decode cX7_leads 26 = .ok (.istore_n 3, 1) := by decide +kernel
theorem dX7_leads_27 : decode cX7_leads 27 = .ok (.iload_n 3, 1) := by decide +kernel
theorem dX7_leads_28 : decode cX7_leads 28 = .ok (.aload_n 0, 1) := by decide +kernel
theorem dX7_leads_29 : decode cX7_leads 29 = .ok (.getfield 21, 3) := by decide +kernel
theorem dX7_leads_32 : decode cX7_leads 32 = .ok (.getfield 88, 3) := by decide +kernel
theorem dX7_leads_35 : decode cX7_leads 35 = .ok (.if_icmp .ge 27, 3) := by decide +kernel
theorem dX7_leads_38 : decode cX7_leads 38 = .ok (.aload_n 0, 1) := by decide +kernel
theorem dX7_leads_39 : decode cX7_leads 39 = .ok (.getfield 21, 3) := by decide +kernel
theorem dX7_leads_42 : decode cX7_leads 42 = .ok (.iload_n 3, 1) := by decide +kernel
theorem dX7_leads_43 : decode cX7_leads 43 = .ok (.invokevirtual 105, 3) := by decide +kernel
theorem dX7_leads_46 : decode cX7_leads 46 = .ok (.iload_n 1, 1) := by decide +kernel
theorem dX7_leads_47 : decode cX7_leads 47 = .ok (.if_icmp .ne 9, 3) := by decide +kernel
theorem dX7_leads_50 : decode cX7_leads 50 = .ok (.iload_n 2, 1) := by decide +kernel
theorem dX7_leads_51 : decode cX7_leads 51 = .ok (.iconst 1, 1) := by decide +kernel
theorem dX7_leads_52 : decode cX7_leads 52 = .ok (.iload_n 3, 1) := by decide +kernel
theorem dX7_leads_53 : decode cX7_leads 53 = .ok (.ishl, 1) := by decide +kernel
theorem dX7_leads_54 : decode cX7_leads 54 = .ok (.ior, 1) := by decide +kernel
theorem dX7_leads_55 : decode cX7_leads 55 = .ok (.istore_n 2, 1) := by decide +kernel
theorem dX7_leads_56 : decode cX7_leads 56 = .ok (.iinc 3 1, 3) := by decide +kernel
theorem dX7_leads_59 : decode cX7_leads 59 = .ok (.goto (-32), 3) := by decide +kernel
theorem dX7_leads_62 : decode cX7_leads 62 = .ok (.iload_n 2, 1) := by decide +kernel
theorem dX7_leads_63 : decode cX7_leads 63 = .ok (.ireturn, 1) := by decide +kernel
set_option maxRecDepth 20000 in
theorem ggX7_years_X7_isSheet : GoodIn wsX7_years wsX7_isSheet := goodIn_r _ [8] (by decide +kernel) (by decide +kernel)
set_option maxRecDepth 20000 in
theorem gX7_years_X7_isSheet : GoodIn wsX7_years (va_wsS RX7 57 yX7_isSheet wsX7_isSheet) := goodIn_app (goodIn_of _ (by decide +kernel)) ggX7_years_X7_isSheet
set_option maxRecDepth 20000 in
theorem ggX7_years_X7_isLane : GoodIn wsX7_years wsX7_isLane := goodIn_r _ [11] (by decide +kernel) (by decide +kernel)
set_option maxRecDepth 20000 in
theorem gX7_years_X7_isLane : GoodIn wsX7_years (va_wsS RX7 61 yX7_isLane wsX7_isLane) := goodIn_app (goodIn_of _ (by decide +kernel)) ggX7_years_X7_isLane
set_option maxRecDepth 20000 in
theorem ggX7_years_X6_answers : GoodIn wsX7_years wsX6_answers := goodIn_r _ [15] (by decide +kernel) (by decide +kernel)
set_option maxRecDepth 20000 in
theorem gX7_years_X6_answers : GoodIn wsX7_years (va_wsS RX7 130 yX6_answers wsX6_answers) := goodIn_app (goodIn_of _ (by decide +kernel)) ggX7_years_X6_answers
set_option maxRecDepth 20000 in
theorem ggX7_years_X2_faultAsLane : GoodIn wsX7_years wsX2_faultAsLane := goodIn_r _ [20, 21, 22, 23, 24, 25, 19, 26, 27, 119, 120, 121, 122] (by decide +kernel) (by decide +kernel)
set_option maxRecDepth 20000 in
theorem gX7_years_X2_faultAsLane : GoodIn wsX7_years (wsV RX7 64 RX2 yX2_faultAsLane wsX2_faultAsLane) := goodIn_app (goodIn_of _ (by decide +kernel)) ggX7_years_X2_faultAsLane
set_option maxRecDepth 20000 in
theorem ggX7_years_X7_faulted : GoodIn wsX7_years wsX7_faulted := goodIn_r _ [31, 1, 104, 105, 106, 107, 108, 109, 110, 111, 112] (by decide +kernel) (by decide +kernel)
set_option maxRecDepth 20000 in
theorem gX7_years_X7_faulted : GoodIn wsX7_years (wsV RX7 68 RX7 yX7_faulted wsX7_faulted) := goodIn_app (goodIn_of _ (by decide +kernel)) ggX7_years_X7_faulted
set_option maxRecDepth 20000 in
theorem ggX7_years_X7_refusalOfPairs : GoodIn wsX7_years wsX7_refusalOfPairs := goodIn_r _ [35, 3, 36, 37, 14, 38, 39, 40, 41, 42, 43, 44, 119, 120, 121, 122, 104, 105, 106, 107, 108, 109, 110, 111, 112, 113, 114, 115, 116, 117, 118] (by decide +kernel) (by decide +kernel)
set_option maxRecDepth 20000 in
theorem gX7_years_X7_refusalOfPairs : GoodIn wsX7_years (wsV RX7 133 RX7 yX7_refusalOfPairs wsX7_refusalOfPairs) := goodIn_app (goodIn_of _ (by decide +kernel)) ggX7_years_X7_refusalOfPairs
set_option maxRecDepth 20000 in
theorem ggX7_years_X6_goThrough : GoodIn wsX7_years wsX6_goThrough := goodIn_r _ [48, 49, 50, 51, 52, 53, 54, 55, 42, 56, 44, 57, 58, 59, 60, 61, 62, 63, 64, 14, 65, 66, 67, 68, 69, 70, 71, 72, 73, 74, 75, 76, 77, 78, 79, 80, 81, 82, 83, 84, 85, 86, 87, 88, 89, 90, 91, 92, 93, 94, 95, 96, 97, 98, 40, 41, 43, 123, 124, 125, 126, 119, 120, 121, 122, 113, 114, 115, 116, 117, 118] (by decide +kernel) (by decide +kernel)
set_option maxRecDepth 20000 in
theorem gX7_years_X6_goThrough : GoodIn wsX7_years (wsV RX7 136 RX6 yX6_goThrough wsX6_goThrough) := goodIn_app (goodIn_of _ (by decide +kernel)) ggX7_years_X6_goThrough
set_option maxRecDepth 20000 in
theorem ggX7_years_X6_answer : GoodIn wsX7_years wsX6_answer := goodIn_r _ [102, 50, 52, 51, 49, 103, 40, 41, 42, 43, 44, 70, 71, 72, 73, 61, 74, 75, 76, 77, 78, 79, 80, 81, 57, 82, 83, 84, 85, 58, 59, 123, 124, 125, 126, 113, 114, 115, 116, 117, 118] (by decide +kernel) (by decide +kernel)
set_option maxRecDepth 20000 in
theorem gX7_years_X6_answer : GoodIn wsX7_years (wsV RX7 140 RX6 yX6_answer wsX6_answer) := goodIn_app (goodIn_of _ (by decide +kernel)) ggX7_years_X6_answer
theorem dX7_years_0 : decode cX7_years 0 = .ok (.aload_n 0, 1) := by decide +kernel
theorem dX7_years_1 : decode cX7_years 1 = .ok (.iconst 0, 1) := by decide +kernel
theorem dX7_years_2 : decode cX7_years 2 = .ok (.putfield 53, 3) := by decide +kernel
theorem dX7_years_5 : decode cX7_years 5 = .ok (.iload_n 1, 1) := by decide +kernel
theorem dX7_years_6 : decode cX7_years 6 = .ok (.invokestatic 57, 3) := by decide +kernel
theorem dX7_years_9 : decode cX7_years 9 = .ok (.ifCond .ne 5, 3) := by decide +kernel
theorem dX7_years_12 : decode cX7_years 12 = .ok (.iconst (-1), 1) := by decide +kernel
theorem dX7_years_13 : decode cX7_years 13 = .ok (.ireturn, 1) := by decide +kernel
theorem dX7_years_14 : decode cX7_years 14 = .ok (.iload_n 2, 1) := by decide +kernel
theorem dX7_years_15 : decode cX7_years 15 = .ok (.invokestatic 61, 3) := by decide +kernel
theorem dX7_years_18 : decode cX7_years 18 = .ok (.ifCond .eq 23, 3) := by decide +kernel
theorem dX7_years_21 : decode cX7_years 21 = .ok (.iload 4, 2) := by decide +kernel
theorem dX7_years_23 : decode cX7_years 23 = .ok (.ifCond .lt 18, 3) := by decide +kernel
theorem dX7_years_26 : decode cX7_years 26 = .ok (.iload 4, 2) := by decide +kernel
theorem dX7_years_28 : decode cX7_years 28 = .ok (.bipush 20, 2) := by decide +kernel
theorem dX7_years_30 : decode cX7_years 30 = .ok (.if_icmp .gt 11, 3) := by decide +kernel
theorem dX7_years_33 : decode cX7_years 33 = .ok (.iload 5, 2) := by decide +kernel
theorem dX7_years_35 : decode cX7_years 35 = .ok (.invokestatic 130, 3) := by decide +kernel
theorem dX7_years_38 : decode cX7_years 38 = .ok (.ifCond .ne 6, 3) := by decide +kernel
theorem dX7_years_41 : decode cX7_years 41 = .ok (.bipush (-2), 2) := by decide +kernel
theorem dX7_years_43 : decode cX7_years 43 = .ok (.ireturn, 1) := by decide +kernel
theorem dX7_years_44 : decode cX7_years 44 = .ok (.aload_n 0, 1) := by decide +kernel
theorem dX7_years_45 : decode cX7_years 45 = .ok (.getfield 13, 3) := by decide +kernel
theorem dX7_years_48 : decode cX7_years 48 = .ok (.iload_n 1, 1) := by decide +kernel
theorem dX7_years_49 : decode cX7_years 49 = .ok (.aaload, 1) := by decide +kernel
theorem dX7_years_50 : decode cX7_years 50 = .ok (.astore 6, 2) := by decide +kernel
theorem dX7_years_52 : decode cX7_years 52 = .ok (.aload 6, 2) := by decide +kernel
theorem dX7_years_54 : decode cX7_years 54 = .ok (.iload_n 2, 1) := by decide +kernel
theorem dX7_years_55 : decode cX7_years 55 = .ok (.iload_n 3, 1) := by decide +kernel
theorem dX7_years_56 : decode cX7_years 56 = .ok (.iconst 2, 1) := by decide +kernel
theorem dX7_years_57 : decode cX7_years 57 = .ok (.iload 4, 2) := by decide +kernel
theorem dX7_years_59 : decode cX7_years 59 = .ok (.imul, 1) := by decide +kernel
theorem dX7_years_60 : decode cX7_years 60 = .ok (.invokevirtual 64, 3) := by decide +kernel
theorem dX7_years_63 : decode cX7_years 63 = .ok (.istore 7, 2) := by decide +kernel
theorem dX7_years_65 : decode cX7_years 65 = .ok (.iload 7, 2) := by decide +kernel
theorem dX7_years_67 : decode cX7_years 67 = .ok (.ifCond .eq 10, 3) := by decide +kernel
theorem dX7_years_70 : decode cX7_years 70 = .ok (.aload_n 0, 1) := by decide +kernel
theorem dX7_years_71 : decode cX7_years 71 = .ok (.iload 7, 2) := by decide +kernel
theorem dX7_years_73 : decode cX7_years 73 = .ok (.invokevirtual 68, 3) := by decide +kernel
theorem dX7_years_76 : decode cX7_years 76 = .ok (.ireturn, 1) := by decide +kernel
theorem dX7_years_77 : decode cX7_years 77 = .ok (.aload_n 0, 1) := by decide +kernel
theorem dX7_years_78 : decode cX7_years 78 = .ok (.getfield 21, 3) := by decide +kernel
theorem dX7_years_81 : decode cX7_years 81 = .ok (.getfield 88, 3) := by decide +kernel
theorem dX7_years_84 : decode cX7_years 84 = .ok (.ifCond .ne 6, 3) := by decide +kernel
theorem dX7_years_87 : decode cX7_years 87 = .ok (.bipush (-3), 2) := by decide +kernel
theorem dX7_years_89 : decode cX7_years 89 = .ok (.ireturn, 1) := by decide +kernel
theorem dX7_years_90 : decode cX7_years 90 = .ok (.aload_n 0, 1) := by decide +kernel
theorem dX7_years_91 : decode cX7_years 91 = .ok (.aload 6, 2) := by decide +kernel
theorem dX7_years_93 : decode cX7_years 93 = .ok (.iload_n 3, 1) := by decide +kernel
theorem dX7_years_94 : decode cX7_years 94 = .ok (.iload 4, 2) := by decide +kernel
theorem dX7_years_96 : decode cX7_years 96 = .ok (.invokevirtual 133, 3) := by decide +kernel
theorem dX7_years_99 : decode cX7_years 99 = .ok (.istore 8, 2) := by decide +kernel
theorem dX7_years_101 : decode cX7_years 101 = .ok (.iload 8, 2) := by decide +kernel
theorem dX7_years_103 : decode cX7_years 103 = .ok (.ifCond .eq 6, 3) := by decide +kernel
theorem dX7_years_106 : decode cX7_years 106 = .ok (.iload 8, 2) := by decide +kernel
theorem dX7_years_108 : decode cX7_years 108 = .ok (.ireturn, 1) := by decide +kernel
theorem dX7_years_109 : decode cX7_years 109 = .ok (.aload_n 0, 1) := by decide +kernel
theorem dX7_years_110 : decode cX7_years 110 = .ok (.getfield 35, 3) := by decide +kernel
theorem dX7_years_113 : decode cX7_years 113 = .ok (.aload_n 0, 1) := by decide +kernel
theorem dX7_years_114 : decode cX7_years 114 = .ok (.getfield 21, 3) := by decide +kernel
theorem dX7_years_117 : decode cX7_years 117 = .ok (.aload 6, 2) := by decide +kernel
theorem dX7_years_119 : decode cX7_years 119 = .ok (.iload_n 3, 1) := by decide +kernel
theorem dX7_years_120 : decode cX7_years 120 = .ok (.iload 4, 2) := by decide +kernel
theorem dX7_years_122 : decode cX7_years 122 = .ok (.invokevirtual 136, 3) := by decide +kernel
theorem dX7_years_125 : decode cX7_years 125 = .ok (.aload_n 0, 1) := by decide +kernel
theorem dX7_years_126 : decode cX7_years 126 = .ok (.getfield 35, 3) := by decide +kernel
theorem dX7_years_129 : decode cX7_years 129 = .ok (.iload 5, 2) := by decide +kernel
theorem dX7_years_131 : decode cX7_years 131 = .ok (.invokevirtual 140, 3) := by decide +kernel
theorem dX7_years_134 : decode cX7_years 134 = .ok (.ireturn, 1) := by decide +kernel
set_option maxRecDepth 20000 in
theorem ggX7_refusalOfPairs_X6_isDeed : GoodIn wsX7_refusalOfPairs wsX6_isDeed := goodIn_r _ [5] (by decide +kernel) (by decide +kernel)
set_option maxRecDepth 20000 in
theorem gX7_refusalOfPairs_X6_isDeed : GoodIn wsX7_refusalOfPairs (va_wsS RX7 146 yX6_isDeed wsX6_isDeed) := goodIn_app (goodIn_of _ (by decide +kernel)) ggX7_refusalOfPairs_X6_isDeed
set_option maxRecDepth 20000 in
theorem ggX7_refusalOfPairs_X4_has : GoodIn wsX7_refusalOfPairs wsX4_has := goodIn_r _ [10, 11, 25, 26, 27, 28, 29, 30] (by decide +kernel) (by decide +kernel)
set_option maxRecDepth 20000 in
theorem gX7_refusalOfPairs_X4_has : GoodIn wsX7_refusalOfPairs (wsV RX7 89 RX4 yX4_has wsX4_has) := goodIn_app (goodIn_of _ (by decide +kernel)) ggX7_refusalOfPairs_X4_has
theorem dX7_refusalOfPairs_0 : decode cX7_refusalOfPairs 0 = .ok (.iconst 0, 1) := by decide +kernel
theorem dX7_refusalOfPairs_1 : decode cX7_refusalOfPairs 1 = .ok (.istore 4, 2) := by decide +kernel
theorem dX7_refusalOfPairs_3 : decode cX7_refusalOfPairs 3 = .ok (.iload 4, 2) := by decide +kernel
theorem dX7_refusalOfPairs_5 : decode cX7_refusalOfPairs 5 = .ok (.iload_n 3, 1) := by decide +kernel
theorem dX7_refusalOfPairs_6 : decode cX7_refusalOfPairs 6 = .ok (.if_icmp .ge 54, 3) := by decide +kernel
theorem dX7_refusalOfPairs_9 : decode cX7_refusalOfPairs 9 = .ok (.aload_n 1, 1) := by decide +kernel
theorem dX7_refusalOfPairs_10 : decode cX7_refusalOfPairs 10 = .ok (.getfield 143, 3) := by decide +kernel
theorem dX7_refusalOfPairs_13 : decode cX7_refusalOfPairs 13 = .ok (.iload_n 2, 1) := by decide +kernel
theorem dX7_refusalOfPairs_14 : decode cX7_refusalOfPairs 14 = .ok (.iconst 2, 1) := by decide +kernel
theorem dX7_refusalOfPairs_15 : decode cX7_refusalOfPairs 15 = .ok (.iload 4, 2) := by decide +kernel
theorem dX7_refusalOfPairs_17 : decode cX7_refusalOfPairs 17 = .ok (.imul, 1) := by decide +kernel
theorem dX7_refusalOfPairs_18 : decode cX7_refusalOfPairs 18 = .ok (.iadd, 1) := by decide +kernel
theorem dX7_refusalOfPairs_19 : decode cX7_refusalOfPairs 19 = .ok (.iconst 1, 1) := by decide +kernel
theorem dX7_refusalOfPairs_20 : decode cX7_refusalOfPairs 20 = .ok (.iadd, 1) := by decide +kernel
theorem dX7_refusalOfPairs_21 : decode cX7_refusalOfPairs 21 = .ok (.iaload, 1) := by decide +kernel
theorem dX7_refusalOfPairs_22 : decode cX7_refusalOfPairs 22 = .ok (.invokestatic 146, 3) := by decide +kernel
theorem dX7_refusalOfPairs_25 : decode cX7_refusalOfPairs 25 = .ok (.ifCond .ne 6, 3) := by decide +kernel
theorem dX7_refusalOfPairs_28 : decode cX7_refusalOfPairs 28 = .ok (.bipush (-2), 2) := by decide +kernel
theorem dX7_refusalOfPairs_30 : decode cX7_refusalOfPairs 30 = .ok (.ireturn, 1) := by decide +kernel
theorem dX7_refusalOfPairs_31 : decode cX7_refusalOfPairs 31 = .ok (.aload_n 0, 1) := by decide +kernel
theorem dX7_refusalOfPairs_32 : decode cX7_refusalOfPairs 32 = .ok (.getfield 21, 3) := by decide +kernel
theorem dX7_refusalOfPairs_35 : decode cX7_refusalOfPairs 35 = .ok (.aload_n 1, 1) := by decide +kernel
theorem dX7_refusalOfPairs_36 : decode cX7_refusalOfPairs 36 = .ok (.getfield 143, 3) := by decide +kernel
theorem dX7_refusalOfPairs_39 : decode cX7_refusalOfPairs 39 = .ok (.iload_n 2, 1) := by decide +kernel
theorem dX7_refusalOfPairs_40 : decode cX7_refusalOfPairs 40 = .ok (.iconst 2, 1) := by decide +kernel
theorem dX7_refusalOfPairs_41 : decode cX7_refusalOfPairs 41 = .ok (.iload 4, 2) := by decide +kernel
theorem dX7_refusalOfPairs_43 : decode cX7_refusalOfPairs 43 = .ok (.imul, 1) := by decide +kernel
theorem dX7_refusalOfPairs_44 : decode cX7_refusalOfPairs 44 = .ok (.iadd, 1) := by decide +kernel
theorem dX7_refusalOfPairs_45 : decode cX7_refusalOfPairs 45 = .ok (.iaload, 1) := by decide +kernel
theorem dX7_refusalOfPairs_46 : decode cX7_refusalOfPairs 46 = .ok (.invokevirtual 89, 3) := by decide +kernel
theorem dX7_refusalOfPairs_49 : decode cX7_refusalOfPairs 49 = .ok (.ifCond .ne 5, 3) := by decide +kernel
theorem dX7_refusalOfPairs_52 : decode cX7_refusalOfPairs 52 = .ok (.iconst (-1), 1) := by decide +kernel
theorem dX7_refusalOfPairs_53 : decode cX7_refusalOfPairs 53 = .ok (.ireturn, 1) := by decide +kernel
theorem dX7_refusalOfPairs_54 : decode cX7_refusalOfPairs 54 = .ok (.iinc 4 1, 3) := by decide +kernel
theorem dX7_refusalOfPairs_57 : decode cX7_refusalOfPairs 57 = .ok (.goto (-54), 3) := by decide +kernel
theorem dX7_refusalOfPairs_60 : decode cX7_refusalOfPairs 60 = .ok (.iconst 0, 1) := by decide +kernel
theorem dX7_refusalOfPairs_61 : decode cX7_refusalOfPairs 61 = .ok (.ireturn, 1) := by decide +kernel
set_option maxRecDepth 20000 in
theorem ggX7_rings_X4_inRings : GoodIn wsX7_rings wsX4_inRings := goodIn_r _ [6, 7, 8, 9, 10, 5, 11, 12, 13, 14, 15, 16, 37, 38, 39, 40, 41, 42] (by decide +kernel) (by decide +kernel)
set_option maxRecDepth 20000 in
theorem gX7_rings_X4_inRings : GoodIn wsX7_rings (wsV RX7 149 RX4 yX4_inRings wsX4_inRings) := goodIn_app (goodIn_of _ (by decide +kernel)) ggX7_rings_X4_inRings
set_option maxRecDepth 20000 in
theorem ggX7_rings_X4_leastOfRings : GoodIn wsX7_rings wsX4_leastOfRings := goodIn_r _ [20, 7, 8, 9, 10, 5, 11, 12, 13, 14, 15, 16, 37, 38, 39, 40, 41, 42] (by decide +kernel) (by decide +kernel)
set_option maxRecDepth 20000 in
theorem gX7_rings_X4_leastOfRings : GoodIn wsX7_rings (wsV RX7 152 RX4 yX4_leastOfRings wsX4_leastOfRings) := goodIn_app (goodIn_of _ (by decide +kernel)) ggX7_rings_X4_leastOfRings
set_option maxRecDepth 20000 in
theorem ggX7_rings_J6_bitCount_0f7a4 : GoodIn wsX7_rings wsJ6_bitCount_0f7a4 := goodIn_r _ [24, 25, 26, 27] (by decide +kernel) (by decide +kernel)
set_option maxRecDepth 20000 in
theorem gX7_rings_J6_bitCount_0f7a4 : GoodIn wsX7_rings (va_wsS RX7 155 yJ6_bitCount_0f7a4 wsJ6_bitCount_0f7a4) := goodIn_app (goodIn_of _ (by decide +kernel)) ggX7_rings_J6_bitCount_0f7a4
theorem dX7_rings_0 : decode cX7_rings 0 = .ok (.iload_n 1, 1) := by decide +kernel
theorem dX7_rings_1 : decode cX7_rings 1 = .ok (.ifCond .eq 11, 3) := by decide +kernel
theorem dX7_rings_4 : decode cX7_rings 4 = .ok (.iload_n 1, 1) := by decide +kernel
theorem dX7_rings_5 : decode cX7_rings 5 = .ok (.iconst 1, 1) := by decide +kernel
theorem dX7_rings_6 : decode cX7_rings 6 = .ok (.if_icmp .eq 6, 3) := by decide +kernel
theorem dX7_rings_9 : decode cX7_rings 9 = .ok (.bipush (-2), 2) := by decide +kernel
theorem dX7_rings_11 : decode cX7_rings 11 = .ok (.ireturn, 1) := by decide +kernel
theorem dX7_rings_12 : decode cX7_rings 12 = .ok (.aload_n 0, 1) := by decide +kernel
theorem dX7_rings_13 : decode cX7_rings 13 = .ok (.getfield 21, 3) := by decide +kernel
theorem dX7_rings_16 : decode cX7_rings 16 = .ok (.getfield 88, 3) := by decide +kernel
theorem dX7_rings_19 : decode cX7_rings 19 = .ok (.ifCond .ne 6, 3) := by decide +kernel
theorem dX7_rings_22 : decode cX7_rings 22 = .ok (.bipush (-3), 2) := by decide +kernel
theorem dX7_rings_24 : decode cX7_rings 24 = .ok (.ireturn, 1) := by decide +kernel
theorem dX7_rings_25 : decode cX7_rings 25 = .ok (.iload_n 1, 1) := by decide +kernel
theorem dX7_rings_26 : decode cX7_rings 26 = .ok (.ifCond .ne 13, 3) := by decide +kernel
theorem dX7_rings_29 : decode cX7_rings 29 = .ok (.aload_n 0, 1) := by decide +kernel
theorem dX7_rings_30 : decode cX7_rings 30 = .ok (.getfield 21, 3) := by decide +kernel
theorem dX7_rings_33 : decode cX7_rings 33 = .ok (.invokevirtual 149, 3) := by decide +kernel
theorem dX7_rings_36 : decode cX7_rings 36 = .ok (.goto 13, 3) := by decide +kernel
theorem dX7_rings_39 : decode cX7_rings 39 = .ok (.aload_n 0, 1) := by decide +kernel
theorem dX7_rings_40 : decode cX7_rings 40 = .ok (.getfield 21, 3) := by decide +kernel
theorem dX7_rings_43 : decode cX7_rings 43 = .ok (.invokevirtual 152, 3) := by decide +kernel
theorem dX7_rings_46 : decode cX7_rings 46 = .ok (.invokestatic 155, 3) := by decide +kernel
theorem dX7_rings_49 : decode cX7_rings 49 = .ok (.ireturn, 1) := by decide +kernel
set_option maxRecDepth 20000 in
theorem ggX7_cuts_X4_leastOfRings : GoodIn wsX7_cuts wsX4_leastOfRings := goodIn_r _ [6, 7, 8, 9, 10, 5, 11, 12, 13, 14, 15, 16, 26, 27, 28, 29, 30, 31] (by decide +kernel) (by decide +kernel)
set_option maxRecDepth 20000 in
theorem gX7_cuts_X4_leastOfRings : GoodIn wsX7_cuts (wsV RX7 152 RX4 yX4_leastOfRings wsX4_leastOfRings) := goodIn_app (goodIn_of _ (by decide +kernel)) ggX7_cuts_X4_leastOfRings
theorem dX7_cuts_0 : decode cX7_cuts 0 = .ok (.aload_n 0, 1) := by decide +kernel
theorem dX7_cuts_1 : decode cX7_cuts 1 = .ok (.getfield 21, 3) := by decide +kernel
theorem dX7_cuts_4 : decode cX7_cuts 4 = .ok (.getfield 88, 3) := by decide +kernel
theorem dX7_cuts_7 : decode cX7_cuts 7 = .ok (.ifCond .ne 6, 3) := by decide +kernel
theorem dX7_cuts_10 : decode cX7_cuts 10 = .ok (.bipush (-3), 2) := by decide +kernel
theorem dX7_cuts_12 : decode cX7_cuts 12 = .ok (.ireturn, 1) := by decide +kernel
theorem dX7_cuts_13 : decode cX7_cuts 13 = .ok (.aload_n 0, 1) := by decide +kernel
theorem dX7_cuts_14 : decode cX7_cuts 14 = .ok (.getfield 21, 3) := by decide +kernel
theorem dX7_cuts_17 : decode cX7_cuts 17 = .ok (.invokevirtual 152, 3) := by decide +kernel
theorem dX7_cuts_20 : decode cX7_cuts 20 = .ok (.ireturn, 1) := by decide +kernel
set_option maxRecDepth 20000 in
theorem ggX7_tree_X3_grow : GoodIn wsX7_tree wsX3_grow := goodIn_r _ [7, 8, 9, 10, 11, 12, 13, 14, 15, 16, 17, 18, 19, 6, 20, 21, 22, 23, 24, 25, 26, 50, 51, 52, 53, 54, 44, 45, 46, 47, 48, 49] (by decide +kernel) (by decide +kernel)
set_option maxRecDepth 20000 in
theorem gX7_tree_X3_grow : GoodIn wsX7_tree (wsV RX7 160 RX3 yX3_grow wsX3_grow) := goodIn_app (goodIn_of _ (by decide +kernel)) ggX7_tree_X3_grow
set_option maxRecDepth 20000 in
theorem ggX7_tree_X3_leastCost : GoodIn wsX7_tree wsX3_leastCost := goodIn_r _ [30, 22, 8, 24, 25, 6, 26, 50, 51, 52, 53, 54] (by decide +kernel) (by decide +kernel)
set_option maxRecDepth 20000 in
theorem gX7_tree_X3_leastCost : GoodIn wsX7_tree (wsV RX7 164 RX3 yX3_leastCost wsX3_leastCost) := goodIn_app (goodIn_of _ (by decide +kernel)) ggX7_tree_X3_leastCost
set_option maxRecDepth 20000 in
theorem ggX7_tree_X3_depthOf : GoodIn wsX7_tree wsX3_depthOf := goodIn_r _ [34, 8, 23, 9, 24, 25, 6, 26, 50, 51, 52, 53, 54] (by decide +kernel) (by decide +kernel)
set_option maxRecDepth 20000 in
theorem gX7_tree_X3_depthOf : GoodIn wsX7_tree (wsV RX7 167 RX3 yX3_depthOf wsX3_depthOf) := goodIn_app (goodIn_of _ (by decide +kernel)) ggX7_tree_X3_depthOf
theorem dX7_tree_0 : decode cX7_tree 0 = .ok (.iload_n 1, 1) := by decide +kernel
theorem dX7_tree_1 : decode cX7_tree 1 = .ok (.iconst (-1), 1) := by decide +kernel
theorem dX7_tree_2 : decode cX7_tree 2 = .ok (.if_icmp .lt 9, 3) := by decide +kernel
theorem dX7_tree_5 : decode cX7_tree 5 = .ok (.iload_n 1, 1) := by decide +kernel
theorem dX7_tree_6 : decode cX7_tree 6 = .ok (.bipush 7, 2) := by decide +kernel
theorem dX7_tree_8 : decode cX7_tree 8 = .ok (.if_icmp .lt 6, 3) := by decide +kernel
theorem dX7_tree_11 : decode cX7_tree 11 = .ok (.bipush (-2), 2) := by decide +kernel
theorem dX7_tree_13 : decode cX7_tree 13 = .ok (.ireturn, 1) := by decide +kernel
theorem dX7_tree_14 : decode cX7_tree 14 = .ok (.aload_n 0, 1) := by decide +kernel
theorem dX7_tree_15 : decode cX7_tree 15 = .ok (.getfield 21, 3) := by decide +kernel
theorem dX7_tree_18 : decode cX7_tree 18 = .ok (.getfield 88, 3) := by decide +kernel
theorem dX7_tree_21 : decode cX7_tree 21 = .ok (.ifCond .ne 6, 3) := by decide +kernel
theorem dX7_tree_24 : decode cX7_tree 24 = .ok (.bipush (-3), 2) := by decide +kernel
theorem dX7_tree_26 : decode cX7_tree 26 = .ok (.ireturn, 1) := by decide +kernel
theorem dX7_tree_27 : decode cX7_tree 27 = .ok (.aload_n 0, 1) := by decide +kernel
theorem dX7_tree_28 : decode cX7_tree 28 = .ok (.getfield 42, 3) := by decide +kernel
theorem dX7_tree_31 : decode cX7_tree 31 = .ok (.aload_n 0, 1) := by decide +kernel
theorem dX7_tree_32 : decode cX7_tree 32 = .ok (.getfield 21, 3) := by decide +kernel
theorem dX7_tree_35 : decode cX7_tree 35 = .ok (.invokevirtual 160, 3) := by decide +kernel
theorem dX7_tree_38 : decode cX7_tree 38 = .ok (.iload_n 1, 1) := by decide +kernel
theorem dX7_tree_39 : decode cX7_tree 39 = .ok (.iconst (-1), 1) := by decide +kernel
theorem dX7_tree_40 : decode cX7_tree 40 = .ok (.if_icmp .ne 13, 3) := by decide +kernel
theorem dX7_tree_43 : decode cX7_tree 43 = .ok (.aload_n 0, 1) := by decide +kernel
theorem dX7_tree_44 : decode cX7_tree 44 = .ok (.getfield 42, 3) := by decide +kernel
theorem dX7_tree_47 : decode cX7_tree 47 = .ok (.invokevirtual 164, 3) := by decide +kernel
theorem dX7_tree_50 : decode cX7_tree 50 = .ok (.goto 11, 3) := by decide +kernel
theorem dX7_tree_53 : decode cX7_tree 53 = .ok (.aload_n 0, 1) := by decide +kernel
theorem dX7_tree_54 : decode cX7_tree 54 = .ok (.getfield 42, 3) := by decide +kernel
theorem dX7_tree_57 : decode cX7_tree 57 = .ok (.iload_n 1, 1) := by decide +kernel
theorem dX7_tree_58 : decode cX7_tree 58 = .ok (.invokevirtual 167, 3) := by decide +kernel
theorem dX7_tree_61 : decode cX7_tree 61 = .ok (.ireturn, 1) := by decide +kernel
set_option maxRecDepth 20000 in
theorem ggX7_orders_X7_isSheet : GoodIn wsX7_orders wsX7_isSheet := goodIn_r _ [8] (by decide +kernel) (by decide +kernel)
set_option maxRecDepth 20000 in
theorem gX7_orders_X7_isSheet : GoodIn wsX7_orders (va_wsS RX7 57 yX7_isSheet wsX7_isSheet) := goodIn_app (goodIn_of _ (by decide +kernel)) ggX7_orders_X7_isSheet
set_option maxRecDepth 20000 in
theorem ggX7_orders_X7_isLane : GoodIn wsX7_orders wsX7_isLane := goodIn_r _ [11] (by decide +kernel) (by decide +kernel)
set_option maxRecDepth 20000 in
theorem gX7_orders_X7_isLane : GoodIn wsX7_orders (va_wsS RX7 61 yX7_isLane wsX7_isLane) := goodIn_app (goodIn_of _ (by decide +kernel)) ggX7_orders_X7_isLane
set_option maxRecDepth 20000 in
theorem ggX7_orders_X2_faultAsLane : GoodIn wsX7_orders wsX2_faultAsLane := goodIn_r _ [16, 17, 18, 19, 20, 21, 15, 22, 23, 82, 83, 84, 85] (by decide +kernel) (by decide +kernel)
set_option maxRecDepth 20000 in
theorem gX7_orders_X2_faultAsLane : GoodIn wsX7_orders (wsV RX7 64 RX2 yX2_faultAsLane wsX2_faultAsLane) := goodIn_app (goodIn_of _ (by decide +kernel)) ggX7_orders_X2_faultAsLane
set_option maxRecDepth 20000 in
theorem ggX7_orders_X7_faulted : GoodIn wsX7_orders wsX7_faulted := goodIn_r _ [27, 1, 67, 68, 69, 70, 71, 72, 73, 74, 75] (by decide +kernel) (by decide +kernel)
set_option maxRecDepth 20000 in
theorem gX7_orders_X7_faulted : GoodIn wsX7_orders (wsV RX7 68 RX7 yX7_faulted wsX7_faulted) := goodIn_app (goodIn_of _ (by decide +kernel)) ggX7_orders_X7_faulted
set_option maxRecDepth 20000 in
theorem ggX7_orders_X0_begin : GoodIn wsX7_orders wsX0_begin := goodIn_r _ [32, 33, 34, 86, 87, 88] (by decide +kernel) (by decide +kernel)
set_option maxRecDepth 20000 in
theorem gX7_orders_X0_begin : GoodIn wsX7_orders (wsV RX7 170 RX0 yX0_begin wsX0_begin) := goodIn_app (goodIn_of _ (by decide +kernel)) ggX7_orders_X0_begin
set_option maxRecDepth 20000 in
theorem ggX7_orders_X4_has : GoodIn wsX7_orders wsX4_has := goodIn_r _ [39, 40, 76, 77, 78, 79, 80, 81] (by decide +kernel) (by decide +kernel)
set_option maxRecDepth 20000 in
theorem gX7_orders_X4_has : GoodIn wsX7_orders (wsV RX7 89 RX4 yX4_has wsX4_has) := goodIn_app (goodIn_of _ (by decide +kernel)) ggX7_orders_X4_has
set_option maxRecDepth 20000 in
theorem ggX7_orders_X0_putAhead : GoodIn wsX7_orders wsX0_putAhead := goodIn_r _ [44, 34, 86, 87, 88] (by decide +kernel) (by decide +kernel)
set_option maxRecDepth 20000 in
theorem gX7_orders_X0_putAhead : GoodIn wsX7_orders (wsV RX7 174 RX0 yX0_putAhead wsX0_putAhead) := goodIn_app (goodIn_of _ (by decide +kernel)) ggX7_orders_X0_putAhead
set_option maxRecDepth 20000 in
theorem ggX7_orders_X0_howMany : GoodIn wsX7_orders wsX0_howMany := goodIn_r _ [48, 33, 49, 50, 51, 52, 31, 53, 54, 55, 56, 57, 34, 86, 87, 88] (by decide +kernel) (by decide +kernel)
set_option maxRecDepth 20000 in
theorem gX7_orders_X0_howMany : GoodIn wsX7_orders (wsV RX7 178 RX0 yX0_howMany wsX0_howMany) := goodIn_app (goodIn_of _ (by decide +kernel)) ggX7_orders_X0_howMany
set_option maxRecDepth 20000 in
theorem ggX7_orders_X0_firstAt : GoodIn wsX7_orders wsX0_firstAt := goodIn_r _ [61, 33, 62, 46, 47, 31, 48, 49, 50, 51, 52, 53, 54, 55, 56, 57, 34, 63, 64, 65, 66, 86, 87, 88] (by decide +kernel) (by decide +kernel)
set_option maxRecDepth 20000 in
theorem gX7_orders_X0_firstAt : GoodIn wsX7_orders (wsV RX7 181 RX0 yX0_firstAt wsX0_firstAt) := goodIn_app (goodIn_of _ (by decide +kernel)) ggX7_orders_X0_firstAt
theorem dX7_orders_0 : decode cX7_orders 0 = .ok (.aload_n 0, 1) := by decide +kernel
theorem dX7_orders_1 : decode cX7_orders 1 = .ok (.iconst 0, 1) := by decide +kernel
theorem dX7_orders_2 : decode cX7_orders 2 = .ok (.putfield 53, 3) := by decide +kernel
theorem dX7_orders_5 : decode cX7_orders 5 = .ok (.iload_n 1, 1) := by decide +kernel
theorem dX7_orders_6 : decode cX7_orders 6 = .ok (.invokestatic 57, 3) := by decide +kernel
theorem dX7_orders_9 : decode cX7_orders 9 = .ok (.ifCond .ne 5, 3) := by decide +kernel
theorem dX7_orders_12 : decode cX7_orders 12 = .ok (.iconst (-1), 1) := by decide +kernel
theorem dX7_orders_13 : decode cX7_orders 13 = .ok (.ireturn, 1) := by decide +kernel
theorem dX7_orders_14 : decode cX7_orders 14 = .ok (.iload_n 2, 1) := by decide +kernel
theorem dX7_orders_15 : decode cX7_orders 15 = .ok (.invokestatic 61, 3) := by decide +kernel
theorem dX7_orders_18 : decode cX7_orders 18 = .ok (.ifCond .eq 28, 3) := by decide +kernel
theorem dX7_orders_21 : decode cX7_orders 21 = .ok (.iload 4, 2) := by decide +kernel
theorem dX7_orders_23 : decode cX7_orders 23 = .ok (.ifCond .lt 23, 3) := by decide +kernel
theorem dX7_orders_26 : decode cX7_orders 26 = .ok (.iload 4, 2) := by decide +kernel
theorem dX7_orders_28 : decode cX7_orders 28 = .ok (.bipush 10, 2) := by decide +kernel
theorem dX7_orders_30 : decode cX7_orders 30 = .ok (.if_icmp .gt 16, 3) := by decide +kernel
theorem dX7_orders_33 : decode cX7_orders 33 = .ok (.iload 5, 2) := by decide +kernel
theorem dX7_orders_35 : decode cX7_orders 35 = .ok (.iconst (-1), 1) := by decide +kernel
theorem dX7_orders_36 : decode cX7_orders 36 = .ok (.if_icmp .lt 10, 3) := by decide +kernel
theorem dX7_orders_39 : decode cX7_orders 39 = .ok (.iload 5, 2) := by decide +kernel
theorem dX7_orders_41 : decode cX7_orders 41 = .ok (.bipush 7, 2) := by decide +kernel
theorem dX7_orders_43 : decode cX7_orders 43 = .ok (.if_icmp .lt 6, 3) := by decide +kernel
theorem dX7_orders_46 : decode cX7_orders 46 = .ok (.bipush (-2), 2) := by decide +kernel
theorem dX7_orders_48 : decode cX7_orders 48 = .ok (.ireturn, 1) := by decide +kernel
theorem dX7_orders_49 : decode cX7_orders 49 = .ok (.aload_n 0, 1) := by decide +kernel
theorem dX7_orders_50 : decode cX7_orders 50 = .ok (.getfield 13, 3) := by decide +kernel
theorem dX7_orders_53 : decode cX7_orders 53 = .ok (.iload_n 1, 1) := by decide +kernel
theorem dX7_orders_54 : decode cX7_orders 54 = .ok (.aaload, 1) := by decide +kernel
theorem dX7_orders_55 : decode cX7_orders 55 = .ok (.astore 6, 2) := by decide +kernel
theorem dX7_orders_57 : decode cX7_orders 57 = .ok (.aload 6, 2) := by decide +kernel
theorem dX7_orders_59 : decode cX7_orders 59 = .ok (.iload_n 2, 1) := by decide +kernel
theorem dX7_orders_60 : decode cX7_orders 60 = .ok (.iload_n 3, 1) := by decide +kernel
theorem dX7_orders_61 : decode cX7_orders 61 = .ok (.iconst 2, 1) := by decide +kernel
theorem dX7_orders_62 : decode cX7_orders 62 = .ok (.iload 4, 2) := by decide +kernel
theorem dX7_orders_64 : decode cX7_orders 64 = .ok (.imul, 1) := by decide +kernel
theorem dX7_orders_65 : decode cX7_orders 65 = .ok (.invokevirtual 64, 3) := by decide +kernel
theorem dX7_orders_68 : decode cX7_orders 68 = .ok (.istore 7, 2) := by decide +kernel
theorem dX7_orders_70 : decode cX7_orders 70 = .ok (.iload 7, 2) := by decide +kernel
theorem dX7_orders_72 : decode cX7_orders 72 = .ok (.ifCond .eq 10, 3) := by decide +kernel
theorem dX7_orders_75 : decode cX7_orders 75 = .ok (.aload_n 0, 1) := by decide +kernel
theorem dX7_orders_76 : decode cX7_orders 76 = .ok (.iload 7, 2) := by decide +kernel
theorem dX7_orders_78 : decode cX7_orders 78 = .ok (.invokevirtual 68, 3) := by decide +kernel
theorem dX7_orders_81 : decode cX7_orders 81 = .ok (.ireturn, 1) := by decide +kernel
theorem dX7_orders_82 : decode cX7_orders 82 = .ok (.aload_n 0, 1) := by decide +kernel
theorem dX7_orders_83 : decode cX7_orders 83 = .ok (.getfield 21, 3) := by decide +kernel
theorem dX7_orders_86 : decode cX7_orders 86 = .ok (.getfield 88, 3) := by decide +kernel
theorem dX7_orders_89 : decode cX7_orders 89 = .ok (.ifCond .ne 6, 3) := by decide +kernel
theorem dX7_orders_92 : decode cX7_orders 92 = .ok (.bipush (-3), 2) := by decide +kernel
theorem dX7_orders_94 : decode cX7_orders 94 = .ok (.ireturn, 1) := by decide +kernel
theorem dX7_orders_95 : decode cX7_orders 95 = .ok (.aload_n 0, 1) := by decide +kernel
theorem dX7_orders_96 : decode cX7_orders 96 = .ok (.getfield 49, 3) := by decide +kernel
theorem dX7_orders_99 : decode cX7_orders 99 = .ok (.aload_n 0, 1) := by decide +kernel
theorem dX7_orders_100 : decode cX7_orders 100 = .ok (.getfield 21, 3) := by decide +kernel
theorem dX7_orders_103 : decode cX7_orders 103 = .ok (.getfield 88, 3) := by decide +kernel
theorem dX7_orders_106 : decode cX7_orders 106 = .ok (.invokevirtual 170, 3) := by decide +kernel
theorem dX7_orders_109 : decode cX7_orders 109 = .ok (.iconst 0, 1) := by decide +kernel
theorem dX7_orders_110 : decode cX7_orders 110 = .ok (.istore 8, 2) := by decide +kernel
theorem dX7_orders_112 : decode cX7_orders 112 = .ok (.iload 8, 2) := by decide +kernel
theorem dX7_orders_114 : decode cX7_orders 114 = .ok (.iload 4, 2) := by decide +kernel
theorem dX7_orders_116 : decode cX7_orders 116 = .ok (.if_icmp .ge 76, 3) := by decide +kernel
theorem dX7_orders_119 : decode cX7_orders 119 = .ok (.aload 6, 2) := by decide +kernel
theorem dX7_orders_121 : decode cX7_orders 121 = .ok (.getfield 143, 3) := by decide +kernel
theorem dX7_orders_124 : decode cX7_orders 124 = .ok (.iload_n 3, 1) := by decide +kernel
theorem dX7_orders_125 : decode cX7_orders 125 = .ok (.iconst 2, 1) := by decide +kernel
theorem dX7_orders_126 : decode cX7_orders 126 = .ok (.iload 8, 2) := by decide +kernel
theorem dX7_orders_128 : decode cX7_orders 128 = .ok (.imul, 1) := by decide +kernel
theorem dX7_orders_129 : decode cX7_orders 129 = .ok (.iadd, 1) := by decide +kernel
theorem dX7_orders_130 : decode cX7_orders 130 = .ok (.iaload, 1) := by decide +kernel
theorem dX7_orders_131 : decode cX7_orders 131 = .ok (.istore 9, 2) := by decide +kernel
theorem dX7_orders_133 : decode cX7_orders 133 = .ok (.aload 6, 2) := by decide +kernel
theorem dX7_orders_135 : decode cX7_orders 135 = .ok (.getfield 143, 3) := by decide +kernel
theorem dX7_orders_138 : decode cX7_orders 138 = .ok (.iload_n 3, 1) := by decide +kernel
theorem dX7_orders_139 : decode cX7_orders 139 = .ok (.iconst 2, 1) := by decide +kernel
theorem dX7_orders_140 : decode cX7_orders 140 = .ok (.iload 8, 2) := by decide +kernel
theorem dX7_orders_142 : decode cX7_orders 142 = .ok (.imul, 1) := by decide +kernel
theorem dX7_orders_143 : decode cX7_orders 143 = .ok (.iadd, 1) := by decide +kernel
theorem dX7_orders_144 : decode cX7_orders 144 = .ok (.iconst 1, 1) := by decide +kernel
theorem dX7_orders_145 : decode cX7_orders 145 = .ok (.iadd, 1) := by decide +kernel
theorem dX7_orders_146 : decode cX7_orders 146 = .ok (.iaload, 1) := by decide +kernel
theorem dX7_orders_147 : decode cX7_orders 147 = .ok (.istore 10, 2) := by decide +kernel
theorem dX7_orders_149 : decode cX7_orders 149 = .ok (.aload_n 0, 1) := by decide +kernel
theorem dX7_orders_150 : decode cX7_orders 150 = .ok (.getfield 21, 3) := by decide +kernel
theorem dX7_orders_153 : decode cX7_orders 153 = .ok (.iload 9, 2) := by decide +kernel
theorem dX7_orders_155 : decode cX7_orders 155 = .ok (.invokevirtual 89, 3) := by decide +kernel
theorem dX7_orders_158 : decode cX7_orders 158 = .ok (.ifCond .eq 15, 3) := by decide +kernel
theorem dX7_orders_161 : decode cX7_orders 161 = .ok (.aload_n 0, 1) := by decide +kernel
theorem dX7_orders_162 : decode cX7_orders 162 = .ok (.getfield 21, 3) := by decide +kernel
theorem dX7_orders_165 : decode cX7_orders 165 = .ok (.iload 10, 2) := by decide +kernel
theorem dX7_orders_167 : decode cX7_orders 167 = .ok (.invokevirtual 89, 3) := by decide +kernel
theorem dX7_orders_170 : decode cX7_orders 170 = .ok (.ifCond .ne 5, 3) := by decide +kernel
theorem dX7_orders_173 : decode cX7_orders 173 = .ok (.iconst (-1), 1) := by decide +kernel
theorem dX7_orders_174 : decode cX7_orders 174 = .ok (.ireturn, 1) := by decide +kernel
theorem dX7_orders_175 : decode cX7_orders 175 = .ok (.aload_n 0, 1) := by decide +kernel
theorem dX7_orders_176 : decode cX7_orders 176 = .ok (.getfield 49, 3) := by decide +kernel
theorem dX7_orders_179 : decode cX7_orders 179 = .ok (.iload 9, 2) := by decide +kernel
theorem dX7_orders_181 : decode cX7_orders 181 = .ok (.iload 10, 2) := by decide +kernel
theorem dX7_orders_183 : decode cX7_orders 183 = .ok (.invokevirtual 174, 3) := by decide +kernel
theorem dX7_orders_186 : decode cX7_orders 186 = .ok (.iinc 8 1, 3) := by decide +kernel
theorem dX7_orders_189 : decode cX7_orders 189 = .ok (.goto (-77), 3) := by decide +kernel
theorem dX7_orders_192 : decode cX7_orders 192 = .ok (.iload 5, 2) := by decide +kernel
theorem dX7_orders_194 : decode cX7_orders 194 = .ok (.iconst (-1), 1) := by decide +kernel
theorem dX7_orders_195 : decode cX7_orders 195 = .ok (.if_icmp .ne 13, 3) := by decide +kernel
theorem dX7_orders_198 : decode cX7_orders 198 = .ok (.aload_n 0, 1) := by decide +kernel
theorem dX7_orders_199 : decode cX7_orders 199 = .ok (.getfield 49, 3) := by decide +kernel
theorem dX7_orders_202 : decode cX7_orders 202 = .ok (.invokevirtual 178, 3) := by decide +kernel
theorem dX7_orders_205 : decode cX7_orders 205 = .ok (.goto 12, 3) := by decide +kernel
