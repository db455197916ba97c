theorem dX8_init_0 : decode cX8_init 0 = .ok (.aload_n 0, 1) := by decide +kernel
theorem dX8_init_1 : decode cX8_init 1 = .ok (.invokespecial 1, 3) := by decide +kernel
theorem dX8_init_4 : decode cX8_init 4 = .ok (.aload_n 0, 1) := by decide +kernel
theorem dX8_init_5 : decode cX8_init 5 = .ok (.iconst 4, 1) := by decide +kernel
theorem dX8_init_6 : decode cX8_init 6 = .ok (.newarray .int, 2) := by decide +kernel
theorem dX8_init_8 : decode cX8_init 8 = .ok (.dup, 1) := by decide +kernel
theorem dX8_init_9 : decode cX8_init 9 = .ok (.iconst 0, 1) := by decide +kernel
theorem dX8_init_10 : decode cX8_init 10 = .ok (.bipush (-9), 2) := by decide +kernel
theorem dX8_init_12 : decode cX8_init 12 = .ok (.iastore, 1) := by decide +kernel
theorem dX8_init_13 : decode cX8_init 13 = .ok (.dup, 1) := by decide +kernel
theorem dX8_init_14 : decode cX8_init 14 = .ok (.iconst 1, 1) := by decide +kernel
theorem dX8_init_15 : decode cX8_init 15 = .ok (.bipush (-9), 2) := by decide +kernel
theorem dX8_init_17 : decode cX8_init 17 = .ok (.iastore, 1) := by decide +kernel
theorem dX8_init_18 : decode cX8_init 18 = .ok (.dup, 1) := by decide +kernel
theorem dX8_init_19 : decode cX8_init 19 = .ok (.iconst 2, 1) := by decide +kernel
theorem dX8_init_20 : decode cX8_init 20 = .ok (.bipush (-9), 2) := by decide +kernel
theorem dX8_init_22 : decode cX8_init 22 = .ok (.iastore, 1) := by decide +kernel
theorem dX8_init_23 : decode cX8_init 23 = .ok (.dup, 1) := by decide +kernel
theorem dX8_init_24 : decode cX8_init 24 = .ok (.iconst 3, 1) := by decide +kernel
theorem dX8_init_25 : decode cX8_init 25 = .ok (.bipush (-9), 2) := by decide +kernel
theorem dX8_init_27 : decode cX8_init 27 = .ok (.iastore, 1) := by decide +kernel
theorem dX8_init_28 : decode cX8_init 28 = .ok (.putfield 9, 3) := by decide +kernel
theorem dX8_init_31 : decode cX8_init 31 = .ok (.aload_n 0, 1) := by decide +kernel
theorem dX8_init_32 : decode cX8_init 32 = .ok (.iconst 4, 1) := by decide +kernel
theorem dX8_init_33 : decode cX8_init 33 = .ok (.newarray .int, 2) := by decide +kernel
theorem dX8_init_35 : decode cX8_init 35 = .ok (.putfield 13, 3) := by decide +kernel
theorem dX8_init_38 : decode cX8_init 38 = .ok (.aload_n 0, 1) := by decide +kernel
theorem dX8_init_39 : decode cX8_init 39 = .ok (.sipush 240, 3) := by decide +kernel
theorem dX8_init_42 : decode cX8_init 42 = .ok (.newarray .int, 2) := by decide +kernel
theorem dX8_init_44 : decode cX8_init 44 = .ok (.putfield 16, 3) := by decide +kernel
theorem dX8_init_47 : decode cX8_init 47 = .ok (.aload_n 0, 1) := by decide +kernel
theorem dX8_init_48 : decode cX8_init 48 = .ok (.bipush 7, 2) := by decide +kernel
theorem dX8_init_50 : decode cX8_init 50 = .ok (.newarray .int, 2) := by decide +kernel
theorem dX8_init_52 : decode cX8_init 52 = .ok (.putfield 19, 3) := by decide +kernel
theorem dX8_init_55 : decode cX8_init 55 = .ok (.aload_n 0, 1) := by decide +kernel
theorem dX8_init_56 : decode cX8_init 56 = .ok (.bipush 7, 2) := by decide +kernel
theorem dX8_init_58 : decode cX8_init 58 = .ok (.newarray .int, 2) := by decide +kernel
theorem dX8_init_60 : decode cX8_init 60 = .ok (.putfield 22, 3) := by decide +kernel
theorem dX8_init_63 : decode cX8_init 63 = .ok (.aload_n 0, 1) := by decide +kernel
theorem dX8_init_64 : decode cX8_init 64 = .ok (.bipush 7, 2) := by decide +kernel
theorem dX8_init_66 : decode cX8_init 66 = .ok (.newarray .int, 2) := by decide +kernel
theorem dX8_init_68 : decode cX8_init 68 = .ok (.putfield 25, 3) := by decide +kernel
theorem dX8_init_71 : decode cX8_init 71 = .ok (.aload_n 0, 1) := by decide +kernel
theorem dX8_init_72 : decode cX8_init 72 = .ok (.bipush 7, 2) := by decide +kernel
theorem dX8_init_74 : decode cX8_init 74 = .ok (.newarray .int, 2) := by decide +kernel
theorem dX8_init_76 : decode cX8_init 76 = .ok (.putfield 28, 3) := by decide +kernel
theorem dX8_init_79 : decode cX8_init 79 = .ok (.aload_n 0, 1) := by decide +kernel
theorem dX8_init_80 : decode cX8_init 80 = .ok (.bipush 28, 2) := by decide +kernel
theorem dX8_init_82 : decode cX8_init 82 = .ok (.newarray .int, 2) := by decide +kernel
theorem dX8_init_84 : decode cX8_init 84 = .ok (.putfield 31, 3) := by decide +kernel
theorem dX8_init_87 : decode cX8_init 87 = .ok (.aload_n 0, 1) := by decide +kernel
theorem dX8_init_88 : decode cX8_init 88 = .ok (.bipush 7, 2) := by decide +kernel
theorem dX8_init_90 : decode cX8_init 90 = .ok (.newarray .int, 2) := by decide +kernel
theorem dX8_init_92 : decode cX8_init 92 = .ok (.putfield 34, 3) := by decide +kernel
theorem dX8_init_95 : decode cX8_init 95 = .ok (.aload_n 0, 1) := by decide +kernel
theorem dX8_init_96 : decode cX8_init 96 = .ok (.bipush 7, 2) := by decide +kernel
theorem dX8_init_98 : decode cX8_init 98 = .ok (.newarray .int, 2) := by decide +kernel
theorem dX8_init_100 : decode cX8_init 100 = .ok (.putfield 37, 3) := by decide +kernel
theorem dX8_init_103 : decode cX8_init 103 = .ok (.aload_n 0, 1) := by decide +kernel
theorem dX8_init_104 : decode cX8_init 104 = .ok (.bipush 64, 2) := by decide +kernel
theorem dX8_init_106 : decode cX8_init 106 = .ok (.newarray .int, 2) := by decide +kernel
theorem dX8_init_108 : decode cX8_init 108 = .ok (.putfield 40, 3) := by decide +kernel
theorem dX8_init_111 : decode cX8_init 111 = .ok (.aload_n 0, 1) := by decide +kernel
theorem dX8_init_112 : decode cX8_init 112 = .ok (.bipush 64, 2) := by decide +kernel
theorem dX8_init_114 : decode cX8_init 114 = .ok (.newarray .int, 2) := by decide +kernel
theorem dX8_init_116 : decode cX8_init 116 = .ok (.putfield 43, 3) := by decide +kernel
theorem dX8_init_119 : decode cX8_init 119 = .ok (.aload_n 0, 1) := by decide +kernel
theorem dX8_init_120 : decode cX8_init 120 = .ok (.bipush 7, 2) := by decide +kernel
theorem dX8_init_122 : decode cX8_init 122 = .ok (.newarray .int, 2) := by decide +kernel
theorem dX8_init_124 : decode cX8_init 124 = .ok (.putfield 46, 3) := by decide +kernel
theorem dX8_init_127 : decode cX8_init 127 = .ok (.aload_n 0, 1) := by decide +kernel
theorem dX8_init_128 : decode cX8_init 128 = .ok (.bipush 7, 2) := by decide +kernel
theorem dX8_init_130 : decode cX8_init 130 = .ok (.newarray .int, 2) := by decide +kernel
theorem dX8_init_132 : decode cX8_init 132 = .ok (.putfield 49, 3) := by decide +kernel
theorem dX8_init_135 : decode cX8_init 135 = .ok (.aload_n 0, 1) := by decide +kernel
theorem dX8_init_136 : decode cX8_init 136 = .ok (.bipush 7, 2) := by decide +kernel
theorem dX8_init_138 : decode cX8_init 138 = .ok (.newarray .int, 2) := by decide +kernel
theorem dX8_init_140 : decode cX8_init 140 = .ok (.putfield 52, 3) := by decide +kernel
theorem dX8_init_143 : decode cX8_init 143 = .ok (.aload_n 0, 1) := by decide +kernel
theorem dX8_init_144 : decode cX8_init 144 = .ok (.bipush 8, 2) := by decide +kernel
theorem dX8_init_146 : decode cX8_init 146 = .ok (.newarray .int, 2) := by decide +kernel
theorem dX8_init_148 : decode cX8_init 148 = .ok (.putfield 55, 3) := by decide +kernel
theorem dX8_init_151 : decode cX8_init 151 = .ok (.aload_n 0, 1) := by decide +kernel
theorem dX8_init_152 : decode cX8_init 152 = .ok (.bipush 8, 2) := by decide +kernel
theorem dX8_init_154 : decode cX8_init 154 = .ok (.newarray .int, 2) := by decide +kernel
theorem dX8_init_156 : decode cX8_init 156 = .ok (.putfield 58, 3) := by decide +kernel
theorem dX8_init_159 : decode cX8_init 159 = .ok (.return_, 1) := by decide +kernel
theorem dX8_fails_0 : decode cX8_fails 0 = .ok (.aload_n 0, 1) := by decide +kernel
theorem dX8_fails_1 : decode cX8_fails 1 = .ok (.iload_n 1, 1) := by decide +kernel
theorem dX8_fails_2 : decode cX8_fails 2 = .ok (.putfield 61, 3) := by decide +kernel
theorem dX8_fails_5 : decode cX8_fails 5 = .ok (.bipush (-10), 2) := by decide +kernel
theorem dX8_fails_7 : decode cX8_fails 7 = .ok (.iload_n 1, 1) := by decide +kernel
theorem dX8_fails_8 : decode cX8_fails 8 = .ok (.isub, 1) := by decide +kernel
theorem dX8_fails_9 : decode cX8_fails 9 = .ok (.ireturn, 1) := by decide +kernel
theorem dX8_lost_0 : decode cX8_lost 0 = .ok (.aload_n 0, 1) := by decide +kernel
theorem dX8_lost_1 : decode cX8_lost 1 = .ok (.iload_n 1, 1) := by decide +kernel
theorem dX8_lost_2 : decode cX8_lost 2 = .ok (.putfield 61, 3) := by decide +kernel
theorem dX8_lost_5 : decode cX8_lost 5 = .ok (.ldc2_w 65, 3) := by decide +kernel
theorem dX8_lost_8 : decode cX8_lost 8 = .ok (.lreturn, 1) := by decide +kernel
theorem dX8_within_0 : decode cX8_within 0 = .ok (.iload_n 0, 1) := by decide +kernel
theorem dX8_within_1 : decode cX8_within 1 = .ok (.iload_n 1, 1) := by decide +kernel
theorem dX8_within_2 : decode cX8_within 2 = .ok (.if_icmp .lt 12, 3) := by decide +kernel
theorem dX8_within_5 : decode cX8_within 5 = .ok (.iload_n 0, 1) := by decide +kernel
theorem dX8_within_6 : decode cX8_within 6 = .ok (.iload_n 2, 1) := by decide +kernel
theorem dX8_within_7 : decode cX8_within 7 = .ok (.if_icmp .gt 7, 3) := by decide +kernel
theorem dX8_within_10 : decode cX8_within 10 = .ok (.iconst 1, 1) := by decide +kernel
theorem dX8_within_11 : decode cX8_within 11 = .ok (.goto 4, 3) := by decide +kernel
theorem dX8_within_14 : decode cX8_within 14 = .ok (.iconst 0, 1) := by decide +kernel
theorem dX8_within_15 : decode cX8_within 15 = .ok (.ireturn, 1) := by decide +kernel
set_option maxRecDepth 20000 in
theorem ggX8_isSheet_X8_within : GoodIn wsX8_isSheet wsX8_within := goodIn_r _ [4] (by decide +kernel) (by decide +kernel)
set_option maxRecDepth 20000 in
theorem gX8_isSheet_X8_within : GoodIn wsX8_isSheet (va_wsS RX8 67 yX8_within wsX8_within) := goodIn_app (goodIn_of _ (by decide +kernel)) ggX8_isSheet_X8_within
theorem dX8_isSheet_0 : decode cX8_isSheet 0 = .ok (.iload_n 0, 1) := by decide +kernel
theorem dX8_isSheet_1 : decode cX8_isSheet 1 = .ok (.iconst 0, 1) := by decide +kernel
theorem dX8_isSheet_2 : decode cX8_isSheet 2 = .ok (.iconst 3, 1) := by decide +kernel
theorem dX8_isSheet_3 : decode cX8_isSheet 3 = .ok (.invokestatic 67, 3) := by decide +kernel
theorem dX8_isSheet_6 : decode cX8_isSheet 6 = .ok (.ireturn, 1) := by decide +kernel
set_option maxRecDepth 20000 in
theorem ggX8_isSort_X8_within : GoodIn wsX8_isSort wsX8_within := goodIn_r _ [4] (by decide +kernel) (by decide +kernel)
set_option maxRecDepth 20000 in
theorem gX8_isSort_X8_within : GoodIn wsX8_isSort (va_wsS RX8 67 yX8_within wsX8_within) := goodIn_app (goodIn_of _ (by decide +kernel)) ggX8_isSort_X8_within
theorem dX8_isSort_0 : decode cX8_isSort 0 = .ok (.iload_n 0, 1) := by decide +kernel
theorem dX8_isSort_1 : decode cX8_isSort 1 = .ok (.iconst 0, 1) := by decide +kernel
theorem dX8_isSort_2 : decode cX8_isSort 2 = .ok (.iconst 2, 1) := by decide +kernel
theorem dX8_isSort_3 : decode cX8_isSort 3 = .ok (.invokestatic 67, 3) := by decide +kernel
theorem dX8_isSort_6 : decode cX8_isSort 6 = .ok (.ireturn, 1) := by decide +kernel
theorem dX8_against_0 : decode cX8_against 0 = .ok (.aload_n 0, 1) := by decide +kernel
theorem dX8_against_1 : decode cX8_against 1 = .ok (.getfield 9, 3) := by decide +kernel
theorem dX8_against_4 : decode cX8_against 4 = .ok (.iload_n 1, 1) := by decide +kernel
theorem dX8_against_5 : decode cX8_against 5 = .ok (.iaload, 1) := by decide +kernel
theorem dX8_against_6 : decode cX8_against 6 = .ok (.bipush (-9), 2) := by decide +kernel
theorem dX8_against_8 : decode cX8_against 8 = .ok (.if_icmp .eq 15, 3) := by decide +kernel
theorem dX8_against_11 : decode cX8_against 11 = .ok (.aload_n 0, 1) := by decide +kernel
theorem dX8_against_12 : decode cX8_against 12 = .ok (.getfield 9, 3) := by decide +kernel
theorem dX8_against_15 : decode cX8_against 15 = .ok (.iload_n 1, 1) := by decide +kernel
theorem dX8_against_16 : decode cX8_against 16 = .ok (.iaload, 1) := by decide +kernel
theorem dX8_against_17 : decode cX8_against 17 = .ok (.iload_n 2, 1) := by decide +kernel
theorem dX8_against_18 : decode cX8_against 18 = .ok (.if_icmp .eq 5, 3) := by decide +kernel
theorem dX8_against_21 : decode cX8_against 21 = .ok (.iconst 2, 1) := by decide +kernel
theorem dX8_against_22 : decode cX8_against 22 = .ok (.ireturn, 1) := by decide +kernel
theorem dX8_against_23 : decode cX8_against 23 = .ok (.aload_n 0, 1) := by decide +kernel
theorem dX8_against_24 : decode cX8_against 24 = .ok (.getfield 9, 3) := by decide +kernel
theorem dX8_against_27 : decode cX8_against 27 = .ok (.iload_n 1, 1) := by decide +kernel
theorem dX8_against_28 : decode cX8_against 28 = .ok (.iaload, 1) := by decide +kernel
theorem dX8_against_29 : decode cX8_against 29 = .ok (.bipush (-9), 2) := by decide +kernel
theorem dX8_against_31 : decode cX8_against 31 = .ok (.if_icmp .ne 5, 3) := by decide +kernel
theorem dX8_against_34 : decode cX8_against 34 = .ok (.iconst 1, 1) := by decide +kernel
theorem dX8_against_35 : decode cX8_against 35 = .ok (.ireturn, 1) := by decide +kernel
theorem dX8_against_36 : decode cX8_against 36 = .ok (.iload 4, 2) := by decide +kernel
theorem dX8_against_38 : decode cX8_against 38 = .ok (.ifCond .ge 5, 3) := by decide +kernel
theorem dX8_against_41 : decode cX8_against 41 = .ok (.iconst 4, 1) := by decide +kernel
theorem dX8_against_42 : decode cX8_against 42 = .ok (.ireturn, 1) := by decide +kernel
theorem dX8_against_43 : decode cX8_against 43 = .ok (.iload_n 3, 1) := by decide +kernel
theorem dX8_against_44 : decode cX8_against 44 = .ok (.ifCond .lt 26, 3) := by decide +kernel
theorem dX8_against_47 : decode cX8_against 47 = .ok (.iload_n 3, 1) := by decide +kernel
theorem dX8_against_48 : decode cX8_against 48 = .ok (.aload_n 0, 1) := by decide +kernel
theorem dX8_against_49 : decode cX8_against 49 = .ok (.getfield 13, 3) := by decide +kernel
theorem dX8_against_52 : decode cX8_against 52 = .ok (.iload_n 1, 1) := by decide +kernel
theorem dX8_against_53 : decode cX8_against 53 = .ok (.iaload, 1) := by decide +kernel
theorem dX8_against_54 : decode cX8_against 54 = .ok (.if_icmp .gt 16, 3) := by decide +kernel
theorem dX8_against_57 : decode cX8_against 57 = .ok (.iload 4, 2) := by decide +kernel
theorem dX8_against_59 : decode cX8_against 59 = .ok (.aload_n 0, 1) := by decide +kernel
theorem dX8_against_60 : decode cX8_against 60 = .ok (.getfield 13, 3) := by decide +kernel
theorem dX8_against_63 : decode cX8_against 63 = .ok (.iload_n 1, 1) := by decide +kernel
theorem dX8_against_64 : decode cX8_against 64 = .ok (.iaload, 1) := by decide +kernel
theorem dX8_against_65 : decode cX8_against 65 = .ok (.iload_n 3, 1) := by decide +kernel
theorem dX8_against_66 : decode cX8_against 66 = .ok (.isub, 1) := by decide +kernel
theorem dX8_against_67 : decode cX8_against 67 = .ok (.if_icmp .le 7, 3) := by decide +kernel
theorem dX8_against_70 : decode cX8_against 70 = .ok (.iconst 3, 1) := by decide +kernel
theorem dX8_against_71 : decode cX8_against 71 = .ok (.goto 4, 3) := by decide +kernel
theorem dX8_against_74 : decode cX8_against 74 = .ok (.iconst 0, 1) := by decide +kernel
theorem dX8_against_75 : decode cX8_against 75 = .ok (.ireturn, 1) := by decide +kernel
theorem dX8_isSlip_0 : decode cX8_isSlip 0 = .ok (.iload_n 1, 1) := by decide +kernel
theorem dX8_isSlip_1 : decode cX8_isSlip 1 = .ok (.ifCond .lt 15, 3) := by decide +kernel
theorem dX8_isSlip_4 : decode cX8_isSlip 4 = .ok (.iload_n 1, 1) := by decide +kernel
theorem dX8_isSlip_5 : decode cX8_isSlip 5 = .ok (.aload_n 0, 1) := by decide +kernel
theorem dX8_isSlip_6 : decode cX8_isSlip 6 = .ok (.getfield 71, 3) := by decide +kernel
theorem dX8_isSlip_9 : decode cX8_isSlip 9 = .ok (.if_icmp .ge 7, 3) := by decide +kernel
theorem dX8_isSlip_12 : decode cX8_isSlip 12 = .ok (.iconst 1, 1) := by decide +kernel
theorem dX8_isSlip_13 : decode cX8_isSlip 13 = .ok (.goto 4, 3) := by decide +kernel
theorem dX8_isSlip_16 : decode cX8_isSlip 16 = .ok (.iconst 0, 1) := by decide +kernel
theorem dX8_isSlip_17 : decode cX8_isSlip 17 = .ok (.ireturn, 1) := by decide +kernel
theorem dX8_isOf_0 : decode cX8_isOf 0 = .ok (.iload_n 0, 1) := by decide +kernel
theorem dX8_isOf_1 : decode cX8_isOf 1 = .ok (.iload_n 1, 1) := by decide +kernel
theorem dX8_isOf_2 : decode cX8_isOf 2 = .ok (.ishr, 1) := by decide +kernel
theorem dX8_isOf_3 : decode cX8_isOf 3 = .ok (.iconst 1, 1) := by decide +kernel
theorem dX8_isOf_4 : decode cX8_isOf 4 = .ok (.iand, 1) := by decide +kernel
theorem dX8_isOf_5 : decode cX8_isOf 5 = .ok (.iconst 1, 1) := by decide +kernel
theorem dX8_isOf_6 : decode cX8_isOf 6 = .ok (.if_icmp .ne 7, 3) := by decide +kernel
theorem dX8_isOf_9 : decode cX8_isOf 9 = .ok (.iconst 1, 1) := by decide +kernel
theorem dX8_isOf_10 : decode cX8_isOf 10 = .ok (.goto 4, 3) := by decide +kernel
theorem dX8_isOf_13 : decode cX8_isOf 13 = .ok (.iconst 0, 1) := by decide +kernel
theorem dX8_isOf_14 : decode cX8_isOf 14 = .ok (.ireturn, 1) := by decide +kernel
theorem dX8_size_0 : decode cX8_size 0 = .ok (.iconst 0, 1) := by decide +kernel
theorem dX8_size_1 : decode cX8_size 1 = .ok (.istore_n 1, 1) := by decide +kernel
theorem dX8_size_2 : decode cX8_size 2 = .ok (.iload_n 0, 1) := by decide +kernel
theorem dX8_size_3 : decode cX8_size 3 = .ok (.istore_n 2, 1) := by decide +kernel
theorem dX8_size_4 : decode cX8_size 4 = .ok (.iload_n 2, 1) := by decide +kernel
theorem dX8_size_5 : decode cX8_size 5 = .ok (.ifCond .le 16, 3) := by decide +kernel
theorem dX8_size_8 : decode cX8_size 8 = .ok (.iload_n 1, 1) := by decide +kernel
theorem dX8_size_9 : decode cX8_size 9 = .ok (.iload_n 2, 1) := by decide +kernel
theorem dX8_size_10 : decode cX8_size 10 = .ok (.iconst 1, 1) := by decide +kernel
theorem dX8_size_11 : decode cX8_size 11 = .ok (.iand, 1) := by decide +kernel
theorem dX8_size_12 : decode cX8_size 12 = .ok (.iadd, 1) := by decide +kernel
theorem dX8_size_13 : decode cX8_size 13 = .ok (.istore_n 1, 1) := by decide +kernel
theorem dX8_size_14 : decode cX8_size 14 = .ok (.iload_n 2, 1) := by decide +kernel
theorem dX8_size_15 : decode cX8_size 15 = .ok (.iconst 1, 1) := by decide +kernel
theorem dX8_size_16 : decode cX8_size 16 = .ok (.ishr, 1) := by decide +kernel
theorem dX8_size_17 : decode cX8_size 17 = .ok (.istore_n 2, 1) := by decide +kernel
theorem dX8_size_18 : decode cX8_size 18 = .ok (.goto (-14), 3) := by decide +kernel
theorem dX8_size_21 : decode cX8_size 21 = .ok (.iload_n 1, 1) := by decide +kernel
theorem dX8_size_22 : decode cX8_size 22 = .ok (.ireturn, 1) := by decide +kernel
set_option maxRecDepth 20000 in
theorem ggX8_digit_X8_within : GoodIn wsX8_digit wsX8_within := goodIn_r _ [6] (by decide +kernel) (by decide +kernel)
set_option maxRecDepth 20000 in
theorem gX8_digit_X8_within : GoodIn wsX8_digit (va_wsS RX8 67 yX8_within wsX8_within) := goodIn_app (goodIn_of _ (by decide +kernel)) ggX8_digit_X8_within
theorem dX8_digit_0 : decode cX8_digit 0 = .ok (.aload_n 0, 1) := by decide +kernel
theorem dX8_digit_1 : decode cX8_digit 1 = .ok (.getfield 74, 3) := by decide +kernel
theorem dX8_digit_4 : decode cX8_digit 4 = .ok (.iload_n 1, 1) := by decide +kernel
theorem dX8_digit_5 : decode cX8_digit 5 = .ok (.if_icmp .ge 24, 3) := by decide +kernel
theorem dX8_digit_8 : decode cX8_digit 8 = .ok (.aload_n 0, 1) := by decide +kernel
theorem dX8_digit_9 : decode cX8_digit 9 = .ok (.getfield 16, 3) := by decide +kernel
theorem dX8_digit_12 : decode cX8_digit 12 = .ok (.aload_n 0, 1) := by decide +kernel
theorem dX8_digit_13 : decode cX8_digit 13 = .ok (.getfield 74, 3) := by decide +kernel
theorem dX8_digit_16 : decode cX8_digit 16 = .ok (.iaload, 1) := by decide +kernel
theorem dX8_digit_17 : decode cX8_digit 17 = .ok (.bipush 48, 2) := by decide +kernel
theorem dX8_digit_19 : decode cX8_digit 19 = .ok (.bipush 48, 2) := by decide +kernel
theorem dX8_digit_21 : decode cX8_digit 21 = .ok (.iload_n 2, 1) := by decide +kernel
theorem dX8_digit_22 : decode cX8_digit 22 = .ok (.iadd, 1) := by decide +kernel
theorem dX8_digit_23 : decode cX8_digit 23 = .ok (.invokestatic 67, 3) := by decide +kernel
theorem dX8_digit_26 : decode cX8_digit 26 = .ok (.ifCond .ne 6, 3) := by decide +kernel
theorem dX8_digit_29 : decode cX8_digit 29 = .ok (.bipush (-9), 2) := by decide +kernel
theorem dX8_digit_31 : decode cX8_digit 31 = .ok (.ireturn, 1) := by decide +kernel
theorem dX8_digit_32 : decode cX8_digit 32 = .ok (.aload_n 0, 1) := by decide +kernel
theorem dX8_digit_33 : decode cX8_digit 33 = .ok (.dup, 1) := by decide +kernel
theorem dX8_digit_34 : decode cX8_digit 34 = .ok (.getfield 74, 3) := by decide +kernel
theorem dX8_digit_37 : decode cX8_digit 37 = .ok (.iconst 1, 1) := by decide +kernel
theorem dX8_digit_38 : decode cX8_digit 38 = .ok (.iadd, 1) := by decide +kernel
theorem dX8_digit_39 : decode cX8_digit 39 = .ok (.putfield 74, 3) := by decide +kernel
theorem dX8_digit_42 : decode cX8_digit 42 = .ok (.aload_n 0, 1) := by decide +kernel
theorem dX8_digit_43 : decode cX8_digit 43 = .ok (.getfield 16, 3) := by decide +kernel
theorem dX8_digit_46 : decode cX8_digit 46 = .ok (.aload_n 0, 1) := by decide +kernel
theorem dX8_digit_47 : decode cX8_digit 47 = .ok (.getfield 74, 3) := by decide +kernel
theorem dX8_digit_50 : decode cX8_digit 50 = .ok (.iconst 1, 1) := by decide +kernel
theorem dX8_digit_51 : decode cX8_digit 51 = .ok (.isub, 1) := by decide +kernel
theorem dX8_digit_52 : decode cX8_digit 52 = .ok (.iaload, 1) := by decide +kernel
theorem dX8_digit_53 : decode cX8_digit 53 = .ok (.bipush 48, 2) := by decide +kernel
theorem dX8_digit_55 : decode cX8_digit 55 = .ok (.isub, 1) := by decide +kernel
theorem dX8_digit_56 : decode cX8_digit 56 = .ok (.ireturn, 1) := by decide +kernel
theorem dX8_isSign_0 : decode cX8_isSign 0 = .ok (.aload_n 0, 1) := by decide +kernel
theorem dX8_isSign_1 : decode cX8_isSign 1 = .ok (.getfield 74, 3) := by decide +kernel
theorem dX8_isSign_4 : decode cX8_isSign 4 = .ok (.iload_n 1, 1) := by decide +kernel
theorem dX8_isSign_5 : decode cX8_isSign 5 = .ok (.if_icmp .ge 16, 3) := by decide +kernel
theorem dX8_isSign_8 : decode cX8_isSign 8 = .ok (.aload_n 0, 1) := by decide +kernel
theorem dX8_isSign_9 : decode cX8_isSign 9 = .ok (.getfield 16, 3) := by decide +kernel
theorem dX8_isSign_12 : decode cX8_isSign 12 = .ok (.aload_n 0, 1) := by decide +kernel
theorem dX8_isSign_13 : decode cX8_isSign 13 = .ok (.getfield 74, 3) := by decide +kernel
theorem dX8_isSign_16 : decode cX8_isSign 16 = .ok (.iaload, 1) := by decide +kernel
theorem dX8_isSign_17 : decode cX8_isSign 17 = .ok (.iload_n 2, 1) := by decide +kernel
theorem dX8_isSign_18 : decode cX8_isSign 18 = .ok (.if_icmp .eq 5, 3) := by decide +kernel
theorem dX8_isSign_21 : decode cX8_isSign 21 = .ok (.iconst 0, 1) := by decide +kernel
theorem dX8_isSign_22 : decode cX8_isSign 22 = .ok (.ireturn, 1) := by decide +kernel
theorem dX8_isSign_23 : decode cX8_isSign 23 = .ok (.aload_n 0, 1) := by decide +kernel
theorem dX8_isSign_24 : decode cX8_isSign 24 = .ok (.dup, 1) := by decide +kernel
theorem dX8_isSign_25 : decode cX8_isSign 25 = .ok (.getfield 74, 3) := by decide +kernel
theorem dX8_isSign_28 : decode cX8_isSign 28 = .ok (.iconst 1, 1) := by decide +kernel
theorem dX8_isSign_29 : decode cX8_isSign 29 = .ok (.iadd, 1) := by decide +kernel
theorem dX8_isSign_30 : decode cX8_isSign 30 = .ok (.putfield 74, 3) := by decide +kernel
theorem dX8_isSign_33 : decode cX8_isSign 33 = .ok (.iconst 1, 1) := by decide +kernel
theorem dX8_isSign_34 : decode cX8_isSign 34 = .ok (.ireturn, 1) := by decide +kernel
set_option maxRecDepth 20000 in
theorem ggX8_book_X8_isSheet : GoodIn wsX8_book wsX8_isSheet := goodIn_r _ [7, 8, 9, 6, 10] (by decide +kernel) (by decide +kernel)
set_option maxRecDepth 20000 in
theorem gX8_book_X8_isSheet : GoodIn wsX8_book (va_wsS RX8 77 yX8_isSheet wsX8_isSheet) := goodIn_app (goodIn_of _ (by decide +kernel)) ggX8_book_X8_isSheet
set_option maxRecDepth 20000 in
theorem ggX8_book_X8_isSort : GoodIn wsX8_book wsX8_isSort := goodIn_r _ [13, 8, 9, 6, 10] (by decide +kernel) (by decide +kernel)
set_option maxRecDepth 20000 in
theorem gX8_book_X8_isSort : GoodIn wsX8_book (va_wsS RX8 81 yX8_isSort wsX8_isSort) := goodIn_app (goodIn_of _ (by decide +kernel)) ggX8_book_X8_isSort
set_option maxRecDepth 20000 in
theorem ggX8_book_X8_against : GoodIn wsX8_book wsX8_against := goodIn_r _ [17, 18, 19, 54, 55, 56, 57, 58, 59, 60, 61, 62, 63, 64, 65, 66, 67, 68, 69, 70, 71, 72, 73, 74, 75, 76, 77, 78, 79, 80, 81, 82, 83] (by decide +kernel) (by decide +kernel)
set_option maxRecDepth 20000 in
theorem gX8_book_X8_against : GoodIn wsX8_book (wsV RX8 84 RX8 yX8_against wsX8_against) := goodIn_app (goodIn_of _ (by decide +kernel)) ggX8_book_X8_against
set_option maxRecDepth 20000 in
theorem ggX8_book_X8_fails : GoodIn wsX8_book wsX8_fails := goodIn_r _ [23, 1, 54, 55, 56, 57, 58, 59, 60, 61, 62, 63, 64, 65, 66, 67, 68, 69, 70, 71, 72, 73, 74, 75, 76, 77, 78, 79, 80, 81, 82, 83] (by decide +kernel) (by decide +kernel)
set_option maxRecDepth 20000 in
theorem gX8_book_X8_fails : GoodIn wsX8_book (wsV RX8 88 RX8 yX8_fails wsX8_fails) := goodIn_app (goodIn_of _ (by decide +kernel)) ggX8_book_X8_fails
set_option maxRecDepth 20000 in
theorem ggX8_book_X8_readBook : GoodIn wsX8_book wsX8_readBook := goodIn_r _ [27, 28, 2, 29, 30, 31, 6, 32, 33, 34, 35, 36, 37, 38, 39, 40, 41, 42, 8, 9, 10, 54, 55, 56, 57, 58, 59, 60, 61, 62, 63, 64, 65, 66, 67, 68, 69, 70, 71, 72, 73, 74, 75, 76, 77, 78, 79, 80, 81, 82, 83] (by decide +kernel) (by decide +kernel)
set_option maxRecDepth 20000 in
theorem gX8_book_X8_readBook : GoodIn wsX8_book (wsV RX8 92 RX8 yX8_readBook wsX8_readBook) := goodIn_app (goodIn_of _ (by decide +kernel)) ggX8_book_X8_readBook
set_option maxRecDepth 20000 in
theorem ggX8_book_X8_takeBook : GoodIn wsX8_book wsX8_takeBook := goodIn_r _ [46, 28, 3, 47, 38, 48, 49, 50, 51, 52, 53, 54, 55, 56, 57, 58, 59, 60, 61, 62, 63, 64, 65, 66, 67, 68, 69, 70, 71, 72, 73, 74, 75, 76, 77, 78, 79, 80, 81, 82, 83] (by decide +kernel) (by decide +kernel)
set_option maxRecDepth 20000 in
theorem gX8_book_X8_takeBook : GoodIn wsX8_book (wsV RX8 95 RX8 yX8_takeBook wsX8_takeBook) := goodIn_app (goodIn_of _ (by decide +kernel)) ggX8_book_X8_takeBook
theorem dX8_book_0 : decode cX8_book 0 = .ok (.aload_n 0, 1) := by decide +kernel
theorem dX8_book_1 : decode cX8_book 1 = .ok (.iconst 0, 1) := by decide +kernel
theorem dX8_book_2 : decode cX8_book 2 = .ok (.putfield 61, 3) := by decide +kernel
theorem dX8_book_5 : decode cX8_book 5 = .ok (.iload_n 1, 1) := by decide +kernel
theorem dX8_book_6 : decode cX8_book 6 = .ok (.invokestatic 77, 3) := by decide +kernel
theorem dX8_book_9 : decode cX8_book 9 = .ok (.ifCond .ne 5, 3) := by decide +kernel
theorem dX8_book_12 : decode cX8_book 12 = .ok (.iconst (-1), 1) := by decide +kernel
theorem dX8_book_13 : decode cX8_book 13 = .ok (.ireturn, 1) := by decide +kernel
theorem dX8_book_14 : decode cX8_book 14 = .ok (.iload_n 2, 1) := by decide +kernel
theorem dX8_book_15 : decode cX8_book 15 = .ok (.invokestatic 81, 3) := by decide +kernel
theorem dX8_book_18 : decode cX8_book 18 = .ok (.ifCond .ne 6, 3) := by decide +kernel
theorem dX8_book_21 : decode cX8_book 21 = .ok (.bipush (-2), 2) := by decide +kernel
theorem dX8_book_23 : decode cX8_book 23 = .ok (.ireturn, 1) := by decide +kernel
theorem dX8_book_24 : decode cX8_book 24 = .ok (.aload_n 0, 1) := by decide +kernel
theorem dX8_book_25 : decode cX8_book 25 = .ok (.iload_n 1, 1) := by decide +kernel
theorem dX8_book_26 : decode cX8_book 26 = .ok (.iload_n 2, 1) := by decide +kernel
theorem dX8_book_27 : decode cX8_book 27 = .ok (.iload_n 3, 1) := by decide +kernel
theorem dX8_book_28 : decode cX8_book 28 = .ok (.iload 4, 2) := by decide +kernel
theorem dX8_book_30 : decode cX8_book 30 = .ok (.invokevirtual 84, 3) := by decide +kernel
theorem dX8_book_33 : decode cX8_book 33 = .ok (.istore 5, 2) := by decide +kernel
theorem dX8_book_35 : decode cX8_book 35 = .ok (.iload 5, 2) := by decide +kernel
theorem dX8_book_37 : decode cX8_book 37 = .ok (.ifCond .eq 10, 3) := by decide +kernel
theorem dX8_book_40 : decode cX8_book 40 = .ok (.aload_n 0, 1) := by decide +kernel
theorem dX8_book_41 : decode cX8_book 41 = .ok (.iload 5, 2) := by decide +kernel
theorem dX8_book_43 : decode cX8_book 43 = .ok (.invokevirtual 88, 3) := by decide +kernel
theorem dX8_book_46 : decode cX8_book 46 = .ok (.ireturn, 1) := by decide +kernel
theorem dX8_book_47 : decode cX8_book 47 = .ok (.bipush 60, 2) := by decide +kernel
theorem dX8_book_49 : decode cX8_book 49 = .ok (.iload_n 1, 1) := by decide +kernel
theorem dX8_book_50 : decode cX8_book 50 = .ok (.imul, 1) := by decide +kernel
theorem dX8_book_51 : decode cX8_book 51 = .ok (.iload_n 3, 1) := by decide +kernel
theorem dX8_book_52 : decode cX8_book 52 = .ok (.iadd, 1) := by decide +kernel
theorem dX8_book_53 : decode cX8_book 53 = .ok (.istore 6, 2) := by decide +kernel
theorem dX8_book_55 : decode cX8_book 55 = .ok (.aload_n 0, 1) := by decide +kernel
theorem dX8_book_56 : decode cX8_book 56 = .ok (.iload 6, 2) := by decide +kernel
theorem dX8_book_58 : decode cX8_book 58 = .ok (.putfield 74, 3) := by decide +kernel
theorem dX8_book_61 : decode cX8_book 61 = .ok (.aload_n 0, 1) := by decide +kernel
theorem dX8_book_62 : decode cX8_book 62 = .ok (.iload 6, 2) := by decide +kernel
theorem dX8_book_64 : decode cX8_book 64 = .ok (.iload 4, 2) := by decide +kernel
theorem dX8_book_66 : decode cX8_book 66 = .ok (.iadd, 1) := by decide +kernel
theorem dX8_book_67 : decode cX8_book 67 = .ok (.invokevirtual 92, 3) := by decide +kernel
theorem dX8_book_70 : decode cX8_book 70 = .ok (.ifCond .ne 14, 3) := by decide +kernel
theorem dX8_book_73 : decode cX8_book 73 = .ok (.bipush (-100), 2) := by decide +kernel
theorem dX8_book_75 : decode cX8_book 75 = .ok (.aload_n 0, 1) := by decide +kernel
theorem dX8_book_76 : decode cX8_book 76 = .ok (.getfield 74, 3) := by decide +kernel
theorem dX8_book_79 : decode cX8_book 79 = .ok (.iload 6, 2) := by decide +kernel
theorem dX8_book_81 : decode cX8_book 81 = .ok (.isub, 1) := by decide +kernel
theorem dX8_book_82 : decode cX8_book 82 = .ok (.isub, 1) := by decide +kernel
theorem dX8_book_83 : decode cX8_book 83 = .ok (.ireturn, 1) := by decide +kernel
theorem dX8_book_84 : decode cX8_book 84 = .ok (.aload_n 0, 1) := by decide +kernel
theorem dX8_book_85 : decode cX8_book 85 = .ok (.invokevirtual 95, 3) := by decide +kernel
theorem dX8_book_88 : decode cX8_book 88 = .ok (.aload_n 0, 1) := by decide +kernel
theorem dX8_book_89 : decode cX8_book 89 = .ok (.getfield 71, 3) := by decide +kernel
theorem dX8_book_92 : decode cX8_book 92 = .ok (.ireturn, 1) := by decide +kernel
theorem dX8_takeBook_0 : decode cX8_takeBook 0 = .ok (.aload_n 0, 1) := by decide +kernel
theorem dX8_takeBook_1 : decode cX8_takeBook 1 = .ok (.aload_n 0, 1) := by decide +kernel
theorem dX8_takeBook_2 : decode cX8_takeBook 2 = .ok (.getfield 98, 3) := by decide +kernel
theorem dX8_takeBook_5 : decode cX8_takeBook 5 = .ok (.putfield 71, 3) := by decide +kernel
theorem dX8_takeBook_8 : decode cX8_takeBook 8 = .ok (.iconst 0, 1) := by decide +kernel
theorem dX8_takeBook_9 : decode cX8_takeBook 9 = .ok (.istore_n 1, 1) := by decide +kernel
theorem dX8_takeBook_10 : decode cX8_takeBook 10 = .ok (.iload_n 1, 1) := by decide +kernel
theorem dX8_takeBook_11 : decode cX8_takeBook 11 = .ok (.aload_n 0, 1) := by decide +kernel
theorem dX8_takeBook_12 : decode cX8_takeBook 12 = .ok (.getfield 71, 3) := by decide +kernel
theorem dX8_takeBook_15 : decode cX8_takeBook 15 = .ok (.if_icmp .ge 93, 3) := by decide +kernel
theorem dX8_takeBook_18 : decode cX8_takeBook 18 = .ok (.aload_n 0, 1) := by decide +kernel
theorem dX8_takeBook_19 : decode cX8_takeBook 19 = .ok (.getfield 19, 3) := by decide +kernel
theorem dX8_takeBook_22 : decode cX8_takeBook 22 = .ok (.iload_n 1, 1) := by decide +kernel
theorem dX8_takeBook_23 : decode cX8_takeBook 23 = .ok (.aload_n 0, 1) := by decide +kernel
theorem dX8_takeBook_24 : decode cX8_takeBook 24 = .ok (.getfield 31, 3) := by decide +kernel
theorem dX8_takeBook_27 : decode cX8_takeBook 27 = .ok (.iconst 4, 1) := by decide +kernel
theorem dX8_takeBook_28 : decode cX8_takeBook 28 = .ok (.iload_n 1, 1) := by decide +kernel
theorem dX8_takeBook_29 : decode cX8_takeBook 29 = .ok (.imul, 1) := by decide +kernel
theorem dX8_takeBook_30 : decode cX8_takeBook 30 = .ok (.iaload, 1) := by decide +kernel
theorem dX8_takeBook_31 : decode cX8_takeBook 31 = .ok (.iastore, 1) := by decide +kernel
theorem dX8_takeBook_32 : decode cX8_takeBook 32 = .ok (.aload_n 0, 1) := by decide +kernel
theorem dX8_takeBook_33 : decode cX8_takeBook 33 = .ok (.getfield 22, 3) := by decide +kernel
theorem dX8_takeBook_36 : decode cX8_takeBook 36 = .ok (.iload_n 1, 1) := by decide +kernel
theorem dX8_takeBook_37 : decode cX8_takeBook 37 = .ok (.aload_n 0, 1) := by decide +kernel
theorem dX8_takeBook_38 : decode cX8_takeBook 38 = .ok (.getfield 31, 3) := by decide +kernel
theorem dX8_takeBook_41 : decode cX8_takeBook 41 = .ok (.iconst 4, 1) := by decide +kernel
theorem dX8_takeBook_42 : decode cX8_takeBook 42 = .ok (.iload_n 1, 1) := by decide +kernel
theorem dX8_takeBook_43 : decode cX8_takeBook 43 = .ok (.imul, 1) := by decide +kernel
theorem dX8_takeBook_44 : decode cX8_takeBook 44 = .ok (.iconst 1, 1) := by decide +kernel
theorem dX8_takeBook_45 : decode cX8_takeBook 45 = .ok (.iadd, 1) := by decide +kernel
theorem dX8_takeBook_46 : decode cX8_takeBook 46 = .ok (.iaload, 1) := by decide +kernel
theorem dX8_takeBook_47 : decode cX8_takeBook 47 = .ok (.iastore, 1) := by decide +kernel
theorem dX8_takeBook_48 : decode cX8_takeBook 48 = .ok (.aload_n 0, 1) := by decide +kernel
theorem dX8_takeBook_49 : decode cX8_takeBook 49 = .ok (.getfield 25, 3) := by decide +kernel
theorem dX8_takeBook_52 : decode cX8_takeBook 52 = .ok (.iload_n 1, 1) := by decide +kernel
theorem dX8_takeBook_53 : decode cX8_takeBook 53 = .ok (.aload_n 0, 1) := by decide +kernel
theorem dX8_takeBook_54 : decode cX8_takeBook 54 = .ok (.getfield 31, 3) := by decide +kernel
theorem dX8_takeBook_57 : decode cX8_takeBook 57 = .ok (.iconst 4, 1) := by decide +kernel
theorem dX8_takeBook_58 : decode cX8_takeBook 58 = .ok (.iload_n 1, 1) := by decide +kernel
theorem dX8_takeBook_59 : decode cX8_takeBook 59 = .ok (.imul, 1) := by decide +kernel
theorem dX8_takeBook_60 : decode cX8_takeBook 60 = .ok (.iconst 2, 1) := by decide +kernel
theorem dX8_takeBook_61 : decode cX8_takeBook 61 = .ok (.iadd, 1) := by decide +kernel
theorem dX8_takeBook_62 : decode cX8_takeBook 62 = .ok (.iaload, 1) := by decide +kernel
theorem dX8_takeBook_63 : decode cX8_takeBook 63 = .ok (.iastore, 1) := by decide +kernel
theorem dX8_takeBook_64 : decode cX8_takeBook 64 = .ok (.aload_n 0, 1) := by decide +kernel
theorem dX8_takeBook_65 : decode cX8_takeBook 65 = .ok (.getfield 28, 3) := by decide +kernel
theorem dX8_takeBook_68 : decode cX8_takeBook 68 = .ok (.iload_n 1, 1) := by decide +kernel
theorem dX8_takeBook_69 : decode cX8_takeBook 69 = .ok (.aload_n 0, 1) := by decide +kernel
theorem dX8_takeBook_70 : decode cX8_takeBook 70 = .ok (.getfield 31, 3) := by decide +kernel
theorem dX8_takeBook_73 : decode cX8_takeBook 73 = .ok (.iconst 4, 1) := by decide +kernel
theorem dX8_takeBook_74 : decode cX8_takeBook 74 = .ok (.iload_n 1, 1) := by decide +kernel
theorem dX8_takeBook_75 : decode cX8_takeBook 75 = .ok (.imul, 1) := by decide +kernel
theorem dX8_takeBook_76 : decode cX8_takeBook 76 = .ok (.iconst 3, 1) := by decide +kernel
theorem dX8_takeBook_77 : decode cX8_takeBook 77 = .ok (.iadd, 1) := by decide +kernel
theorem dX8_takeBook_78 : decode cX8_takeBook 78 = .ok (.iaload, 1) := by decide +kernel
theorem dX8_takeBook_79 : decode cX8_takeBook 79 = .ok (.aload_n 0, 1) := by decide +kernel
theorem dX8_takeBook_80 : decode cX8_takeBook 80 = .ok (.getfield 71, 3) := by decide +kernel
theorem dX8_takeBook_83 : decode cX8_takeBook 83 = .ok (.if_icmp .ge 16, 3) := by decide +kernel
theorem dX8_takeBook_86 : decode cX8_takeBook 86 = .ok (.aload_n 0, 1) := by decide +kernel
theorem dX8_takeBook_87 : decode cX8_takeBook 87 = .ok (.getfield 31, 3) := by decide +kernel
theorem dX8_takeBook_90 : decode cX8_takeBook 90 = .ok (.iconst 4, 1) := by decide +kernel
theorem dX8_takeBook_91 : decode cX8_takeBook 91 = .ok (.iload_n 1, 1) := by decide +kernel
theorem dX8_takeBook_92 : decode cX8_takeBook 92 = .ok (.imul, 1) := by decide +kernel
theorem dX8_takeBook_93 : decode cX8_takeBook 93 = .ok (.iconst 3, 1) := by decide +kernel
theorem dX8_takeBook_94 : decode cX8_takeBook 94 = .ok (.iadd, 1) := by decide +kernel
theorem dX8_takeBook_95 : decode cX8_takeBook 95 = .ok (.iaload, 1) := by decide +kernel
theorem dX8_takeBook_96 : decode cX8_takeBook 96 = .ok (.goto 5, 3) := by decide +kernel
theorem dX8_takeBook_99 : decode cX8_takeBook 99 = .ok (.bipush (-9), 2) := by decide +kernel
theorem dX8_takeBook_101 : decode cX8_takeBook 101 = .ok (.iastore, 1) := by decide +kernel
theorem dX8_takeBook_102 : decode cX8_takeBook 102 = .ok (.iinc 1 1, 3) := by decide +kernel
theorem dX8_takeBook_105 : decode cX8_takeBook 105 = .ok (.goto (-95), 3) := by decide +kernel
theorem dX8_takeBook_108 : decode cX8_takeBook 108 = .ok (.aload_n 0, 1) := by decide +kernel
theorem dX8_takeBook_109 : decode cX8_takeBook 109 = .ok (.iconst 0, 1) := by decide +kernel
theorem dX8_takeBook_110 : decode cX8_takeBook 110 = .ok (.putfield 101, 3) := by decide +kernel
theorem dX8_takeBook_113 : decode cX8_takeBook 113 = .ok (.aload_n 0, 1) := by decide +kernel
theorem dX8_takeBook_114 : decode cX8_takeBook 114 = .ok (.iconst 0, 1) := by decide +kernel
theorem dX8_takeBook_115 : decode cX8_takeBook 115 = .ok (.putfield 104, 3) := by decide +kernel
theorem dX8_takeBook_118 : decode cX8_takeBook 118 = .ok (.aload_n 0, 1) := by decide +kernel
theorem dX8_takeBook_119 : decode cX8_takeBook 119 = .ok (.iconst 0, 1) := by decide +kernel
theorem dX8_takeBook_120 : decode cX8_takeBook 120 = .ok (.putfield 107, 3) := by decide +kernel
theorem dX8_takeBook_123 : decode cX8_takeBook 123 = .ok (.return_, 1) := by decide +kernel
set_option maxRecDepth 20000 in
theorem ggX8_readBook_X8_isSign : GoodIn wsX8_readBook wsX8_isSign := goodIn_r _ [7, 2, 8, 21, 22, 23, 24, 25, 26, 27, 28, 29, 30, 31, 32, 33, 34, 35, 36, 37, 38, 39, 40, 41, 42, 43, 44, 45, 46, 47, 48, 49, 50] (by decide +kernel) (by decide +kernel)
set_option maxRecDepth 20000 in
theorem gX8_readBook_X8_isSign : GoodIn wsX8_readBook (wsV RX8 110 RX8 yX8_isSign wsX8_isSign) := goodIn_app (goodIn_of _ (by decide +kernel)) ggX8_readBook_X8_isSign
set_option maxRecDepth 20000 in
theorem ggX8_readBook_X8_readSlip : GoodIn wsX8_readBook wsX8_readSlip := goodIn_r _ [12, 2, 8, 1, 13, 14, 15, 16, 6, 17, 18, 19, 20, 21, 22, 23, 24, 25, 26, 27, 28, 29, 30, 31, 32, 33, 34, 35, 36, 37, 38, 39, 40, 41, 42, 43, 44, 45, 46, 47, 48, 49, 50] (by decide +kernel) (by decide +kernel)
set_option maxRecDepth 20000 in
theorem gX8_readBook_X8_readSlip : GoodIn wsX8_readBook (wsV RX8 114 RX8 yX8_readSlip wsX8_readSlip) := goodIn_app (goodIn_of _ (by decide +kernel)) ggX8_readBook_X8_readSlip
theorem dX8_readBook_0 : decode cX8_readBook 0 = .ok (.aload_n 0, 1) := by decide +kernel
theorem dX8_readBook_1 : decode cX8_readBook 1 = .ok (.iconst 0, 1) := by decide +kernel
theorem dX8_readBook_2 : decode cX8_readBook 2 = .ok (.putfield 98, 3) := by decide +kernel
theorem dX8_readBook_5 : decode cX8_readBook 5 = .ok (.aload_n 0, 1) := by decide +kernel
theorem dX8_readBook_6 : decode cX8_readBook 6 = .ok (.iload_n 1, 1) := by decide +kernel
theorem dX8_readBook_7 : decode cX8_readBook 7 = .ok (.bipush 105, 2) := by decide +kernel
theorem dX8_readBook_9 : decode cX8_readBook 9 = .ok (.invokevirtual 110, 3) := by decide +kernel
theorem dX8_readBook_12 : decode cX8_readBook 12 = .ok (.ifCond .ne 5, 3) := by decide +kernel
theorem dX8_readBook_15 : decode cX8_readBook 15 = .ok (.iconst 0, 1) := by decide +kernel
theorem dX8_readBook_16 : decode cX8_readBook 16 = .ok (.ireturn, 1) := by decide +kernel
theorem dX8_readBook_17 : decode cX8_readBook 17 = .ok (.aload_n 0, 1) := by decide +kernel
theorem dX8_readBook_18 : decode cX8_readBook 18 = .ok (.getfield 98, 3) := by decide +kernel
theorem dX8_readBook_21 : decode cX8_readBook 21 = .ok (.iconst 2, 1) := by decide +kernel
theorem dX8_readBook_22 : decode cX8_readBook 22 = .ok (.if_icmp .lt 20, 3) := by decide +kernel
theorem dX8_readBook_25 : decode cX8_readBook 25 = .ok (.aload_n 0, 1) := by decide +kernel
theorem dX8_readBook_26 : decode cX8_readBook 26 = .ok (.getfield 98, 3) := by decide +kernel
theorem dX8_readBook_29 : decode cX8_readBook 29 = .ok (.bipush 7, 2) := by decide +kernel
theorem dX8_readBook_31 : decode cX8_readBook 31 = .ok (.if_icmp .ge 31, 3) := by decide +kernel
theorem dX8_readBook_34 : decode cX8_readBook 34 = .ok (.aload_n 0, 1) := by decide +kernel
theorem dX8_readBook_35 : decode cX8_readBook 35 = .ok (.getfield 74, 3) := by decide +kernel
theorem dX8_readBook_38 : decode cX8_readBook 38 = .ok (.iload_n 1, 1) := by decide +kernel
theorem dX8_readBook_39 : decode cX8_readBook 39 = .ok (.if_icmp .ge 23, 3) := by decide +kernel
theorem dX8_readBook_42 : decode cX8_readBook 42 = .ok (.aload_n 0, 1) := by decide +kernel
theorem dX8_readBook_43 : decode cX8_readBook 43 = .ok (.iload_n 1, 1) := by decide +kernel
theorem dX8_readBook_44 : decode cX8_readBook 44 = .ok (.bipush 59, 2) := by decide +kernel
theorem dX8_readBook_46 : decode cX8_readBook 46 = .ok (.invokevirtual 110, 3) := by decide +kernel
theorem dX8_readBook_49 : decode cX8_readBook 49 = .ok (.ifCond .eq 11, 3) := by decide +kernel
theorem dX8_readBook_52 : decode cX8_readBook 52 = .ok (.aload_n 0, 1) := by decide +kernel
theorem dX8_readBook_53 : decode cX8_readBook 53 = .ok (.iload_n 1, 1) := by decide +kernel
theorem dX8_readBook_54 : decode cX8_readBook 54 = .ok (.invokevirtual 114, 3) := by decide +kernel
theorem dX8_readBook_57 : decode cX8_readBook 57 = .ok (.ifCond .ne (-40), 3) := by decide +kernel
theorem dX8_readBook_60 : decode cX8_readBook 60 = .ok (.iconst 0, 1) := by decide +kernel
theorem dX8_readBook_61 : decode cX8_readBook 61 = .ok (.ireturn, 1) := by decide +kernel
theorem dX8_readBook_62 : decode cX8_readBook 62 = .ok (.aload_n 0, 1) := by decide +kernel
theorem dX8_readBook_63 : decode cX8_readBook 63 = .ok (.getfield 74, 3) := by decide +kernel
theorem dX8_readBook_66 : decode cX8_readBook 66 = .ok (.iload_n 1, 1) := by decide +kernel
theorem dX8_readBook_67 : decode cX8_readBook 67 = .ok (.if_icmp .ne 7, 3) := by decide +kernel
theorem dX8_readBook_70 : decode cX8_readBook 70 = .ok (.iconst 1, 1) := by decide +kernel
theorem dX8_readBook_71 : decode cX8_readBook 71 = .ok (.goto 4, 3) := by decide +kernel
theorem dX8_readBook_74 : decode cX8_readBook 74 = .ok (.iconst 0, 1) := by decide +kernel
theorem dX8_readBook_75 : decode cX8_readBook 75 = .ok (.ireturn, 1) := by decide +kernel
set_option maxRecDepth 20000 in
theorem ggX8_readSlip_X8_digit : GoodIn wsX8_readSlip wsX8_digit := goodIn_r _ [9, 1, 2, 10, 11, 8, 12, 13, 14, 15, 16, 17, 18, 19, 20, 21, 22, 23, 24, 25, 26, 27, 28, 29, 30, 31, 32, 33, 34, 35, 36, 37, 38, 39, 40, 41, 42] (by decide +kernel) (by decide +kernel)
set_option maxRecDepth 20000 in
theorem gX8_readSlip_X8_digit : GoodIn wsX8_readSlip (wsV RX8 117 RX8 yX8_digit wsX8_digit) := goodIn_app (goodIn_of _ (by decide +kernel)) ggX8_readSlip_X8_digit
theorem dX8_readSlip_0 : decode cX8_readSlip 0 = .ok (.aload_n 0, 1) := by decide +kernel
theorem dX8_readSlip_1 : decode cX8_readSlip 1 = .ok (.getfield 74, 3) := by decide +kernel
theorem dX8_readSlip_4 : decode cX8_readSlip 4 = .ok (.iload_n 1, 1) := by decide +kernel
theorem dX8_readSlip_5 : decode cX8_readSlip 5 = .ok (.if_icmp .ge 15, 3) := by decide +kernel
theorem dX8_readSlip_8 : decode cX8_readSlip 8 = .ok (.aload_n 0, 1) := by decide +kernel
theorem dX8_readSlip_9 : decode cX8_readSlip 9 = .ok (.getfield 16, 3) := by decide +kernel
theorem dX8_readSlip_12 : decode cX8_readSlip 12 = .ok (.aload_n 0, 1) := by decide +kernel
theorem dX8_readSlip_13 : decode cX8_readSlip 13 = .ok (.getfield 74, 3) := by decide +kernel
theorem dX8_readSlip_16 : decode cX8_readSlip 16 = .ok (.iaload, 1) := by decide +kernel
theorem dX8_readSlip_17 : decode cX8_readSlip 17 = .ok (.goto 4, 3) := by decide +kernel
theorem dX8_readSlip_20 : decode cX8_readSlip 20 = .ok (.iconst 0, 1) := by decide +kernel
theorem dX8_readSlip_21 : decode cX8_readSlip 21 = .ok (.istore_n 2, 1) := by decide +kernel
theorem dX8_readSlip_22 : decode cX8_readSlip 22 = .ok (.iconst 4, 1) := by decide +kernel
theorem dX8_readSlip_23 : decode cX8_readSlip 23 = .ok (.aload_n 0, 1) := by decide +kernel
theorem dX8_readSlip_24 : decode cX8_readSlip 24 = .ok (.getfield 98, 3) := by decide +kernel
theorem dX8_readSlip_27 : decode cX8_readSlip 27 = .ok (.imul, 1) := by decide +kernel
theorem dX8_readSlip_28 : decode cX8_readSlip 28 = .ok (.istore_n 3, 1) := by decide +kernel
theorem dX8_readSlip_29 : decode cX8_readSlip 29 = .ok (.aload_n 0, 1) := by decide +kernel
theorem dX8_readSlip_30 : decode cX8_readSlip 30 = .ok (.getfield 31, 3) := by decide +kernel
theorem dX8_readSlip_33 : decode cX8_readSlip 33 = .ok (.iload_n 3, 1) := by decide +kernel
theorem dX8_readSlip_34 : decode cX8_readSlip 34 = .ok (.iload_n 2, 1) := by decide +kernel
theorem dX8_readSlip_35 : decode cX8_readSlip 35 = .ok (.bipush 108, 2) := by decide +kernel
theorem dX8_readSlip_37 : decode cX8_readSlip 37 = .ok (.if_icmp .ne 7, 3) := by decide +kernel
theorem dX8_readSlip_40 : decode cX8_readSlip 40 = .ok (.iconst 0, 1) := by decide +kernel
theorem dX8_readSlip_41 : decode cX8_readSlip 41 = .ok (.goto 25, 3) := by decide +kernel
theorem dX8_readSlip_44 : decode cX8_readSlip 44 = .ok (.iload_n 2, 1) := by decide +kernel
theorem dX8_readSlip_45 : decode cX8_readSlip 45 = .ok (.bipush 100, 2) := by decide +kernel
theorem dX8_readSlip_47 : decode cX8_readSlip 47 = .ok (.if_icmp .ne 7, 3) := by decide +kernel
theorem dX8_readSlip_50 : decode cX8_readSlip 50 = .ok (.iconst 1, 1) := by decide +kernel
theorem dX8_readSlip_51 : decode cX8_readSlip 51 = .ok (.goto 15, 3) := by decide +kernel
theorem dX8_readSlip_54 : decode cX8_readSlip 54 = .ok (.iload_n 2, 1) := by decide +kernel
theorem dX8_readSlip_55 : decode cX8_readSlip 55 = .ok (.bipush 98, 2) := by decide +kernel
theorem dX8_readSlip_57 : decode cX8_readSlip 57 = .ok (.if_icmp .ne 7, 3) := by decide +kernel
theorem dX8_readSlip_60 : decode cX8_readSlip 60 = .ok (.iconst 2, 1) := by decide +kernel
theorem dX8_readSlip_61 : decode cX8_readSlip 61 = .ok (.goto 5, 3) := by decide +kernel
theorem dX8_readSlip_64 : decode cX8_readSlip 64 = .ok (.bipush (-9), 2) := by decide +kernel
theorem dX8_readSlip_66 : decode cX8_readSlip 66 = .ok (.iastore, 1) := by decide +kernel
theorem dX8_readSlip_67 : decode cX8_readSlip 67 = .ok (.aload_n 0, 1) := by decide +kernel
theorem dX8_readSlip_68 : decode cX8_readSlip 68 = .ok (.getfield 31, 3) := by decide +kernel
theorem dX8_readSlip_71 : decode cX8_readSlip 71 = .ok (.iload_n 3, 1) := by decide +kernel
theorem dX8_readSlip_72 : decode cX8_readSlip 72 = .ok (.iaload, 1) := by decide +kernel
theorem dX8_readSlip_73 : decode cX8_readSlip 73 = .ok (.bipush (-9), 2) := by decide +kernel
theorem dX8_readSlip_75 : decode cX8_readSlip 75 = .ok (.if_icmp .ne 5, 3) := by decide +kernel
theorem dX8_readSlip_78 : decode cX8_readSlip 78 = .ok (.iconst 0, 1) := by decide +kernel
theorem dX8_readSlip_79 : decode cX8_readSlip 79 = .ok (.ireturn, 1) := by decide +kernel
theorem dX8_readSlip_80 : decode cX8_readSlip 80 = .ok (.aload_n 0, 1) := by decide +kernel
theorem dX8_readSlip_81 : decode cX8_readSlip 81 = .ok (.dup, 1) := by decide +kernel
theorem dX8_readSlip_82 : decode cX8_readSlip 82 = .ok (.getfield 74, 3) := by decide +kernel
theorem dX8_readSlip_85 : decode cX8_readSlip 85 = .ok (.iconst 1, 1) := by decide +kernel
theorem dX8_readSlip_86 : decode cX8_readSlip 86 = .ok (.iadd, 1) := by decide +kernel
theorem dX8_readSlip_87 : decode cX8_readSlip 87 = .ok (.putfield 74, 3) := by decide +kernel
theorem dX8_readSlip_90 : decode cX8_readSlip 90 = .ok (.aload_n 0, 1) := by decide +kernel
theorem dX8_readSlip_91 : decode cX8_readSlip 91 = .ok (.iload_n 1, 1) := by decide +kernel
theorem dX8_readSlip_92 : decode cX8_readSlip 92 = .ok (.iconst 4, 1) := by decide +kernel
theorem dX8_readSlip_93 : decode cX8_readSlip 93 = .ok (.invokevirtual 117, 3) := by decide +kernel
theorem dX8_readSlip_96 : decode cX8_readSlip 96 = .ok (.istore 4, 2) := by decide +kernel
theorem dX8_readSlip_98 : decode cX8_readSlip 98 = .ok (.iload 4, 2) := by decide +kernel
theorem dX8_readSlip_100 : decode cX8_readSlip 100 = .ok (.bipush (-9), 2) := by decide +kernel
theorem dX8_readSlip_102 : decode cX8_readSlip 102 = .ok (.if_icmp .ne 5, 3) := by decide +kernel
theorem dX8_readSlip_105 : decode cX8_readSlip 105 = .ok (.iconst 0, 1) := by decide +kernel
theorem dX8_readSlip_106 : decode cX8_readSlip 106 = .ok (.ireturn, 1) := by decide +kernel
theorem dX8_readSlip_107 : decode cX8_readSlip 107 = .ok (.aload_n 0, 1) := by decide +kernel
theorem dX8_readSlip_108 : decode cX8_readSlip 108 = .ok (.iload_n 1, 1) := by decide +kernel
theorem dX8_readSlip_109 : decode cX8_readSlip 109 = .ok (.bipush 9, 2) := by decide +kernel
theorem dX8_readSlip_111 : decode cX8_readSlip 111 = .ok (.invokevirtual 117, 3) := by decide +kernel
theorem dX8_readSlip_114 : decode cX8_readSlip 114 = .ok (.istore 5, 2) := by decide +kernel
theorem dX8_readSlip_116 : decode cX8_readSlip 116 = .ok (.iload 5, 2) := by decide +kernel
theorem dX8_readSlip_118 : decode cX8_readSlip 118 = .ok (.bipush (-9), 2) := by decide +kernel
theorem dX8_readSlip_120 : decode cX8_readSlip 120 = .ok (.if_icmp .ne 5, 3) := by decide +kernel
theorem dX8_readSlip_123 : decode cX8_readSlip 123 = .ok (.iconst 0, 1) := by decide +kernel
theorem dX8_readSlip_124 : decode cX8_readSlip 124 = .ok (.ireturn, 1) := by decide +kernel
theorem dX8_readSlip_125 : decode cX8_readSlip 125 = .ok (.aload_n 0, 1) := by decide +kernel
theorem dX8_readSlip_126 : decode cX8_readSlip 126 = .ok (.getfield 31, 3) := by decide +kernel
theorem dX8_readSlip_129 : decode cX8_readSlip 129 = .ok (.iload_n 3, 1) := by decide +kernel
theorem dX8_readSlip_130 : decode cX8_readSlip 130 = .ok (.iconst 1, 1) := by decide +kernel
theorem dX8_readSlip_131 : decode cX8_readSlip 131 = .ok (.iadd, 1) := by decide +kernel
theorem dX8_readSlip_132 : decode cX8_readSlip 132 = .ok (.bipush 10, 2) := by decide +kernel
theorem dX8_readSlip_134 : decode cX8_readSlip 134 = .ok (.iload 4, 2) := by decide +kernel
theorem dX8_readSlip_136 : decode cX8_readSlip 136 = .ok (.imul, 1) := by decide +kernel
theorem dX8_readSlip_137 : decode cX8_readSlip 137 = .ok (.iload 5, 2) := by decide +kernel
theorem dX8_readSlip_139 : decode cX8_readSlip 139 = .ok (.iadd, 1) := by decide +kernel
theorem dX8_readSlip_140 : decode cX8_readSlip 140 = .ok (.iastore, 1) := by decide +kernel
theorem dX8_readSlip_141 : decode cX8_readSlip 141 = .ok (.aload_n 0, 1) := by decide +kernel
theorem dX8_readSlip_142 : decode cX8_readSlip 142 = .ok (.getfield 31, 3) := by decide +kernel
theorem dX8_readSlip_145 : decode cX8_readSlip 145 = .ok (.iload_n 3, 1) := by decide +kernel
theorem dX8_readSlip_146 : decode cX8_readSlip 146 = .ok (.iconst 2, 1) := by decide +kernel
theorem dX8_readSlip_147 : decode cX8_readSlip 147 = .ok (.iadd, 1) := by decide +kernel
theorem dX8_readSlip_148 : decode cX8_readSlip 148 = .ok (.aload_n 0, 1) := by decide +kernel
theorem dX8_readSlip_149 : decode cX8_readSlip 149 = .ok (.iload_n 1, 1) := by decide +kernel
theorem dX8_readSlip_150 : decode cX8_readSlip 150 = .ok (.bipush 9, 2) := by decide +kernel
theorem dX8_readSlip_152 : decode cX8_readSlip 152 = .ok (.invokevirtual 117, 3) := by decide +kernel
theorem dX8_readSlip_155 : decode cX8_readSlip 155 = .ok (.iastore, 1) := by decide +kernel
theorem dX8_readSlip_156 : decode cX8_readSlip 156 = .ok (.aload_n 0, 1) := by decide +kernel
theorem dX8_readSlip_157 : decode cX8_readSlip 157 = .ok (.getfield 31, 3) := by decide +kernel
theorem dX8_readSlip_160 : decode cX8_readSlip 160 = .ok (.iload_n 3, 1) := by decide +kernel
theorem dX8_readSlip_161 : decode cX8_readSlip 161 = .ok (.iconst 2, 1) := by decide +kernel
theorem dX8_readSlip_162 : decode cX8_readSlip 162 = .ok (.iadd, 1) := by decide +kernel
theorem dX8_readSlip_163 : decode cX8_readSlip 163 = .ok (.iaload, 1) := by decide +kernel
theorem dX8_readSlip_164 : decode cX8_readSlip 164 = .ok (.bipush (-9), 2) := by decide +kernel
theorem dX8_readSlip_166 : decode cX8_readSlip 166 = .ok (.if_icmp .ne 5, 3) := by decide +kernel
theorem dX8_readSlip_169 : decode cX8_readSlip 169 = .ok (.iconst 0, 1) := by decide +kernel
theorem dX8_readSlip_170 : decode cX8_readSlip 170 = .ok (.ireturn, 1) := by decide +kernel
theorem dX8_readSlip_171 : decode cX8_readSlip 171 = .ok (.aload_n 0, 1) := by decide +kernel
theorem dX8_readSlip_172 : decode cX8_readSlip 172 = .ok (.getfield 31, 3) := by decide +kernel
theorem dX8_readSlip_175 : decode cX8_readSlip 175 = .ok (.iload_n 3, 1) := by decide +kernel
theorem dX8_readSlip_176 : decode cX8_readSlip 176 = .ok (.iconst 3, 1) := by decide +kernel
theorem dX8_readSlip_177 : decode cX8_readSlip 177 = .ok (.iadd, 1) := by decide +kernel
theorem dX8_readSlip_178 : decode cX8_readSlip 178 = .ok (.aload_n 0, 1) := by decide +kernel
theorem dX8_readSlip_179 : decode cX8_readSlip 179 = .ok (.iload_n 1, 1) := by decide +kernel
theorem dX8_readSlip_180 : decode cX8_readSlip 180 = .ok (.bipush 9, 2) := by decide +kernel
theorem dX8_readSlip_182 : decode cX8_readSlip 182 = .ok (.invokevirtual 117, 3) := by decide +kernel
theorem dX8_readSlip_185 : decode cX8_readSlip 185 = .ok (.iastore, 1) := by decide +kernel
theorem dX8_readSlip_186 : decode cX8_readSlip 186 = .ok (.aload_n 0, 1) := by decide +kernel
theorem dX8_readSlip_187 : decode cX8_readSlip 187 = .ok (.dup, 1) := by decide +kernel
theorem dX8_readSlip_188 : decode cX8_readSlip 188 = .ok (.getfield 98, 3) := by decide +kernel
theorem dX8_readSlip_191 : decode cX8_readSlip 191 = .ok (.iconst 1, 1) := by decide +kernel
theorem dX8_readSlip_192 : decode cX8_readSlip 192 = .ok (.iadd, 1) := by decide +kernel
theorem dX8_readSlip_193 : decode cX8_readSlip 193 = .ok (.putfield 98, 3) := by decide +kernel
theorem dX8_readSlip_196 : decode cX8_readSlip 196 = .ok (.aload_n 0, 1) := by decide +kernel
theorem dX8_readSlip_197 : decode cX8_readSlip 197 = .ok (.getfield 31, 3) := by decide +kernel
theorem dX8_readSlip_200 : decode cX8_readSlip 200 = .ok (.iload_n 3, 1) := by decide +kernel
theorem dX8_readSlip_201 : decode cX8_readSlip 201 = .ok (.iconst 3, 1) := by decide +kernel
theorem dX8_readSlip_202 : decode cX8_readSlip 202 = .ok (.iadd, 1) := by decide +kernel
theorem dX8_readSlip_203 : decode cX8_readSlip 203 = .ok (.iaload, 1) := by decide +kernel
theorem dX8_readSlip_204 : decode cX8_readSlip 204 = .ok (.bipush (-9), 2) := by decide +kernel
theorem dX8_readSlip_206 : decode cX8_readSlip 206 = .ok (.if_icmp .eq 7, 3) := by decide +kernel
theorem dX8_readSlip_209 : decode cX8_readSlip 209 = .ok (.iconst 1, 1) := by decide +kernel
theorem dX8_readSlip_210 : decode cX8_readSlip 210 = .ok (.goto 4, 3) := by decide +kernel
theorem dX8_readSlip_213 : decode cX8_readSlip 213 = .ok (.iconst 0, 1) := by decide +kernel
theorem dX8_readSlip_214 : decode cX8_readSlip 214 = .ok (.ireturn, 1) := by decide +kernel
theorem dX8_pointsOf_0 : decode cX8_pointsOf 0 = .ok (.aload_n 0, 1) := by decide +kernel
theorem dX8_pointsOf_1 : decode cX8_pointsOf 1 = .ok (.getfield 19, 3) := by decide +kernel
theorem dX8_pointsOf_4 : decode cX8_pointsOf 4 = .ok (.iload_n 1, 1) := by decide +kernel
theorem dX8_pointsOf_5 : decode cX8_pointsOf 5 = .ok (.iaload, 1) := by decide +kernel
theorem dX8_pointsOf_6 : decode cX8_pointsOf 6 = .ok (.ifCond .ne 12, 3) := by decide +kernel
theorem dX8_pointsOf_9 : decode cX8_pointsOf 9 = .ok (.aload_n 0, 1) := by decide +kernel
theorem dX8_pointsOf_10 : decode cX8_pointsOf 10 = .ok (.getfield 22, 3) := by decide +kernel
theorem dX8_pointsOf_13 : decode cX8_pointsOf 13 = .ok (.iload_n 1, 1) := by decide +kernel
theorem dX8_pointsOf_14 : decode cX8_pointsOf 14 = .ok (.iaload, 1) := by decide +kernel
theorem dX8_pointsOf_15 : decode cX8_pointsOf 15 = .ok (.goto 32, 3) := by decide +kernel
theorem dX8_pointsOf_18 : decode cX8_pointsOf 18 = .ok (.aload_n 0, 1) := by decide +kernel
theorem dX8_pointsOf_19 : decode cX8_pointsOf 19 = .ok (.getfield 19, 3) := by decide +kernel
theorem dX8_pointsOf_22 : decode cX8_pointsOf 22 = .ok (.iload_n 1, 1) := by decide +kernel
theorem dX8_pointsOf_23 : decode cX8_pointsOf 23 = .ok (.iaload, 1) := by decide +kernel
theorem dX8_pointsOf_24 : decode cX8_pointsOf 24 = .ok (.iconst 1, 1) := by decide +kernel
theorem dX8_pointsOf_25 : decode cX8_pointsOf 25 = .ok (.if_icmp .ne 14, 3) := by decide +kernel
theorem dX8_pointsOf_28 : decode cX8_pointsOf 28 = .ok (.aload_n 0, 1) := by decide +kernel
theorem dX8_pointsOf_29 : decode cX8_pointsOf 29 = .ok (.getfield 22, 3) := by decide +kernel
theorem dX8_pointsOf_32 : decode cX8_pointsOf 32 = .ok (.iload_n 1, 1) := by decide +kernel
theorem dX8_pointsOf_33 : decode cX8_pointsOf 33 = .ok (.iaload, 1) := by decide +kernel
theorem dX8_pointsOf_34 : decode cX8_pointsOf 34 = .ok (.iconst 1, 1) := by decide +kernel
theorem dX8_pointsOf_35 : decode cX8_pointsOf 35 = .ok (.iadd, 1) := by decide +kernel
theorem dX8_pointsOf_36 : decode cX8_pointsOf 36 = .ok (.goto 11, 3) := by decide +kernel
theorem dX8_pointsOf_39 : decode cX8_pointsOf 39 = .ok (.iconst 2, 1) := by decide +kernel
theorem dX8_pointsOf_40 : decode cX8_pointsOf 40 = .ok (.aload_n 0, 1) := by decide +kernel
theorem dX8_pointsOf_41 : decode cX8_pointsOf 41 = .ok (.getfield 22, 3) := by decide +kernel
theorem dX8_pointsOf_44 : decode cX8_pointsOf 44 = .ok (.iload_n 1, 1) := by decide +kernel
theorem dX8_pointsOf_45 : decode cX8_pointsOf 45 = .ok (.iaload, 1) := by decide +kernel
theorem dX8_pointsOf_46 : decode cX8_pointsOf 46 = .ok (.imul, 1) := by decide +kernel
theorem dX8_pointsOf_47 : decode cX8_pointsOf 47 = .ok (.ireturn, 1) := by decide +kernel
set_option maxRecDepth 20000 in
theorem ggX8_leafOf_X8_isOf : GoodIn wsX8_leafOf wsX8_isOf := goodIn_r _ [8] (by decide +kernel) (by decide +kernel)
set_option maxRecDepth 20000 in
theorem gX8_leafOf_X8_isOf : GoodIn wsX8_leafOf (va_wsS RX8 124 yX8_isOf wsX8_isOf) := goodIn_app (goodIn_of _ (by decide +kernel)) ggX8_leafOf_X8_isOf
set_option maxRecDepth 20000 in
theorem ggX8_leafOf_X8_pointsOf : GoodIn wsX8_leafOf wsX8_pointsOf := goodIn_r _ [12, 13, 14, 15, 16, 17, 18, 19, 20, 21, 22, 23, 24, 25, 26, 27, 28, 29, 30, 31, 32, 33, 34, 35, 36, 37, 38, 39, 40, 41, 42, 43, 44] (by decide +kernel) (by decide +kernel)
set_option maxRecDepth 20000 in
theorem gX8_leafOf_X8_pointsOf : GoodIn wsX8_leafOf (wsV RX8 127 RX8 yX8_pointsOf wsX8_pointsOf) := goodIn_app (goodIn_of _ (by decide +kernel)) ggX8_leafOf_X8_pointsOf
theorem dX8_leafOf_0 : decode cX8_leafOf 0 = .ok (.iload_n 1, 1) := by decide +kernel
theorem dX8_leafOf_1 : decode cX8_leafOf 1 = .ok (.istore_n 2, 1) := by decide +kernel
theorem dX8_leafOf_2 : decode cX8_leafOf 2 = .ok (.aload_n 0, 1) := by decide +kernel
theorem dX8_leafOf_3 : decode cX8_leafOf 3 = .ok (.iconst 1, 1) := by decide +kernel
theorem dX8_leafOf_4 : decode cX8_leafOf 4 = .ok (.putfield 121, 3) := by decide +kernel
theorem dX8_leafOf_7 : decode cX8_leafOf 7 = .ok (.aload_n 0, 1) := by decide +kernel
theorem dX8_leafOf_8 : decode cX8_leafOf 8 = .ok (.getfield 121, 3) := by decide +kernel
theorem dX8_leafOf_11 : decode cX8_leafOf 11 = .ok (.aload_n 0, 1) := by decide +kernel
theorem dX8_leafOf_12 : decode cX8_leafOf 12 = .ok (.getfield 71, 3) := by decide +kernel
theorem dX8_leafOf_15 : decode cX8_leafOf 15 = .ok (.if_icmp .gt 54, 3) := by decide +kernel
theorem dX8_leafOf_18 : decode cX8_leafOf 18 = .ok (.aload_n 0, 1) := by decide +kernel
theorem dX8_leafOf_19 : decode cX8_leafOf 19 = .ok (.getfield 104, 3) := by decide +kernel
theorem dX8_leafOf_22 : decode cX8_leafOf 22 = .ok (.iload_n 2, 1) := by decide +kernel
theorem dX8_leafOf_23 : decode cX8_leafOf 23 = .ok (.invokestatic 124, 3) := by decide +kernel
theorem dX8_leafOf_26 : decode cX8_leafOf 26 = .ok (.ifCond .eq 6, 3) := by decide +kernel
theorem dX8_leafOf_29 : decode cX8_leafOf 29 = .ok (.bipush (-9), 2) := by decide +kernel
theorem dX8_leafOf_31 : decode cX8_leafOf 31 = .ok (.ireturn, 1) := by decide +kernel
theorem dX8_leafOf_32 : decode cX8_leafOf 32 = .ok (.aload_n 0, 1) := by decide +kernel
theorem dX8_leafOf_33 : decode cX8_leafOf 33 = .ok (.getfield 28, 3) := by decide +kernel
theorem dX8_leafOf_36 : decode cX8_leafOf 36 = .ok (.iload_n 2, 1) := by decide +kernel
theorem dX8_leafOf_37 : decode cX8_leafOf 37 = .ok (.iaload, 1) := by decide +kernel
theorem dX8_leafOf_38 : decode cX8_leafOf 38 = .ok (.bipush (-9), 2) := by decide +kernel
theorem dX8_leafOf_40 : decode cX8_leafOf 40 = .ok (.if_icmp .ne 9, 3) := by decide +kernel
theorem dX8_leafOf_43 : decode cX8_leafOf 43 = .ok (.aload_n 0, 1) := by decide +kernel
theorem dX8_leafOf_44 : decode cX8_leafOf 44 = .ok (.iload_n 2, 1) := by decide +kernel
theorem dX8_leafOf_45 : decode cX8_leafOf 45 = .ok (.invokevirtual 127, 3) := by decide +kernel
theorem dX8_leafOf_48 : decode cX8_leafOf 48 = .ok (.ireturn, 1) := by decide +kernel
theorem dX8_leafOf_49 : decode cX8_leafOf 49 = .ok (.aload_n 0, 1) := by decide +kernel
theorem dX8_leafOf_50 : decode cX8_leafOf 50 = .ok (.getfield 28, 3) := by decide +kernel
theorem dX8_leafOf_53 : decode cX8_leafOf 53 = .ok (.iload_n 2, 1) := by decide +kernel
theorem dX8_leafOf_54 : decode cX8_leafOf 54 = .ok (.iaload, 1) := by decide +kernel
theorem dX8_leafOf_55 : decode cX8_leafOf 55 = .ok (.istore_n 2, 1) := by decide +kernel
theorem dX8_leafOf_56 : decode cX8_leafOf 56 = .ok (.aload_n 0, 1) := by decide +kernel
theorem dX8_leafOf_57 : decode cX8_leafOf 57 = .ok (.dup, 1) := by decide +kernel
theorem dX8_leafOf_58 : decode cX8_leafOf 58 = .ok (.getfield 121, 3) := by decide +kernel
theorem dX8_leafOf_61 : decode cX8_leafOf 61 = .ok (.iconst 1, 1) := by decide +kernel
theorem dX8_leafOf_62 : decode cX8_leafOf 62 = .ok (.iadd, 1) := by decide +kernel
theorem dX8_leafOf_63 : decode cX8_leafOf 63 = .ok (.putfield 121, 3) := by decide +kernel
theorem dX8_leafOf_66 : decode cX8_leafOf 66 = .ok (.goto (-59), 3) := by decide +kernel
theorem dX8_leafOf_69 : decode cX8_leafOf 69 = .ok (.bipush (-9), 2) := by decide +kernel
theorem dX8_leafOf_71 : decode cX8_leafOf 71 = .ok (.ireturn, 1) := by decide +kernel
set_option maxRecDepth 20000 in
theorem ggX8_looksOf_X8_leafOf : GoodIn wsX8_looksOf wsX8_leafOf := goodIn_r _ [6, 1, 7, 8, 9, 10, 11, 5, 12, 13, 14, 15, 16, 17, 18, 19, 20, 21, 22, 23, 24, 25, 26, 27, 28, 29, 30, 31, 32, 33, 34, 35, 36, 37, 38, 39, 40, 41, 42, 43, 44, 45, 46, 47, 48] (by decide +kernel) (by decide +kernel)
set_option maxRecDepth 20000 in
theorem gX8_looksOf_X8_leafOf : GoodIn wsX8_looksOf (wsV RX8 130 RX8 yX8_leafOf wsX8_leafOf) := goodIn_app (goodIn_of _ (by decide +kernel)) ggX8_looksOf_X8_leafOf
theorem dX8_looksOf_0 : decode cX8_looksOf 0 = .ok (.aload_n 0, 1) := by decide +kernel
theorem dX8_looksOf_1 : decode cX8_looksOf 1 = .ok (.iload_n 1, 1) := by decide +kernel
theorem dX8_looksOf_2 : decode cX8_looksOf 2 = .ok (.invokevirtual 130, 3) := by decide +kernel
theorem dX8_looksOf_5 : decode cX8_looksOf 5 = .ok (.bipush (-9), 2) := by decide +kernel
theorem dX8_looksOf_7 : decode cX8_looksOf 7 = .ok (.if_icmp .ne 8, 3) := by decide +kernel
theorem dX8_looksOf_10 : decode cX8_looksOf 10 = .ok (.bipush (-9), 2) := by decide +kernel
theorem dX8_looksOf_12 : decode cX8_looksOf 12 = .ok (.goto 7, 3) := by decide +kernel
theorem dX8_looksOf_15 : decode cX8_looksOf 15 = .ok (.aload_n 0, 1) := by decide +kernel
theorem dX8_looksOf_16 : decode cX8_looksOf 16 = .ok (.getfield 121, 3) := by decide +kernel
theorem dX8_looksOf_19 : decode cX8_looksOf 19 = .ok (.ireturn, 1) := by decide +kernel
set_option maxRecDepth 20000 in
theorem ggX8_ofSlip_X8_isSlip : GoodIn wsX8_ofSlip wsX8_isSlip := goodIn_r _ [10, 11, 28, 29, 30, 31, 32, 33, 34, 35, 36, 37, 38, 39, 40, 41, 42, 43, 44, 45, 46, 47, 48, 49, 50, 51, 52, 53, 54, 55, 56, 57] (by decide +kernel) (by decide +kernel)
set_option maxRecDepth 20000 in
theorem gX8_ofSlip_X8_isSlip : GoodIn wsX8_ofSlip (wsV RX8 133 RX8 yX8_isSlip wsX8_isSlip) := goodIn_app (goodIn_of _ (by decide +kernel)) ggX8_ofSlip_X8_isSlip
set_option maxRecDepth 20000 in
theorem ggX8_ofSlip_X8_leafOf : GoodIn wsX8_ofSlip wsX8_leafOf := goodIn_r _ [15, 16, 11, 5, 4, 17, 18, 9, 19, 20, 21, 22, 23, 1, 2, 28, 29, 30, 31, 32, 33, 34, 35, 36, 37, 38, 39, 40, 41, 42, 43, 44, 45, 46, 47, 48, 49, 50, 51, 52, 53, 54, 55, 56, 57] (by decide +kernel) (by decide +kernel)
set_option maxRecDepth 20000 in
theorem gX8_ofSlip_X8_leafOf : GoodIn wsX8_ofSlip (wsV RX8 130 RX8 yX8_leafOf wsX8_leafOf) := goodIn_app (goodIn_of _ (by decide +kernel)) ggX8_ofSlip_X8_leafOf
set_option maxRecDepth 20000 in
theorem ggX8_ofSlip_X8_looksOf : GoodIn wsX8_ofSlip wsX8_looksOf := goodIn_r _ [27, 16, 12, 13, 14, 9, 15, 11, 5, 4, 17, 18, 19, 20, 21, 22, 23, 1, 2, 28, 29, 30, 31, 32, 33, 34, 35, 36, 37, 38, 39, 40, 41, 42, 43, 44, 45, 46, 47, 48, 49, 50, 51, 52, 53, 54, 55, 56, 57] (by decide +kernel) (by decide +kernel)
set_option maxRecDepth 20000 in
theorem gX8_ofSlip_X8_looksOf : GoodIn wsX8_ofSlip (wsV RX8 136 RX8 yX8_looksOf wsX8_looksOf) := goodIn_app (goodIn_of _ (by decide +kernel)) ggX8_ofSlip_X8_looksOf
set_option maxRecDepth 20000 in
theorem ggX8_ofSlip_X8_pointsOf : GoodIn wsX8_ofSlip wsX8_pointsOf := goodIn_r _ [23, 1, 2, 28, 29, 30, 31, 32, 33, 34, 35, 36, 37, 38, 39, 40, 41, 42, 43, 44, 45, 46, 47, 48, 49, 50, 51, 52, 53, 54, 55, 56, 57] (by decide +kernel) (by decide +kernel)
set_option maxRecDepth 20000 in
theorem gX8_ofSlip_X8_pointsOf : GoodIn wsX8_ofSlip (wsV RX8 127 RX8 yX8_pointsOf wsX8_pointsOf) := goodIn_app (goodIn_of _ (by decide +kernel)) ggX8_ofSlip_X8_pointsOf
theorem dX8_ofSlip_0 : decode cX8_ofSlip 0 = .ok (.aload_n 0, 1) := by decide +kernel
theorem dX8_ofSlip_1 : decode cX8_ofSlip 1 = .ok (.iload_n 1, 1) := by decide +kernel
theorem dX8_ofSlip_2 : decode cX8_ofSlip 2 = .ok (.invokevirtual 133, 3) := by decide +kernel
theorem dX8_ofSlip_5 : decode cX8_ofSlip 5 = .ok (.ifCond .ne 5, 3) := by decide +kernel
theorem dX8_ofSlip_8 : decode cX8_ofSlip 8 = .ok (.iconst (-1), 1) := by decide +kernel
theorem dX8_ofSlip_9 : decode cX8_ofSlip 9 = .ok (.ireturn, 1) := by decide +kernel
theorem dX8_ofSlip_10 : decode cX8_ofSlip 10 = .ok (.iload_n 2, 1) := by decide +kernel
theorem dX8_ofSlip_11 : decode cX8_ofSlip 11 = .ok (.tableswitch 100 0 7 #[45, 52, 59, 66, 73, 79, 85, 94], 45) := by decide +kernel
theorem dX8_ofSlip_56 : decode cX8_ofSlip 56 = .ok (.aload_n 0, 1) := by decide +kernel
theorem dX8_ofSlip_57 : decode cX8_ofSlip 57 = .ok (.getfield 19, 3) := by decide +kernel
theorem dX8_ofSlip_60 : decode cX8_ofSlip 60 = .ok (.iload_n 1, 1) := by decide +kernel
theorem dX8_ofSlip_61 : decode cX8_ofSlip 61 = .ok (.iaload, 1) := by decide +kernel
theorem dX8_ofSlip_62 : decode cX8_ofSlip 62 = .ok (.ireturn, 1) := by decide +kernel
theorem dX8_ofSlip_63 : decode cX8_ofSlip 63 = .ok (.aload_n 0, 1) := by decide +kernel
theorem dX8_ofSlip_64 : decode cX8_ofSlip 64 = .ok (.getfield 22, 3) := by decide +kernel
theorem dX8_ofSlip_67 : decode cX8_ofSlip 67 = .ok (.iload_n 1, 1) := by decide +kernel
theorem dX8_ofSlip_68 : decode cX8_ofSlip 68 = .ok (.iaload, 1) := by decide +kernel
theorem dX8_ofSlip_69 : decode cX8_ofSlip 69 = .ok (.ireturn, 1) := by decide +kernel
theorem dX8_ofSlip_70 : decode cX8_ofSlip 70 = .ok (.aload_n 0, 1) := by decide +kernel
theorem dX8_ofSlip_71 : decode cX8_ofSlip 71 = .ok (.getfield 25, 3) := by decide +kernel
theorem dX8_ofSlip_74 : decode cX8_ofSlip 74 = .ok (.iload_n 1, 1) := by decide +kernel
theorem dX8_ofSlip_75 : decode cX8_ofSlip 75 = .ok (.iaload, 1) := by decide +kernel
theorem dX8_ofSlip_76 : decode cX8_ofSlip 76 = .ok (.ireturn, 1) := by decide +kernel
theorem dX8_ofSlip_77 : decode cX8_ofSlip 77 = .ok (.aload_n 0, 1) := by decide +kernel
theorem dX8_ofSlip_78 : decode cX8_ofSlip 78 = .ok (.getfield 28, 3) := by decide +kernel
theorem dX8_ofSlip_81 : decode cX8_ofSlip 81 = .ok (.iload_n 1, 1) := by decide +kernel
theorem dX8_ofSlip_82 : decode cX8_ofSlip 82 = .ok (.iaload, 1) := by decide +kernel
theorem dX8_ofSlip_83 : decode cX8_ofSlip 83 = .ok (.ireturn, 1) := by decide +kernel
theorem dX8_ofSlip_84 : decode cX8_ofSlip 84 = .ok (.aload_n 0, 1) := by decide +kernel
theorem dX8_ofSlip_85 : decode cX8_ofSlip 85 = .ok (.iload_n 1, 1) := by decide +kernel
theorem dX8_ofSlip_86 : decode cX8_ofSlip 86 = .ok (.invokevirtual 130, 3) := by decide +kernel
theorem dX8_ofSlip_89 : decode cX8_ofSlip 89 = .ok (.ireturn, 1) := by decide +kernel
theorem dX8_ofSlip_90 : decode cX8_ofSlip 90 = .ok (.aload_n 0, 1) := by decide +kernel
theorem dX8_ofSlip_91 : decode cX8_ofSlip 91 = .ok (.iload_n 1, 1) := by decide +kernel
theorem dX8_ofSlip_92 : decode cX8_ofSlip 92 = .ok (.invokevirtual 136, 3) := by decide +kernel
theorem dX8_ofSlip_95 : decode cX8_ofSlip 95 = .ok (.ireturn, 1) := by decide +kernel
theorem dX8_ofSlip_96 : decode cX8_ofSlip 96 = .ok (.aload_n 0, 1) := by decide +kernel
theorem dX8_ofSlip_97 : decode cX8_ofSlip 97 = .ok (.getfield 104, 3) := by decide +kernel
theorem dX8_ofSlip_100 : decode cX8_ofSlip 100 = .ok (.iload_n 1, 1) := by decide +kernel
theorem dX8_ofSlip_101 : decode cX8_ofSlip 101 = .ok (.ishr, 1) := by decide +kernel
theorem dX8_ofSlip_102 : decode cX8_ofSlip 102 = .ok (.iconst 1, 1) := by decide +kernel
theorem dX8_ofSlip_103 : decode cX8_ofSlip 103 = .ok (.iand, 1) := by decide +kernel
theorem dX8_ofSlip_104 : decode cX8_ofSlip 104 = .ok (.ireturn, 1) := by decide +kernel
theorem dX8_ofSlip_105 : decode cX8_ofSlip 105 = .ok (.aload_n 0, 1) := by decide +kernel
theorem dX8_ofSlip_106 : decode cX8_ofSlip 106 = .ok (.iload_n 1, 1) := by decide +kernel
theorem dX8_ofSlip_107 : decode cX8_ofSlip 107 = .ok (.invokevirtual 127, 3) := by decide +kernel
theorem dX8_ofSlip_110 : decode cX8_ofSlip 110 = .ok (.ireturn, 1) := by decide +kernel
theorem dX8_ofSlip_111 : decode cX8_ofSlip 111 = .ok (.bipush (-2), 2) := by decide +kernel
theorem dX8_ofSlip_113 : decode cX8_ofSlip 113 = .ok (.ireturn, 1) := by decide +kernel
set_option maxRecDepth 20000 in
theorem ggX8_want_X8_isSlip : GoodIn wsX8_want wsX8_isSlip := goodIn_r _ [6, 7, 11, 12, 13, 14, 15, 16, 17, 18, 19, 20, 21, 22, 23, 24, 25, 26, 27, 28, 29, 30, 31, 32, 33, 34, 35, 36, 37, 38, 39, 40] (by decide +kernel) (by decide +kernel)
set_option maxRecDepth 20000 in
theorem gX8_want_X8_isSlip : GoodIn wsX8_want (wsV RX8 133 RX8 yX8_isSlip wsX8_isSlip) := goodIn_app (goodIn_of _ (by decide +kernel)) ggX8_want_X8_isSlip
set_option maxRecDepth 20000 in
theorem ggX8_want_X8_within : GoodIn wsX8_want wsX8_within := goodIn_r _ [10] (by decide +kernel) (by decide +kernel)
set_option maxRecDepth 20000 in
theorem gX8_want_X8_within : GoodIn wsX8_want (va_wsS RX8 67 yX8_within wsX8_within) := goodIn_app (goodIn_of _ (by decide +kernel)) ggX8_want_X8_within
theorem dX8_want_0 : decode cX8_want 0 = .ok (.aload_n 0, 1) := by decide +kernel
theorem dX8_want_1 : decode cX8_want 1 = .ok (.iload_n 1, 1) := by decide +kernel
theorem dX8_want_2 : decode cX8_want 2 = .ok (.invokevirtual 133, 3) := by decide +kernel
theorem dX8_want_5 : decode cX8_want 5 = .ok (.ifCond .ne 5, 3) := by decide +kernel
theorem dX8_want_8 : decode cX8_want 8 = .ok (.iconst (-1), 1) := by decide +kernel
theorem dX8_want_9 : decode cX8_want 9 = .ok (.ireturn, 1) := by decide +kernel
theorem dX8_want_10 : decode cX8_want 10 = .ok (.iload_n 2, 1) := by decide +kernel
theorem dX8_want_11 : decode cX8_want 11 = .ok (.iconst 0, 1) := by decide +kernel
theorem dX8_want_12 : decode cX8_want 12 = .ok (.bipush 9, 2) := by decide +kernel
theorem dX8_want_14 : decode cX8_want 14 = .ok (.invokestatic 67, 3) := by decide +kernel
theorem dX8_want_17 : decode cX8_want 17 = .ok (.ifCond .ne 6, 3) := by decide +kernel
theorem dX8_want_20 : decode cX8_want 20 = .ok (.bipush (-2), 2) := by decide +kernel
theorem dX8_want_22 : decode cX8_want 22 = .ok (.ireturn, 1) := by decide +kernel
theorem dX8_want_23 : decode cX8_want 23 = .ok (.aload_n 0, 1) := by decide +kernel
theorem dX8_want_24 : decode cX8_want 24 = .ok (.getfield 25, 3) := by decide +kernel
theorem dX8_want_27 : decode cX8_want 27 = .ok (.iload_n 1, 1) := by decide +kernel
theorem dX8_want_28 : decode cX8_want 28 = .ok (.iaload, 1) := by decide +kernel
theorem dX8_want_29 : decode cX8_want 29 = .ok (.istore_n 3, 1) := by decide +kernel
theorem dX8_want_30 : decode cX8_want 30 = .ok (.aload_n 0, 1) := by decide +kernel
theorem dX8_want_31 : decode cX8_want 31 = .ok (.getfield 25, 3) := by decide +kernel
theorem dX8_want_34 : decode cX8_want 34 = .ok (.iload_n 1, 1) := by decide +kernel
theorem dX8_want_35 : decode cX8_want 35 = .ok (.iload_n 2, 1) := by decide +kernel
theorem dX8_want_36 : decode cX8_want 36 = .ok (.iastore, 1) := by decide +kernel
theorem dX8_want_37 : decode cX8_want 37 = .ok (.iload_n 3, 1) := by decide +kernel
theorem dX8_want_38 : decode cX8_want 38 = .ok (.ireturn, 1) := by decide +kernel
set_option maxRecDepth 20000 in
theorem ggX8_see_X8_isSlip : GoodIn wsX8_see wsX8_isSlip := goodIn_r _ [6, 7, 8, 9, 10, 11, 12, 13, 14, 15, 16, 17, 18, 19, 20, 21, 22, 23, 24, 25, 26, 27, 28, 29, 30, 31, 32, 33, 34, 35, 36, 37] (by decide +kernel) (by decide +kernel)
set_option maxRecDepth 20000 in
theorem gX8_see_X8_isSlip : GoodIn wsX8_see (wsV RX8 133 RX8 yX8_isSlip wsX8_isSlip) := goodIn_app (goodIn_of _ (by decide +kernel)) ggX8_see_X8_isSlip
theorem dX8_see_0 : decode cX8_see 0 = .ok (.aload_n 0, 1) := by decide +kernel
theorem dX8_see_1 : decode cX8_see 1 = .ok (.iload_n 1, 1) := by decide +kernel
theorem dX8_see_2 : decode cX8_see 2 = .ok (.invokevirtual 133, 3) := by decide +kernel
theorem dX8_see_5 : decode cX8_see 5 = .ok (.ifCond .eq 17, 3) := by decide +kernel
theorem dX8_see_8 : decode cX8_see 8 = .ok (.aload_n 0, 1) := by decide +kernel
theorem dX8_see_9 : decode cX8_see 9 = .ok (.iload_n 2, 1) := by decide +kernel
theorem dX8_see_10 : decode cX8_see 10 = .ok (.invokevirtual 133, 3) := by decide +kernel
theorem dX8_see_13 : decode cX8_see 13 = .ok (.ifCond .ne 11, 3) := by decide +kernel
theorem dX8_see_16 : decode cX8_see 16 = .ok (.iload_n 2, 1) := by decide +kernel
theorem dX8_see_17 : decode cX8_see 17 = .ok (.bipush (-9), 2) := by decide +kernel
theorem dX8_see_19 : decode cX8_see 19 = .ok (.if_icmp .eq 5, 3) := by decide +kernel
theorem dX8_see_22 : decode cX8_see 22 = .ok (.iconst (-1), 1) := by decide +kernel
theorem dX8_see_23 : decode cX8_see 23 = .ok (.ireturn, 1) := by decide +kernel
theorem dX8_see_24 : decode cX8_see 24 = .ok (.aload_n 0, 1) := by decide +kernel
theorem dX8_see_25 : decode cX8_see 25 = .ok (.getfield 28, 3) := by decide +kernel
theorem dX8_see_28 : decode cX8_see 28 = .ok (.iload_n 1, 1) := by decide +kernel
theorem dX8_see_29 : decode cX8_see 29 = .ok (.iaload, 1) := by decide +kernel
theorem dX8_see_30 : decode cX8_see 30 = .ok (.istore_n 3, 1) := by decide +kernel
theorem dX8_see_31 : decode cX8_see 31 = .ok (.aload_n 0, 1) := by decide +kernel
theorem dX8_see_32 : decode cX8_see 32 = .ok (.getfield 28, 3) := by decide +kernel
theorem dX8_see_35 : decode cX8_see 35 = .ok (.iload_n 1, 1) := by decide +kernel
theorem dX8_see_36 : decode cX8_see 36 = .ok (.iload_n 2, 1) := by decide +kernel
theorem dX8_see_37 : decode cX8_see 37 = .ok (.iastore, 1) := by decide +kernel
theorem dX8_see_38 : decode cX8_see 38 = .ok (.iload_n 3, 1) := by decide +kernel
theorem dX8_see_39 : decode cX8_see 39 = .ok (.ireturn, 1) := by decide +kernel
set_option maxRecDepth 20000 in
theorem ggX8_ask_X8_isSlip : GoodIn wsX8_ask wsX8_isSlip := goodIn_r _ [6, 7, 24, 25, 26, 27, 28, 29, 30, 31, 32, 33, 34, 35, 36, 37, 38, 39, 40, 41, 42, 43, 44, 45, 46, 47, 48, 49, 50, 51, 52, 53] (by decide +kernel) (by decide +kernel)
set_option maxRecDepth 20000 in
theorem gX8_ask_X8_isSlip : GoodIn wsX8_ask (wsV RX8 133 RX8 yX8_isSlip wsX8_isSlip) := goodIn_app (goodIn_of _ (by decide +kernel)) ggX8_ask_X8_isSlip
set_option maxRecDepth 20000 in
theorem ggX8_ask_X8_leafOf : GoodIn wsX8_ask wsX8_leafOf := goodIn_r _ [11, 12, 7, 13, 14, 15, 16, 5, 17, 18, 19, 20, 21, 22, 23, 24, 25, 26, 27, 28, 29, 30, 31, 32, 33, 34, 35, 36, 37, 38, 39, 40, 41, 42, 43, 44, 45, 46, 47, 48, 49, 50, 51, 52, 53] (by decide +kernel) (by decide +kernel)
set_option maxRecDepth 20000 in
theorem gX8_ask_X8_leafOf : GoodIn wsX8_ask (wsV RX8 130 RX8 yX8_leafOf wsX8_leafOf) := goodIn_app (goodIn_of _ (by decide +kernel)) ggX8_ask_X8_leafOf
theorem dX8_ask_0 : decode cX8_ask 0 = .ok (.aload_n 0, 1) := by decide +kernel
theorem dX8_ask_1 : decode cX8_ask 1 = .ok (.iload_n 1, 1) := by decide +kernel
theorem dX8_ask_2 : decode cX8_ask 2 = .ok (.invokevirtual 133, 3) := by decide +kernel
theorem dX8_ask_5 : decode cX8_ask 5 = .ok (.ifCond .ne 5, 3) := by decide +kernel
theorem dX8_ask_8 : decode cX8_ask 8 = .ok (.iconst (-1), 1) := by decide +kernel
theorem dX8_ask_9 : decode cX8_ask 9 = .ok (.ireturn, 1) := by decide +kernel
theorem dX8_ask_10 : decode cX8_ask 10 = .ok (.aload_n 0, 1) := by decide +kernel
theorem dX8_ask_11 : decode cX8_ask 11 = .ok (.dup, 1) := by decide +kernel
theorem dX8_ask_12 : decode cX8_ask 12 = .ok (.getfield 101, 3) := by decide +kernel
theorem dX8_ask_15 : decode cX8_ask 15 = .ok (.iconst 1, 1) := by decide +kernel
theorem dX8_ask_16 : decode cX8_ask 16 = .ok (.iadd, 1) := by decide +kernel
theorem dX8_ask_17 : decode cX8_ask 17 = .ok (.putfield 101, 3) := by decide +kernel
theorem dX8_ask_20 : decode cX8_ask 20 = .ok (.aload_n 0, 1) := by decide +kernel
theorem dX8_ask_21 : decode cX8_ask 21 = .ok (.iload_n 1, 1) := by decide +kernel
theorem dX8_ask_22 : decode cX8_ask 22 = .ok (.invokevirtual 130, 3) := by decide +kernel
theorem dX8_ask_25 : decode cX8_ask 25 = .ok (.ireturn, 1) := by decide +kernel
set_option maxRecDepth 20000 in
theorem ggX8_wet_X8_isSlip : GoodIn wsX8_wet wsX8_isSlip := goodIn_r _ [6, 7, 14, 15, 16, 17, 18, 19, 20, 21, 22, 23, 24, 25, 26, 27, 28, 29, 30, 31, 32, 33, 34, 35, 36, 37, 38, 39, 40, 41, 42, 43] (by decide +kernel) (by decide +kernel)
set_option maxRecDepth 20000 in
theorem gX8_wet_X8_isSlip : GoodIn wsX8_wet (wsV RX8 133 RX8 yX8_isSlip wsX8_isSlip) := goodIn_app (goodIn_of _ (by decide +kernel)) ggX8_wet_X8_isSlip
set_option maxRecDepth 20000 in
theorem ggX8_wet_X8_isOf : GoodIn wsX8_wet wsX8_isOf := goodIn_r _ [10] (by decide +kernel) (by decide +kernel)
set_option maxRecDepth 20000 in
theorem gX8_wet_X8_isOf : GoodIn wsX8_wet (va_wsS RX8 124 yX8_isOf wsX8_isOf) := goodIn_app (goodIn_of _ (by decide +kernel)) ggX8_wet_X8_isOf
set_option maxRecDepth 20000 in
theorem ggX8_wet_X8_size : GoodIn wsX8_wet wsX8_size := goodIn_r _ [13] (by decide +kernel) (by decide +kernel)
set_option maxRecDepth 20000 in
theorem gX8_wet_X8_size : GoodIn wsX8_wet (va_wsS RX8 139 yX8_size wsX8_size) := goodIn_app (goodIn_of _ (by decide +kernel)) ggX8_wet_X8_size
theorem dX8_wet_0 : decode cX8_wet 0 = .ok (.aload_n 0, 1) := by decide +kernel
theorem dX8_wet_1 : decode cX8_wet 1 = .ok (.iload_n 1, 1) := by decide +kernel
theorem dX8_wet_2 : decode cX8_wet 2 = .ok (.invokevirtual 133, 3) := by decide +kernel
theorem dX8_wet_5 : decode cX8_wet 5 = .ok (.ifCond .ne 5, 3) := by decide +kernel
theorem dX8_wet_8 : decode cX8_wet 8 = .ok (.iconst (-1), 1) := by decide +kernel
theorem dX8_wet_9 : decode cX8_wet 9 = .ok (.ireturn, 1) := by decide +kernel
theorem dX8_wet_10 : decode cX8_wet 10 = .ok (.aload_n 0, 1) := by decide +kernel
theorem dX8_wet_11 : decode cX8_wet 11 = .ok (.getfield 104, 3) := by decide +kernel
theorem dX8_wet_14 : decode cX8_wet 14 = .ok (.iload_n 1, 1) := by decide +kernel
theorem dX8_wet_15 : decode cX8_wet 15 = .ok (.invokestatic 124, 3) := by decide +kernel
theorem dX8_wet_18 : decode cX8_wet 18 = .ok (.ifCond .eq 6, 3) := by decide +kernel
theorem dX8_wet_21 : decode cX8_wet 21 = .ok (.bipush (-3), 2) := by decide +kernel
theorem dX8_wet_23 : decode cX8_wet 23 = .ok (.ireturn, 1) := by decide +kernel
theorem dX8_wet_24 : decode cX8_wet 24 = .ok (.aload_n 0, 1) := by decide +kernel
theorem dX8_wet_25 : decode cX8_wet 25 = .ok (.dup, 1) := by decide +kernel
theorem dX8_wet_26 : decode cX8_wet 26 = .ok (.getfield 104, 3) := by decide +kernel
theorem dX8_wet_29 : decode cX8_wet 29 = .ok (.iconst 1, 1) := by decide +kernel
theorem dX8_wet_30 : decode cX8_wet 30 = .ok (.iload_n 1, 1) := by decide +kernel
theorem dX8_wet_31 : decode cX8_wet 31 = .ok (.ishl, 1) := by decide +kernel
theorem dX8_wet_32 : decode cX8_wet 32 = .ok (.ior, 1) := by decide +kernel
theorem dX8_wet_33 : decode cX8_wet 33 = .ok (.putfield 104, 3) := by decide +kernel
theorem dX8_wet_36 : decode cX8_wet 36 = .ok (.aload_n 0, 1) := by decide +kernel
theorem dX8_wet_37 : decode cX8_wet 37 = .ok (.getfield 104, 3) := by decide +kernel
theorem dX8_wet_40 : decode cX8_wet 40 = .ok (.invokestatic 139, 3) := by decide +kernel
theorem dX8_wet_43 : decode cX8_wet 43 = .ok (.ireturn, 1) := by decide +kernel
set_option maxRecDepth 20000 in
theorem ggX8_dry_X8_isSlip : GoodIn wsX8_dry wsX8_isSlip := goodIn_r _ [6, 7, 14, 15, 16, 17, 18, 19, 20, 21, 22, 23, 24, 25, 26, 27, 28, 29, 30, 31, 32, 33, 34, 35, 36, 37, 38, 39, 40, 41, 42, 43] (by decide +kernel) (by decide +kernel)
set_option maxRecDepth 20000 in
theorem gX8_dry_X8_isSlip : GoodIn wsX8_dry (wsV RX8 133 RX8 yX8_isSlip wsX8_isSlip) := goodIn_app (goodIn_of _ (by decide +kernel)) ggX8_dry_X8_isSlip
set_option maxRecDepth 20000 in
theorem ggX8_dry_X8_isOf : GoodIn wsX8_dry wsX8_isOf := goodIn_r _ [10] (by decide +kernel) (by decide +kernel)
set_option maxRecDepth 20000 in
theorem gX8_dry_X8_isOf : GoodIn wsX8_dry (va_wsS RX8 124 yX8_isOf wsX8_isOf) := goodIn_app (goodIn_of _ (by decide +kernel)) ggX8_dry_X8_isOf
set_option maxRecDepth 20000 in
theorem ggX8_dry_X8_size : GoodIn wsX8_dry wsX8_size := goodIn_r _ [13] (by decide +kernel) (by decide +kernel)
set_option maxRecDepth 20000 in
theorem gX8_dry_X8_size : GoodIn wsX8_dry (va_wsS RX8 139 yX8_size wsX8_size) := goodIn_app (goodIn_of _ (by decide +kernel)) ggX8_dry_X8_size
theorem dX8_dry_0 : decode cX8_dry 0 = .ok (.aload_n 0, 1) := by decide +kernel
theorem dX8_dry_1 : decode cX8_dry 1 = .ok (.iload_n 1, 1) := by decide +kernel
theorem dX8_dry_2 : decode cX8_dry 2 = .ok (.invokevirtual 133, 3) := by decide +kernel
theorem dX8_dry_5 : decode cX8_dry 5 = .ok (.ifCond .ne 5, 3) := by decide +kernel
theorem dX8_dry_8 : decode cX8_dry 8 = .ok (.iconst (-1), 1) := by decide +kernel
theorem dX8_dry_9 : decode cX8_dry 9 = .ok (.ireturn, 1) := by decide +kernel
theorem dX8_dry_10 : decode cX8_dry 10 = .ok (.aload_n 0, 1) := by decide +kernel
theorem dX8_dry_11 : decode cX8_dry 11 = .ok (.getfield 104, 3) := by decide +kernel
theorem dX8_dry_14 : decode cX8_dry 14 = .ok (.iload_n 1, 1) := by decide +kernel
theorem dX8_dry_15 : decode cX8_dry 15 = .ok (.invokestatic 124, 3) := by decide +kernel
theorem dX8_dry_18 : decode cX8_dry 18 = .ok (.ifCond .ne 6, 3) := by decide +kernel
theorem dX8_dry_21 : decode cX8_dry 21 = .ok (.bipush (-3), 2) := by decide +kernel
theorem dX8_dry_23 : decode cX8_dry 23 = .ok (.ireturn, 1) := by decide +kernel
theorem dX8_dry_24 : decode cX8_dry 24 = .ok (.aload_n 0, 1) := by decide +kernel
theorem dX8_dry_25 : decode cX8_dry 25 = .ok (.dup, 1) := by decide +kernel
theorem dX8_dry_26 : decode cX8_dry 26 = .ok (.getfield 104, 3) := by decide +kernel
theorem dX8_dry_29 : decode cX8_dry 29 = .ok (.iconst 1, 1) := by decide +kernel
theorem dX8_dry_30 : decode cX8_dry 30 = .ok (.iload_n 1, 1) := by decide +kernel
theorem dX8_dry_31 : decode cX8_dry 31 = .ok (.ishl, 1) := by decide +kernel
theorem dX8_dry_32 : decode cX8_dry 32 = .ok (.iconst (-1), 1) := by decide +kernel
theorem dX8_dry_33 : decode cX8_dry 33 = .ok (.ixor, 1) := by decide +kernel
theorem dX8_dry_34 : decode cX8_dry 34 = .ok (.iand, 1) := by decide +kernel
theorem dX8_dry_35 : decode cX8_dry 35 = .ok (.putfield 104, 3) := by decide +kernel
theorem dX8_dry_38 : decode cX8_dry 38 = .ok (.aload_n 0, 1) := by decide +kernel
theorem dX8_dry_39 : decode cX8_dry 39 = .ok (.getfield 104, 3) := by decide +kernel
theorem dX8_dry_42 : decode cX8_dry 42 = .ok (.invokestatic 139, 3) := by decide +kernel
theorem dX8_dry_45 : decode cX8_dry 45 = .ok (.ireturn, 1) := by decide +kernel
set_option maxRecDepth 20000 in
theorem ggX8_leads_X8_within : GoodIn wsX8_leads wsX8_within := goodIn_r _ [5] (by decide +kernel) (by decide +kernel)
set_option maxRecDepth 20000 in
theorem gX8_leads_X8_within : GoodIn wsX8_leads (va_wsS RX8 67 yX8_within wsX8_within) := goodIn_app (goodIn_of _ (by decide +kernel)) ggX8_leads_X8_within
set_option maxRecDepth 20000 in
theorem ggX8_leads_X8_leafOf : GoodIn wsX8_leads wsX8_leafOf := goodIn_r _ [9, 10, 1, 11, 12, 13, 14, 4, 15, 16, 17, 18, 19, 20, 21, 22, 23, 24, 25, 26, 27, 28, 29, 30, 31, 32, 33, 34, 35, 36, 37, 38, 39, 40, 41, 42, 43, 44, 45, 46, 47, 48, 49, 50, 51] (by decide +kernel) (by decide +kernel)
set_option maxRecDepth 20000 in
theorem gX8_leads_X8_leafOf : GoodIn wsX8_leads (wsV RX8 130 RX8 yX8_leafOf wsX8_leafOf) := goodIn_app (goodIn_of _ (by decide +kernel)) ggX8_leads_X8_leafOf
theorem dX8_leads_0 : decode cX8_leads 0 = .ok (.iload_n 1, 1) := by decide +kernel
theorem dX8_leads_1 : decode cX8_leads 1 = .ok (.iconst 0, 1) := by decide +kernel
theorem dX8_leads_2 : decode cX8_leads 2 = .ok (.bipush 98, 2) := by decide +kernel
theorem dX8_leads_4 : decode cX8_leads 4 = .ok (.invokestatic 67, 3) := by decide +kernel
theorem dX8_leads_7 : decode cX8_leads 7 = .ok (.ifCond .ne 6, 3) := by decide +kernel
theorem dX8_leads_10 : decode cX8_leads 10 = .ok (.bipush (-2), 2) := by decide +kernel
theorem dX8_leads_12 : decode cX8_leads 12 = .ok (.ireturn, 1) := by decide +kernel
theorem dX8_leads_13 : decode cX8_leads 13 = .ok (.aload_n 0, 1) := by decide +kernel
theorem dX8_leads_14 : decode cX8_leads 14 = .ok (.getfield 71, 3) := by decide +kernel
theorem dX8_leads_17 : decode cX8_leads 17 = .ok (.ifCond .ne 6, 3) := by decide +kernel
theorem dX8_leads_20 : decode cX8_leads 20 = .ok (.bipush (-3), 2) := by decide +kernel
theorem dX8_leads_22 : decode cX8_leads 22 = .ok (.ireturn, 1) := by decide +kernel
theorem dX8_leads_23 : decode cX8_leads 23 = .ok (.iconst 0, 1) := by decide +kernel
theorem dX8_leads_24 : decode cX8_leads 24 = .ok (.istore_n 2, 1) := by decide +kernel
theorem dX8_leads_25 : decode cX8_leads 25 = .ok (.iconst 0, 1) := by decide +kernel
theorem dX8_leads_26 : decode cX8_leads 26 = .ok (.istore_n 3, 1) := by decide +kernel
theorem dX8_leads_27 : decode cX8_leads 27 = .ok (.iload_n 3, 1) := by decide +kernel
theorem dX8_leads_28 : decode cX8_leads 28 = .ok (.aload_n 0, 1) := by decide +kernel
theorem dX8_leads_29 : decode cX8_leads 29 = .ok (.getfield 71, 3) := by decide +kernel
theorem dX8_leads_32 : decode cX8_leads 32 = .ok (.if_icmp .ge 28, 3) := by decide +kernel
theorem dX8_leads_35 : decode cX8_leads 35 = .ok (.iload_n 2, 1) := by decide +kernel
theorem dX8_leads_36 : decode cX8_leads 36 = .ok (.aload_n 0, 1) := by decide +kernel
theorem dX8_leads_37 : decode cX8_leads 37 = .ok (.iload_n 3, 1) := by decide +kernel
theorem dX8_leads_38 : decode cX8_leads 38 = .ok (.invokevirtual 130, 3) := by decide +kernel
theorem dX8_leads_41 : decode cX8_leads 41 = .ok (.iload_n 1, 1) := by decide +kernel
theorem dX8_leads_42 : decode cX8_leads 42 = .ok (.if_icmp .ne 9, 3) := by decide +kernel
theorem dX8_leads_45 : decode cX8_leads 45 = .ok (.iconst 1, 1) := by decide +kernel
theorem dX8_leads_46 : decode cX8_leads 46 = .ok (.iload_n 3, 1) := by decide +kernel
theorem dX8_leads_47 : decode cX8_leads 47 = .ok (.ishl, 1) := by decide +kernel
theorem dX8_leads_48 : decode cX8_leads 48 = .ok (.goto 4, 3) := by decide +kernel
theorem dX8_leads_51 : decode cX8_leads 51 = .ok (.iconst 0, 1) := by decide +kernel
theorem dX8_leads_52 : decode cX8_leads 52 = .ok (.ior, 1) := by decide +kernel
theorem dX8_leads_53 : decode cX8_leads 53 = .ok (.istore_n 2, 1) := by decide +kernel
theorem dX8_leads_54 : decode cX8_leads 54 = .ok (.iinc 3 1, 3) := by decide +kernel
theorem dX8_leads_57 : decode cX8_leads 57 = .ok (.goto (-30), 3) := by decide +kernel
theorem dX8_leads_60 : decode cX8_leads 60 = .ok (.iload_n 2, 1) := by decide +kernel
theorem dX8_leads_61 : decode cX8_leads 61 = .ok (.ireturn, 1) := by decide +kernel
set_option maxRecDepth 20000 in
theorem ggX8_does_X8_leafOf : GoodIn wsX8_does wsX8_leafOf := goodIn_r _ [10, 11, 4, 5, 3, 12, 13, 9, 14, 15, 16, 17, 18, 19, 20, 21, 22, 23, 24, 25, 26, 27, 28, 29, 30, 31, 32, 33, 34, 35, 36, 37, 38, 39, 40, 41, 42, 43, 44, 45, 46, 47, 48, 49, 50] (by decide +kernel) (by decide +kernel)
set_option maxRecDepth 20000 in
theorem gX8_does_X8_leafOf : GoodIn wsX8_does (wsV RX8 130 RX8 yX8_leafOf wsX8_leafOf) := goodIn_app (goodIn_of _ (by decide +kernel)) ggX8_does_X8_leafOf
set_option maxRecDepth 20000 in
theorem ggX8_does_X8_isOf : GoodIn wsX8_does wsX8_isOf := goodIn_r _ [14] (by decide +kernel) (by decide +kernel)
set_option maxRecDepth 20000 in
theorem gX8_does_X8_isOf : GoodIn wsX8_does (va_wsS RX8 124 yX8_isOf wsX8_isOf) := goodIn_app (goodIn_of _ (by decide +kernel)) ggX8_does_X8_isOf
theorem dX8_does_0 : decode cX8_does 0 = .ok (.iload_n 2, 1) := by decide +kernel
theorem dX8_does_1 : decode cX8_does 1 = .ok (.ifCond .ne 61, 3) := by decide +kernel
theorem dX8_does_4 : decode cX8_does 4 = .ok (.aload_n 0, 1) := by decide +kernel
theorem dX8_does_5 : decode cX8_does 5 = .ok (.iload_n 1, 1) := by decide +kernel
theorem dX8_does_6 : decode cX8_does 6 = .ok (.invokevirtual 130, 3) := by decide +kernel
theorem dX8_does_9 : decode cX8_does 9 = .ok (.istore_n 3, 1) := by decide +kernel
theorem dX8_does_10 : decode cX8_does 10 = .ok (.aload_n 0, 1) := by decide +kernel
theorem dX8_does_11 : decode cX8_does 11 = .ok (.dup, 1) := by decide +kernel
theorem dX8_does_12 : decode cX8_does 12 = .ok (.getfield 142, 3) := by decide +kernel
theorem dX8_does_15 : decode cX8_does 15 = .ok (.iload_n 3, 1) := by decide +kernel
theorem dX8_does_16 : decode cX8_does 16 = .ok (.bipush (-9), 2) := by decide +kernel
theorem dX8_does_18 : decode cX8_does 18 = .ok (.if_icmp .ne 7, 3) := by decide +kernel
theorem dX8_does_21 : decode cX8_does 21 = .ok (.iconst 0, 1) := by decide +kernel
theorem dX8_does_22 : decode cX8_does 22 = .ok (.goto 4, 3) := by decide +kernel
theorem dX8_does_25 : decode cX8_does 25 = .ok (.iconst 1, 1) := by decide +kernel
theorem dX8_does_26 : decode cX8_does 26 = .ok (.iadd, 1) := by decide +kernel
theorem dX8_does_27 : decode cX8_does 27 = .ok (.putfield 142, 3) := by decide +kernel
theorem dX8_does_30 : decode cX8_does 30 = .ok (.aload_n 0, 1) := by decide +kernel
theorem dX8_does_31 : decode cX8_does 31 = .ok (.dup, 1) := by decide +kernel
theorem dX8_does_32 : decode cX8_does 32 = .ok (.getfield 145, 3) := by decide +kernel
theorem dX8_does_35 : decode cX8_does 35 = .ok (.iload_n 3, 1) := by decide +kernel
theorem dX8_does_36 : decode cX8_does 36 = .ok (.bipush (-9), 2) := by decide +kernel
theorem dX8_does_38 : decode cX8_does 38 = .ok (.if_icmp .ne 7, 3) := by decide +kernel
theorem dX8_does_41 : decode cX8_does 41 = .ok (.iconst 0, 1) := by decide +kernel
theorem dX8_does_42 : decode cX8_does 42 = .ok (.goto 4, 3) := by decide +kernel
theorem dX8_does_45 : decode cX8_does 45 = .ok (.iload_n 3, 1) := by decide +kernel
theorem dX8_does_46 : decode cX8_does 46 = .ok (.iadd, 1) := by decide +kernel
theorem dX8_does_47 : decode cX8_does 47 = .ok (.putfield 145, 3) := by decide +kernel
theorem dX8_does_50 : decode cX8_does 50 = .ok (.iload_n 3, 1) := by decide +kernel
theorem dX8_does_51 : decode cX8_does 51 = .ok (.bipush (-9), 2) := by decide +kernel
theorem dX8_does_53 : decode cX8_does 53 = .ok (.if_icmp .eq 7, 3) := by decide +kernel
theorem dX8_does_56 : decode cX8_does 56 = .ok (.iconst 1, 1) := by decide +kernel
theorem dX8_does_57 : decode cX8_does 57 = .ok (.goto 4, 3) := by decide +kernel
theorem dX8_does_60 : decode cX8_does 60 = .ok (.iconst 0, 1) := by decide +kernel
theorem dX8_does_61 : decode cX8_does 61 = .ok (.ireturn, 1) := by decide +kernel
theorem dX8_does_62 : decode cX8_does 62 = .ok (.iload_n 2, 1) := by decide +kernel
theorem dX8_does_63 : decode cX8_does 63 = .ok (.bipush 10, 2) := by decide +kernel
theorem dX8_does_65 : decode cX8_does 65 = .ok (.if_icmp .lt 31, 3) := by decide +kernel
theorem dX8_does_68 : decode cX8_does 68 = .ok (.aload_n 0, 1) := by decide +kernel
theorem dX8_does_69 : decode cX8_does 69 = .ok (.getfield 28, 3) := by decide +kernel
theorem dX8_does_72 : decode cX8_does 72 = .ok (.iload_n 1, 1) := by decide +kernel
theorem dX8_does_73 : decode cX8_does 73 = .ok (.iload_n 2, 1) := by decide +kernel
theorem dX8_does_74 : decode cX8_does 74 = .ok (.bipush 10, 2) := by decide +kernel
theorem dX8_does_76 : decode cX8_does 76 = .ok (.isub, 1) := by decide +kernel
theorem dX8_does_77 : decode cX8_does 77 = .ok (.aload_n 0, 1) := by decide +kernel
theorem dX8_does_78 : decode cX8_does 78 = .ok (.getfield 71, 3) := by decide +kernel
theorem dX8_does_81 : decode cX8_does 81 = .ok (.if_icmp .ge 10, 3) := by decide +kernel
theorem dX8_does_84 : decode cX8_does 84 = .ok (.iload_n 2, 1) := by decide +kernel
theorem dX8_does_85 : decode cX8_does 85 = .ok (.bipush 10, 2) := by decide +kernel
theorem dX8_does_87 : decode cX8_does 87 = .ok (.isub, 1) := by decide +kernel
theorem dX8_does_88 : decode cX8_does 88 = .ok (.goto 5, 3) := by decide +kernel
theorem dX8_does_91 : decode cX8_does 91 = .ok (.bipush (-9), 2) := by decide +kernel
theorem dX8_does_93 : decode cX8_does 93 = .ok (.iastore, 1) := by decide +kernel
theorem dX8_does_94 : decode cX8_does 94 = .ok (.iconst 1, 1) := by decide +kernel
theorem dX8_does_95 : decode cX8_does 95 = .ok (.ireturn, 1) := by decide +kernel
theorem dX8_does_96 : decode cX8_does 96 = .ok (.aload_n 0, 1) := by decide +kernel
theorem dX8_does_97 : decode cX8_does 97 = .ok (.getfield 104, 3) := by decide +kernel
theorem dX8_does_100 : decode cX8_does 100 = .ok (.iload_n 1, 1) := by decide +kernel
theorem dX8_does_101 : decode cX8_does 101 = .ok (.invokestatic 124, 3) := by decide +kernel
theorem dX8_does_104 : decode cX8_does 104 = .ok (.iload_n 2, 1) := by decide +kernel
theorem dX8_does_105 : decode cX8_does 105 = .ok (.iconst 2, 1) := by decide +kernel
theorem dX8_does_106 : decode cX8_does 106 = .ok (.if_icmp .ne 7, 3) := by decide +kernel
theorem dX8_does_109 : decode cX8_does 109 = .ok (.iconst 1, 1) := by decide +kernel
theorem dX8_does_110 : decode cX8_does 110 = .ok (.goto 4, 3) := by decide +kernel
theorem dX8_does_113 : decode cX8_does 113 = .ok (.iconst 0, 1) := by decide +kernel
theorem dX8_does_114 : decode cX8_does 114 = .ok (.if_icmp .eq 5, 3) := by decide +kernel
theorem dX8_does_117 : decode cX8_does 117 = .ok (.iconst 0, 1) := by decide +kernel
theorem dX8_does_118 : decode cX8_does 118 = .ok (.ireturn, 1) := by decide +kernel
theorem dX8_does_119 : decode cX8_does 119 = .ok (.aload_n 0, 1) := by decide +kernel
theorem dX8_does_120 : decode cX8_does 120 = .ok (.dup, 1) := by decide +kernel
theorem dX8_does_121 : decode cX8_does 121 = .ok (.getfield 104, 3) := by decide +kernel
theorem dX8_does_124 : decode cX8_does 124 = .ok (.iconst 1, 1) := by decide +kernel
theorem dX8_does_125 : decode cX8_does 125 = .ok (.iload_n 1, 1) := by decide +kernel
theorem dX8_does_126 : decode cX8_does 126 = .ok (.ishl, 1) := by decide +kernel
theorem dX8_does_127 : decode cX8_does 127 = .ok (.ixor, 1) := by decide +kernel
theorem dX8_does_128 : decode cX8_does 128 = .ok (.putfield 104, 3) := by decide +kernel
theorem dX8_does_131 : decode cX8_does 131 = .ok (.iconst 1, 1) := by decide +kernel
theorem dX8_does_132 : decode cX8_does 132 = .ok (.ireturn, 1) := by decide +kernel
set_option maxRecDepth 20000 in
theorem ggX8_goYears_X8_does : GoodIn wsX8_goYears wsX8_does := goodIn_r _ [9, 2, 1, 10, 11, 12, 13, 14, 15, 8, 16, 17, 18, 19, 20, 21, 22, 23, 24, 25, 26, 27, 28, 29, 30, 31, 32, 33, 34, 35, 36, 37, 38, 39, 40, 41, 42, 43, 44, 45, 46, 47, 48, 49, 50, 51, 52, 53, 54, 55, 56] (by decide +kernel) (by decide +kernel)
set_option maxRecDepth 20000 in
theorem gX8_goYears_X8_does : GoodIn wsX8_goYears (wsV RX8 151 RX8 yX8_does wsX8_does) := goodIn_app (goodIn_of _ (by decide +kernel)) ggX8_goYears_X8_does
theorem dX8_goYears_0 : decode cX8_goYears 0 = .ok (.aload_n 0, 1) := by decide +kernel
theorem dX8_goYears_1 : decode cX8_goYears 1 = .ok (.iconst 0, 1) := by decide +kernel
theorem dX8_goYears_2 : decode cX8_goYears 2 = .ok (.putfield 145, 3) := by decide +kernel
