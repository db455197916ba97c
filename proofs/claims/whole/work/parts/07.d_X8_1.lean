theorem dX8_goYears_5 : decode cX8_goYears 5 = .ok (.aload_n 0, 1) := by decide +kernel
theorem dX8_goYears_6 : decode cX8_goYears 6 = .ok (.iconst 0, 1) := by decide +kernel
theorem dX8_goYears_7 : decode cX8_goYears 7 = .ok (.putfield 142, 3) := by decide +kernel
theorem dX8_goYears_10 : decode cX8_goYears 10 = .ok (.aload_n 0, 1) := by decide +kernel
theorem dX8_goYears_11 : decode cX8_goYears 11 = .ok (.bipush (-9), 2) := by decide +kernel
theorem dX8_goYears_13 : decode cX8_goYears 13 = .ok (.putfield 148, 3) := by decide +kernel
theorem dX8_goYears_16 : decode cX8_goYears 16 = .ok (.iconst 0, 1) := by decide +kernel
theorem dX8_goYears_17 : decode cX8_goYears 17 = .ok (.istore_n 3, 1) := by decide +kernel
theorem dX8_goYears_18 : decode cX8_goYears 18 = .ok (.iload_n 3, 1) := by decide +kernel
theorem dX8_goYears_19 : decode cX8_goYears 19 = .ok (.iload_n 2, 1) := by decide +kernel
theorem dX8_goYears_20 : decode cX8_goYears 20 = .ok (.if_icmp .ge 63, 3) := by decide +kernel
theorem dX8_goYears_23 : decode cX8_goYears 23 = .ok (.aload_n 0, 1) := by decide +kernel
theorem dX8_goYears_24 : decode cX8_goYears 24 = .ok (.aload_n 0, 1) := by decide +kernel
theorem dX8_goYears_25 : decode cX8_goYears 25 = .ok (.getfield 16, 3) := by decide +kernel
theorem dX8_goYears_28 : decode cX8_goYears 28 = .ok (.iload_n 1, 1) := by decide +kernel
theorem dX8_goYears_29 : decode cX8_goYears 29 = .ok (.iconst 2, 1) := by decide +kernel
theorem dX8_goYears_30 : decode cX8_goYears 30 = .ok (.iload_n 3, 1) := by decide +kernel
theorem dX8_goYears_31 : decode cX8_goYears 31 = .ok (.imul, 1) := by decide +kernel
theorem dX8_goYears_32 : decode cX8_goYears 32 = .ok (.iadd, 1) := by decide +kernel
theorem dX8_goYears_33 : decode cX8_goYears 33 = .ok (.iaload, 1) := by decide +kernel
theorem dX8_goYears_34 : decode cX8_goYears 34 = .ok (.aload_n 0, 1) := by decide +kernel
theorem dX8_goYears_35 : decode cX8_goYears 35 = .ok (.getfield 16, 3) := by decide +kernel
theorem dX8_goYears_38 : decode cX8_goYears 38 = .ok (.iload_n 1, 1) := by decide +kernel
theorem dX8_goYears_39 : decode cX8_goYears 39 = .ok (.iconst 2, 1) := by decide +kernel
theorem dX8_goYears_40 : decode cX8_goYears 40 = .ok (.iload_n 3, 1) := by decide +kernel
theorem dX8_goYears_41 : decode cX8_goYears 41 = .ok (.imul, 1) := by decide +kernel
theorem dX8_goYears_42 : decode cX8_goYears 42 = .ok (.iadd, 1) := by decide +kernel
theorem dX8_goYears_43 : decode cX8_goYears 43 = .ok (.iconst 1, 1) := by decide +kernel
theorem dX8_goYears_44 : decode cX8_goYears 44 = .ok (.iadd, 1) := by decide +kernel
theorem dX8_goYears_45 : decode cX8_goYears 45 = .ok (.iaload, 1) := by decide +kernel
theorem dX8_goYears_46 : decode cX8_goYears 46 = .ok (.invokevirtual 151, 3) := by decide +kernel
theorem dX8_goYears_49 : decode cX8_goYears 49 = .ok (.istore 4, 2) := by decide +kernel
theorem dX8_goYears_51 : decode cX8_goYears 51 = .ok (.aload_n 0, 1) := by decide +kernel
theorem dX8_goYears_52 : decode cX8_goYears 52 = .ok (.aload_n 0, 1) := by decide +kernel
theorem dX8_goYears_53 : decode cX8_goYears 53 = .ok (.getfield 148, 3) := by decide +kernel
theorem dX8_goYears_56 : decode cX8_goYears 56 = .ok (.bipush (-9), 2) := by decide +kernel
theorem dX8_goYears_58 : decode cX8_goYears 58 = .ok (.if_icmp .ne 12, 3) := by decide +kernel
theorem dX8_goYears_61 : decode cX8_goYears 61 = .ok (.iload 4, 2) := by decide +kernel
theorem dX8_goYears_63 : decode cX8_goYears 63 = .ok (.ifCond .ne 7, 3) := by decide +kernel
theorem dX8_goYears_66 : decode cX8_goYears 66 = .ok (.iload_n 3, 1) := by decide +kernel
theorem dX8_goYears_67 : decode cX8_goYears 67 = .ok (.goto 7, 3) := by decide +kernel
theorem dX8_goYears_70 : decode cX8_goYears 70 = .ok (.aload_n 0, 1) := by decide +kernel
theorem dX8_goYears_71 : decode cX8_goYears 71 = .ok (.getfield 148, 3) := by decide +kernel
theorem dX8_goYears_74 : decode cX8_goYears 74 = .ok (.putfield 148, 3) := by decide +kernel
theorem dX8_goYears_77 : decode cX8_goYears 77 = .ok (.iinc 3 1, 3) := by decide +kernel
theorem dX8_goYears_80 : decode cX8_goYears 80 = .ok (.goto (-62), 3) := by decide +kernel
theorem dX8_goYears_83 : decode cX8_goYears 83 = .ok (.return_, 1) := by decide +kernel
set_option maxRecDepth 20000 in
theorem ggX8_refusesPair_X8_within : GoodIn wsX8_refusesPair wsX8_within := goodIn_r _ [4] (by decide +kernel) (by decide +kernel)
set_option maxRecDepth 20000 in
theorem gX8_refusesPair_X8_within : GoodIn wsX8_refusesPair (va_wsS RX8 67 yX8_within wsX8_within) := goodIn_app (goodIn_of _ (by decide +kernel)) ggX8_refusesPair_X8_within
set_option maxRecDepth 20000 in
theorem ggX8_refusesPair_X8_isSlip : GoodIn wsX8_refusesPair wsX8_isSlip := goodIn_r _ [8, 9, 10, 11, 12, 13, 14, 15, 16, 17, 18, 19, 20, 21, 22, 23, 24, 25, 26, 27, 28, 29, 30, 31, 32, 33, 34, 35, 36, 37, 38, 39] (by decide +kernel) (by decide +kernel)
set_option maxRecDepth 20000 in
theorem gX8_refusesPair_X8_isSlip : GoodIn wsX8_refusesPair (wsV RX8 133 RX8 yX8_isSlip wsX8_isSlip) := goodIn_app (goodIn_of _ (by decide +kernel)) ggX8_refusesPair_X8_isSlip
theorem dX8_refusesPair_0 : decode cX8_refusesPair 0 = .ok (.iload_n 2, 1) := by decide +kernel
theorem dX8_refusesPair_1 : decode cX8_refusesPair 1 = .ok (.iconst 0, 1) := by decide +kernel
theorem dX8_refusesPair_2 : decode cX8_refusesPair 2 = .ok (.iconst 2, 1) := by decide +kernel
theorem dX8_refusesPair_3 : decode cX8_refusesPair 3 = .ok (.invokestatic 67, 3) := by decide +kernel
theorem dX8_refusesPair_6 : decode cX8_refusesPair 6 = .ok (.ifCond .ne 17, 3) := by decide +kernel
theorem dX8_refusesPair_9 : decode cX8_refusesPair 9 = .ok (.iload_n 2, 1) := by decide +kernel
theorem dX8_refusesPair_10 : decode cX8_refusesPair 10 = .ok (.bipush 10, 2) := by decide +kernel
theorem dX8_refusesPair_12 : decode cX8_refusesPair 12 = .ok (.bipush 19, 2) := by decide +kernel
theorem dX8_refusesPair_14 : decode cX8_refusesPair 14 = .ok (.invokestatic 67, 3) := by decide +kernel
theorem dX8_refusesPair_17 : decode cX8_refusesPair 17 = .ok (.ifCond .ne 6, 3) := by decide +kernel
theorem dX8_refusesPair_20 : decode cX8_refusesPair 20 = .ok (.bipush (-2), 2) := by decide +kernel
theorem dX8_refusesPair_22 : decode cX8_refusesPair 22 = .ok (.ireturn, 1) := by decide +kernel
theorem dX8_refusesPair_23 : decode cX8_refusesPair 23 = .ok (.aload_n 0, 1) := by decide +kernel
theorem dX8_refusesPair_24 : decode cX8_refusesPair 24 = .ok (.iload_n 1, 1) := by decide +kernel
theorem dX8_refusesPair_25 : decode cX8_refusesPair 25 = .ok (.invokevirtual 133, 3) := by decide +kernel
theorem dX8_refusesPair_28 : decode cX8_refusesPair 28 = .ok (.ifCond .eq 7, 3) := by decide +kernel
theorem dX8_refusesPair_31 : decode cX8_refusesPair 31 = .ok (.iconst 0, 1) := by decide +kernel
theorem dX8_refusesPair_32 : decode cX8_refusesPair 32 = .ok (.goto 4, 3) := by decide +kernel
theorem dX8_refusesPair_35 : decode cX8_refusesPair 35 = .ok (.iconst (-1), 1) := by decide +kernel
theorem dX8_refusesPair_36 : decode cX8_refusesPair 36 = .ok (.ireturn, 1) := by decide +kernel
set_option maxRecDepth 20000 in
theorem ggX8_years_X8_isSheet : GoodIn wsX8_years wsX8_isSheet := goodIn_r _ [10, 11, 12, 9, 13] (by decide +kernel) (by decide +kernel)
set_option maxRecDepth 20000 in
theorem gX8_years_X8_isSheet : GoodIn wsX8_years (va_wsS RX8 77 yX8_isSheet wsX8_isSheet) := goodIn_app (goodIn_of _ (by decide +kernel)) ggX8_years_X8_isSheet
set_option maxRecDepth 20000 in
theorem ggX8_years_X8_isSort : GoodIn wsX8_years wsX8_isSort := goodIn_r _ [16, 11, 12, 9, 13] (by decide +kernel) (by decide +kernel)
set_option maxRecDepth 20000 in
theorem gX8_years_X8_isSort : GoodIn wsX8_years (va_wsS RX8 81 yX8_isSort wsX8_isSort) := goodIn_app (goodIn_of _ (by decide +kernel)) ggX8_years_X8_isSort
set_option maxRecDepth 20000 in
theorem ggX8_years_X8_within : GoodIn wsX8_years wsX8_within := goodIn_r _ [13] (by decide +kernel) (by decide +kernel)
set_option maxRecDepth 20000 in
theorem gX8_years_X8_within : GoodIn wsX8_years (va_wsS RX8 67 yX8_within wsX8_within) := goodIn_app (goodIn_of _ (by decide +kernel)) ggX8_years_X8_within
set_option maxRecDepth 20000 in
theorem ggX8_years_X8_against : GoodIn wsX8_years wsX8_against := goodIn_r _ [20, 21, 22, 64, 65, 66, 67, 68, 69, 70, 71, 72, 73, 74, 75, 76, 77, 78, 79, 80, 81, 82, 83, 84, 85, 86, 87, 88, 89, 90, 91, 92, 93] (by decide +kernel) (by decide +kernel)
set_option maxRecDepth 20000 in
theorem gX8_years_X8_against : GoodIn wsX8_years (wsV RX8 84 RX8 yX8_against wsX8_against) := goodIn_app (goodIn_of _ (by decide +kernel)) ggX8_years_X8_against
set_option maxRecDepth 20000 in
theorem ggX8_years_X8_fails : GoodIn wsX8_years wsX8_fails := goodIn_r _ [26, 1, 64, 65, 66, 67, 68, 69, 70, 71, 72, 73, 74, 75, 76, 77, 78, 79, 80, 81, 82, 83, 84, 85, 86, 87, 88, 89, 90, 91, 92, 93] (by decide +kernel) (by decide +kernel)
set_option maxRecDepth 20000 in
theorem gX8_years_X8_fails : GoodIn wsX8_years (wsV RX8 88 RX8 yX8_fails wsX8_fails) := goodIn_app (goodIn_of _ (by decide +kernel)) ggX8_years_X8_fails
set_option maxRecDepth 20000 in
theorem ggX8_years_X8_refusesPair : GoodIn wsX8_years wsX8_refusesPair := goodIn_r _ [30, 11, 12, 9, 13, 31, 32, 33, 34, 2, 64, 65, 66, 67, 68, 69, 70, 71, 72, 73, 74, 75, 76, 77, 78, 79, 80, 81, 82, 83, 84, 85, 86, 87, 88, 89, 90, 91, 92, 93] (by decide +kernel) (by decide +kernel)
set_option maxRecDepth 20000 in
theorem gX8_years_X8_refusesPair : GoodIn wsX8_years (wsV RX8 154 RX8 yX8_refusesPair wsX8_refusesPair) := goodIn_app (goodIn_of _ (by decide +kernel)) ggX8_years_X8_refusesPair
set_option maxRecDepth 20000 in
theorem ggX8_years_X8_goYears : GoodIn wsX8_years wsX8_goYears := goodIn_r _ [38, 39, 40, 41, 3, 42, 43, 44, 9, 45, 6, 2, 4, 46, 47, 48, 49, 50, 51, 52, 53, 54, 55, 56, 57, 58, 59, 64, 65, 66, 67, 68, 69, 70, 71, 72, 73, 74, 75, 76, 77, 78, 79, 80, 81, 82, 83, 84, 85, 86, 87, 88, 89, 90, 91, 92, 93] (by decide +kernel) (by decide +kernel)
set_option maxRecDepth 20000 in
theorem gX8_years_X8_goYears : GoodIn wsX8_years (wsV RX8 157 RX8 yX8_goYears wsX8_goYears) := goodIn_app (goodIn_of _ (by decide +kernel)) ggX8_years_X8_goYears
set_option maxRecDepth 20000 in
theorem ggX8_years_X8_tellYears : GoodIn wsX8_years wsX8_tellYears := goodIn_r _ [63, 39, 41, 40, 4, 31, 32, 33, 9, 34, 2, 46, 47, 48, 49, 50, 6, 51, 52, 53, 54, 55, 56, 57, 58, 59, 64, 65, 66, 67, 68, 69, 70, 71, 72, 73, 74, 75, 76, 77, 78, 79, 80, 81, 82, 83, 84, 85, 86, 87, 88, 89, 90, 91, 92, 93] (by decide +kernel) (by decide +kernel)
set_option maxRecDepth 20000 in
theorem gX8_years_X8_tellYears : GoodIn wsX8_years (wsV RX8 161 RX8 yX8_tellYears wsX8_tellYears) := goodIn_app (goodIn_of _ (by decide +kernel)) ggX8_years_X8_tellYears
theorem dX8_years_0 : decode cX8_years 0 = .ok (.aload_n 0, 1) := by decide +kernel
theorem dX8_years_1 : decode cX8_years 1 = .ok (.iconst 0, 1) := by decide +kernel
theorem dX8_years_2 : decode cX8_years 2 = .ok (.putfield 61, 3) := by decide +kernel
theorem dX8_years_5 : decode cX8_years 5 = .ok (.iload_n 1, 1) := by decide +kernel
theorem dX8_years_6 : decode cX8_years 6 = .ok (.invokestatic 77, 3) := by decide +kernel
theorem dX8_years_9 : decode cX8_years 9 = .ok (.ifCond .ne 5, 3) := by decide +kernel
theorem dX8_years_12 : decode cX8_years 12 = .ok (.iconst (-1), 1) := by decide +kernel
theorem dX8_years_13 : decode cX8_years 13 = .ok (.ireturn, 1) := by decide +kernel
theorem dX8_years_14 : decode cX8_years 14 = .ok (.iload_n 2, 1) := by decide +kernel
theorem dX8_years_15 : decode cX8_years 15 = .ok (.invokestatic 81, 3) := by decide +kernel
theorem dX8_years_18 : decode cX8_years 18 = .ok (.ifCond .eq 36, 3) := by decide +kernel
theorem dX8_years_21 : decode cX8_years 21 = .ok (.iload 4, 2) := by decide +kernel
theorem dX8_years_23 : decode cX8_years 23 = .ok (.iconst 0, 1) := by decide +kernel
theorem dX8_years_24 : decode cX8_years 24 = .ok (.bipush 20, 2) := by decide +kernel
theorem dX8_years_26 : decode cX8_years 26 = .ok (.invokestatic 67, 3) := by decide +kernel
theorem dX8_years_29 : decode cX8_years 29 = .ok (.ifCond .eq 25, 3) := by decide +kernel
theorem dX8_years_32 : decode cX8_years 32 = .ok (.iload 5, 2) := by decide +kernel
theorem dX8_years_34 : decode cX8_years 34 = .ok (.iconst 0, 1) := by decide +kernel
theorem dX8_years_35 : decode cX8_years 35 = .ok (.iconst 3, 1) := by decide +kernel
theorem dX8_years_36 : decode cX8_years 36 = .ok (.invokestatic 67, 3) := by decide +kernel
theorem dX8_years_39 : decode cX8_years 39 = .ok (.ifCond .ne 18, 3) := by decide +kernel
theorem dX8_years_42 : decode cX8_years 42 = .ok (.iload 5, 2) := by decide +kernel
theorem dX8_years_44 : decode cX8_years 44 = .ok (.bipush 10, 2) := by decide +kernel
theorem dX8_years_46 : decode cX8_years 46 = .ok (.bipush 16, 2) := by decide +kernel
theorem dX8_years_48 : decode cX8_years 48 = .ok (.invokestatic 67, 3) := by decide +kernel
theorem dX8_years_51 : decode cX8_years 51 = .ok (.ifCond .ne 6, 3) := by decide +kernel
theorem dX8_years_54 : decode cX8_years 54 = .ok (.bipush (-2), 2) := by decide +kernel
theorem dX8_years_56 : decode cX8_years 56 = .ok (.ireturn, 1) := by decide +kernel
theorem dX8_years_57 : decode cX8_years 57 = .ok (.aload_n 0, 1) := by decide +kernel
theorem dX8_years_58 : decode cX8_years 58 = .ok (.iload_n 1, 1) := by decide +kernel
theorem dX8_years_59 : decode cX8_years 59 = .ok (.iload_n 2, 1) := by decide +kernel
theorem dX8_years_60 : decode cX8_years 60 = .ok (.iload_n 3, 1) := by decide +kernel
theorem dX8_years_61 : decode cX8_years 61 = .ok (.iconst 2, 1) := by decide +kernel
theorem dX8_years_62 : decode cX8_years 62 = .ok (.iload 4, 2) := by decide +kernel
theorem dX8_years_64 : decode cX8_years 64 = .ok (.imul, 1) := by decide +kernel
theorem dX8_years_65 : decode cX8_years 65 = .ok (.invokevirtual 84, 3) := by decide +kernel
theorem dX8_years_68 : decode cX8_years 68 = .ok (.istore 6, 2) := by decide +kernel
theorem dX8_years_70 : decode cX8_years 70 = .ok (.iload 6, 2) := by decide +kernel
theorem dX8_years_72 : decode cX8_years 72 = .ok (.ifCond .eq 10, 3) := by decide +kernel
theorem dX8_years_75 : decode cX8_years 75 = .ok (.aload_n 0, 1) := by decide +kernel
theorem dX8_years_76 : decode cX8_years 76 = .ok (.iload 6, 2) := by decide +kernel
theorem dX8_years_78 : decode cX8_years 78 = .ok (.invokevirtual 88, 3) := by decide +kernel
theorem dX8_years_81 : decode cX8_years 81 = .ok (.ireturn, 1) := by decide +kernel
theorem dX8_years_82 : decode cX8_years 82 = .ok (.aload_n 0, 1) := by decide +kernel
theorem dX8_years_83 : decode cX8_years 83 = .ok (.getfield 71, 3) := by decide +kernel
theorem dX8_years_86 : decode cX8_years 86 = .ok (.ifCond .ne 6, 3) := by decide +kernel
theorem dX8_years_89 : decode cX8_years 89 = .ok (.bipush (-3), 2) := by decide +kernel
theorem dX8_years_91 : decode cX8_years 91 = .ok (.ireturn, 1) := by decide +kernel
theorem dX8_years_92 : decode cX8_years 92 = .ok (.bipush 60, 2) := by decide +kernel
theorem dX8_years_94 : decode cX8_years 94 = .ok (.iload_n 1, 1) := by decide +kernel
theorem dX8_years_95 : decode cX8_years 95 = .ok (.imul, 1) := by decide +kernel
theorem dX8_years_96 : decode cX8_years 96 = .ok (.iload_n 3, 1) := by decide +kernel
theorem dX8_years_97 : decode cX8_years 97 = .ok (.iadd, 1) := by decide +kernel
theorem dX8_years_98 : decode cX8_years 98 = .ok (.istore 7, 2) := by decide +kernel
theorem dX8_years_100 : decode cX8_years 100 = .ok (.iconst 0, 1) := by decide +kernel
theorem dX8_years_101 : decode cX8_years 101 = .ok (.istore 8, 2) := by decide +kernel
theorem dX8_years_103 : decode cX8_years 103 = .ok (.iload 8, 2) := by decide +kernel
theorem dX8_years_105 : decode cX8_years 105 = .ok (.iload 4, 2) := by decide +kernel
theorem dX8_years_107 : decode cX8_years 107 = .ok (.if_icmp .ge 49, 3) := by decide +kernel
theorem dX8_years_110 : decode cX8_years 110 = .ok (.aload_n 0, 1) := by decide +kernel
theorem dX8_years_111 : decode cX8_years 111 = .ok (.aload_n 0, 1) := by decide +kernel
theorem dX8_years_112 : decode cX8_years 112 = .ok (.getfield 16, 3) := by decide +kernel
theorem dX8_years_115 : decode cX8_years 115 = .ok (.iload 7, 2) := by decide +kernel
theorem dX8_years_117 : decode cX8_years 117 = .ok (.iconst 2, 1) := by decide +kernel
theorem dX8_years_118 : decode cX8_years 118 = .ok (.iload 8, 2) := by decide +kernel
theorem dX8_years_120 : decode cX8_years 120 = .ok (.imul, 1) := by decide +kernel
theorem dX8_years_121 : decode cX8_years 121 = .ok (.iadd, 1) := by decide +kernel
theorem dX8_years_122 : decode cX8_years 122 = .ok (.iaload, 1) := by decide +kernel
theorem dX8_years_123 : decode cX8_years 123 = .ok (.aload_n 0, 1) := by decide +kernel
theorem dX8_years_124 : decode cX8_years 124 = .ok (.getfield 16, 3) := by decide +kernel
theorem dX8_years_127 : decode cX8_years 127 = .ok (.iload 7, 2) := by decide +kernel
theorem dX8_years_129 : decode cX8_years 129 = .ok (.iconst 2, 1) := by decide +kernel
theorem dX8_years_130 : decode cX8_years 130 = .ok (.iload 8, 2) := by decide +kernel
theorem dX8_years_132 : decode cX8_years 132 = .ok (.imul, 1) := by decide +kernel
theorem dX8_years_133 : decode cX8_years 133 = .ok (.iadd, 1) := by decide +kernel
theorem dX8_years_134 : decode cX8_years 134 = .ok (.iconst 1, 1) := by decide +kernel
theorem dX8_years_135 : decode cX8_years 135 = .ok (.iadd, 1) := by decide +kernel
theorem dX8_years_136 : decode cX8_years 136 = .ok (.iaload, 1) := by decide +kernel
theorem dX8_years_137 : decode cX8_years 137 = .ok (.invokevirtual 154, 3) := by decide +kernel
theorem dX8_years_140 : decode cX8_years 140 = .ok (.istore 9, 2) := by decide +kernel
theorem dX8_years_142 : decode cX8_years 142 = .ok (.iload 9, 2) := by decide +kernel
theorem dX8_years_144 : decode cX8_years 144 = .ok (.ifCond .eq 6, 3) := by decide +kernel
theorem dX8_years_147 : decode cX8_years 147 = .ok (.iload 9, 2) := by decide +kernel
theorem dX8_years_149 : decode cX8_years 149 = .ok (.ireturn, 1) := by decide +kernel
theorem dX8_years_150 : decode cX8_years 150 = .ok (.iinc 8 1, 3) := by decide +kernel
theorem dX8_years_153 : decode cX8_years 153 = .ok (.goto (-50), 3) := by decide +kernel
theorem dX8_years_156 : decode cX8_years 156 = .ok (.aload_n 0, 1) := by decide +kernel
theorem dX8_years_157 : decode cX8_years 157 = .ok (.getfield 104, 3) := by decide +kernel
theorem dX8_years_160 : decode cX8_years 160 = .ok (.istore 8, 2) := by decide +kernel
theorem dX8_years_162 : decode cX8_years 162 = .ok (.iconst 0, 1) := by decide +kernel
theorem dX8_years_163 : decode cX8_years 163 = .ok (.istore 9, 2) := by decide +kernel
theorem dX8_years_165 : decode cX8_years 165 = .ok (.iload 9, 2) := by decide +kernel
theorem dX8_years_167 : decode cX8_years 167 = .ok (.aload_n 0, 1) := by decide +kernel
theorem dX8_years_168 : decode cX8_years 168 = .ok (.getfield 71, 3) := by decide +kernel
theorem dX8_years_171 : decode cX8_years 171 = .ok (.if_icmp .ge 23, 3) := by decide +kernel
theorem dX8_years_174 : decode cX8_years 174 = .ok (.aload_n 0, 1) := by decide +kernel
theorem dX8_years_175 : decode cX8_years 175 = .ok (.getfield 34, 3) := by decide +kernel
theorem dX8_years_178 : decode cX8_years 178 = .ok (.iload 9, 2) := by decide +kernel
theorem dX8_years_180 : decode cX8_years 180 = .ok (.aload_n 0, 1) := by decide +kernel
theorem dX8_years_181 : decode cX8_years 181 = .ok (.getfield 28, 3) := by decide +kernel
theorem dX8_years_184 : decode cX8_years 184 = .ok (.iload 9, 2) := by decide +kernel
theorem dX8_years_186 : decode cX8_years 186 = .ok (.iaload, 1) := by decide +kernel
theorem dX8_years_187 : decode cX8_years 187 = .ok (.iastore, 1) := by decide +kernel
theorem dX8_years_188 : decode cX8_years 188 = .ok (.iinc 9 1, 3) := by decide +kernel
theorem dX8_years_191 : decode cX8_years 191 = .ok (.goto (-26), 3) := by decide +kernel
theorem dX8_years_194 : decode cX8_years 194 = .ok (.aload_n 0, 1) := by decide +kernel
theorem dX8_years_195 : decode cX8_years 195 = .ok (.iload 7, 2) := by decide +kernel
theorem dX8_years_197 : decode cX8_years 197 = .ok (.iload 4, 2) := by decide +kernel
theorem dX8_years_199 : decode cX8_years 199 = .ok (.invokevirtual 157, 3) := by decide +kernel
theorem dX8_years_202 : decode cX8_years 202 = .ok (.aload_n 0, 1) := by decide +kernel
theorem dX8_years_203 : decode cX8_years 203 = .ok (.iload 5, 2) := by decide +kernel
theorem dX8_years_205 : decode cX8_years 205 = .ok (.invokevirtual 161, 3) := by decide +kernel
theorem dX8_years_208 : decode cX8_years 208 = .ok (.istore 9, 2) := by decide +kernel
theorem dX8_years_210 : decode cX8_years 210 = .ok (.aload_n 0, 1) := by decide +kernel
theorem dX8_years_211 : decode cX8_years 211 = .ok (.iload 8, 2) := by decide +kernel
theorem dX8_years_213 : decode cX8_years 213 = .ok (.putfield 104, 3) := by decide +kernel
theorem dX8_years_216 : decode cX8_years 216 = .ok (.iconst 0, 1) := by decide +kernel
theorem dX8_years_217 : decode cX8_years 217 = .ok (.istore 10, 2) := by decide +kernel
theorem dX8_years_219 : decode cX8_years 219 = .ok (.iload 10, 2) := by decide +kernel
theorem dX8_years_221 : decode cX8_years 221 = .ok (.aload_n 0, 1) := by decide +kernel
theorem dX8_years_222 : decode cX8_years 222 = .ok (.getfield 71, 3) := by decide +kernel
theorem dX8_years_225 : decode cX8_years 225 = .ok (.if_icmp .ge 23, 3) := by decide +kernel
theorem dX8_years_228 : decode cX8_years 228 = .ok (.aload_n 0, 1) := by decide +kernel
theorem dX8_years_229 : decode cX8_years 229 = .ok (.getfield 28, 3) := by decide +kernel
theorem dX8_years_232 : decode cX8_years 232 = .ok (.iload 10, 2) := by decide +kernel
theorem dX8_years_234 : decode cX8_years 234 = .ok (.aload_n 0, 1) := by decide +kernel
theorem dX8_years_235 : decode cX8_years 235 = .ok (.getfield 34, 3) := by decide +kernel
theorem dX8_years_238 : decode cX8_years 238 = .ok (.iload 10, 2) := by decide +kernel
theorem dX8_years_240 : decode cX8_years 240 = .ok (.iaload, 1) := by decide +kernel
theorem dX8_years_241 : decode cX8_years 241 = .ok (.iastore, 1) := by decide +kernel
theorem dX8_years_242 : decode cX8_years 242 = .ok (.iinc 10 1, 3) := by decide +kernel
theorem dX8_years_245 : decode cX8_years 245 = .ok (.goto (-26), 3) := by decide +kernel
theorem dX8_years_248 : decode cX8_years 248 = .ok (.iload 9, 2) := by decide +kernel
theorem dX8_years_250 : decode cX8_years 250 = .ok (.ireturn, 1) := by decide +kernel
set_option maxRecDepth 20000 in
theorem ggX8_tellYears_X8_isSlip : GoodIn wsX8_tellYears wsX8_isSlip := goodIn_r _ [9, 10, 26, 27, 28, 29, 30, 31, 32, 33, 34, 35, 36, 37, 38, 39, 40, 41, 42, 43, 44, 45, 46, 47, 48, 49, 50, 51, 52, 53, 54, 55] (by decide +kernel) (by decide +kernel)
set_option maxRecDepth 20000 in
theorem gX8_tellYears_X8_isSlip : GoodIn wsX8_tellYears (wsV RX8 133 RX8 yX8_isSlip wsX8_isSlip) := goodIn_app (goodIn_of _ (by decide +kernel)) ggX8_tellYears_X8_isSlip
set_option maxRecDepth 20000 in
theorem ggX8_tellYears_X8_leafOf : GoodIn wsX8_tellYears wsX8_leafOf := goodIn_r _ [14, 15, 10, 4, 16, 17, 18, 8, 19, 20, 21, 22, 23, 24, 25, 26, 27, 28, 29, 30, 31, 32, 33, 34, 35, 36, 37, 38, 39, 40, 41, 42, 43, 44, 45, 46, 47, 48, 49, 50, 51, 52, 53, 54, 55] (by decide +kernel) (by decide +kernel)
set_option maxRecDepth 20000 in
theorem gX8_tellYears_X8_leafOf : GoodIn wsX8_tellYears (wsV RX8 130 RX8 yX8_leafOf wsX8_leafOf) := goodIn_app (goodIn_of _ (by decide +kernel)) ggX8_tellYears_X8_leafOf
theorem dX8_tellYears_0 : decode cX8_tellYears 0 = .ok (.iload_n 1, 1) := by decide +kernel
theorem dX8_tellYears_1 : decode cX8_tellYears 1 = .ok (.bipush 10, 2) := by decide +kernel
theorem dX8_tellYears_3 : decode cX8_tellYears 3 = .ok (.if_icmp .lt 28, 3) := by decide +kernel
theorem dX8_tellYears_6 : decode cX8_tellYears 6 = .ok (.aload_n 0, 1) := by decide +kernel
theorem dX8_tellYears_7 : decode cX8_tellYears 7 = .ok (.iload_n 1, 1) := by decide +kernel
theorem dX8_tellYears_8 : decode cX8_tellYears 8 = .ok (.bipush 10, 2) := by decide +kernel
theorem dX8_tellYears_10 : decode cX8_tellYears 10 = .ok (.isub, 1) := by decide +kernel
theorem dX8_tellYears_11 : decode cX8_tellYears 11 = .ok (.invokevirtual 133, 3) := by decide +kernel
theorem dX8_tellYears_14 : decode cX8_tellYears 14 = .ok (.ifCond .eq 14, 3) := by decide +kernel
theorem dX8_tellYears_17 : decode cX8_tellYears 17 = .ok (.aload_n 0, 1) := by decide +kernel
theorem dX8_tellYears_18 : decode cX8_tellYears 18 = .ok (.iload_n 1, 1) := by decide +kernel
theorem dX8_tellYears_19 : decode cX8_tellYears 19 = .ok (.bipush 10, 2) := by decide +kernel
theorem dX8_tellYears_21 : decode cX8_tellYears 21 = .ok (.isub, 1) := by decide +kernel
theorem dX8_tellYears_22 : decode cX8_tellYears 22 = .ok (.invokevirtual 130, 3) := by decide +kernel
theorem dX8_tellYears_25 : decode cX8_tellYears 25 = .ok (.goto 5, 3) := by decide +kernel
theorem dX8_tellYears_28 : decode cX8_tellYears 28 = .ok (.bipush (-9), 2) := by decide +kernel
theorem dX8_tellYears_30 : decode cX8_tellYears 30 = .ok (.ireturn, 1) := by decide +kernel
theorem dX8_tellYears_31 : decode cX8_tellYears 31 = .ok (.iload_n 1, 1) := by decide +kernel
theorem dX8_tellYears_32 : decode cX8_tellYears 32 = .ok (.ifCond .ne 10, 3) := by decide +kernel
theorem dX8_tellYears_35 : decode cX8_tellYears 35 = .ok (.aload_n 0, 1) := by decide +kernel
theorem dX8_tellYears_36 : decode cX8_tellYears 36 = .ok (.getfield 145, 3) := by decide +kernel
theorem dX8_tellYears_39 : decode cX8_tellYears 39 = .ok (.goto 31, 3) := by decide +kernel
theorem dX8_tellYears_42 : decode cX8_tellYears 42 = .ok (.iload_n 1, 1) := by decide +kernel
theorem dX8_tellYears_43 : decode cX8_tellYears 43 = .ok (.iconst 1, 1) := by decide +kernel
theorem dX8_tellYears_44 : decode cX8_tellYears 44 = .ok (.if_icmp .ne 10, 3) := by decide +kernel
theorem dX8_tellYears_47 : decode cX8_tellYears 47 = .ok (.aload_n 0, 1) := by decide +kernel
theorem dX8_tellYears_48 : decode cX8_tellYears 48 = .ok (.getfield 148, 3) := by decide +kernel
theorem dX8_tellYears_51 : decode cX8_tellYears 51 = .ok (.goto 19, 3) := by decide +kernel
theorem dX8_tellYears_54 : decode cX8_tellYears 54 = .ok (.iload_n 1, 1) := by decide +kernel
theorem dX8_tellYears_55 : decode cX8_tellYears 55 = .ok (.iconst 2, 1) := by decide +kernel
theorem dX8_tellYears_56 : decode cX8_tellYears 56 = .ok (.if_icmp .ne 10, 3) := by decide +kernel
theorem dX8_tellYears_59 : decode cX8_tellYears 59 = .ok (.aload_n 0, 1) := by decide +kernel
theorem dX8_tellYears_60 : decode cX8_tellYears 60 = .ok (.getfield 142, 3) := by decide +kernel
theorem dX8_tellYears_63 : decode cX8_tellYears 63 = .ok (.goto 7, 3) := by decide +kernel
theorem dX8_tellYears_66 : decode cX8_tellYears 66 = .ok (.aload_n 0, 1) := by decide +kernel
theorem dX8_tellYears_67 : decode cX8_tellYears 67 = .ok (.getfield 104, 3) := by decide +kernel
theorem dX8_tellYears_70 : decode cX8_tellYears 70 = .ok (.ireturn, 1) := by decide +kernel
theorem dX8_ringOf_0 : decode cX8_ringOf 0 = .ok (.iconst 0, 1) := by decide +kernel
theorem dX8_ringOf_1 : decode cX8_ringOf 1 = .ok (.istore_n 2, 1) := by decide +kernel
theorem dX8_ringOf_2 : decode cX8_ringOf 2 = .ok (.iload_n 1, 1) := by decide +kernel
theorem dX8_ringOf_3 : decode cX8_ringOf 3 = .ok (.istore_n 3, 1) := by decide +kernel
theorem dX8_ringOf_4 : decode cX8_ringOf 4 = .ok (.iconst 0, 1) := by decide +kernel
theorem dX8_ringOf_5 : decode cX8_ringOf 5 = .ok (.istore 4, 2) := by decide +kernel
theorem dX8_ringOf_7 : decode cX8_ringOf 7 = .ok (.iload 4, 2) := by decide +kernel
theorem dX8_ringOf_9 : decode cX8_ringOf 9 = .ok (.aload_n 0, 1) := by decide +kernel
theorem dX8_ringOf_10 : decode cX8_ringOf 10 = .ok (.getfield 71, 3) := by decide +kernel
theorem dX8_ringOf_13 : decode cX8_ringOf 13 = .ok (.if_icmp .ge 37, 3) := by decide +kernel
theorem dX8_ringOf_16 : decode cX8_ringOf 16 = .ok (.iload_n 2, 1) := by decide +kernel
theorem dX8_ringOf_17 : decode cX8_ringOf 17 = .ok (.iconst 1, 1) := by decide +kernel
theorem dX8_ringOf_18 : decode cX8_ringOf 18 = .ok (.iload_n 3, 1) := by decide +kernel
theorem dX8_ringOf_19 : decode cX8_ringOf 19 = .ok (.ishl, 1) := by decide +kernel
theorem dX8_ringOf_20 : decode cX8_ringOf 20 = .ok (.ior, 1) := by decide +kernel
theorem dX8_ringOf_21 : decode cX8_ringOf 21 = .ok (.istore_n 2, 1) := by decide +kernel
theorem dX8_ringOf_22 : decode cX8_ringOf 22 = .ok (.aload_n 0, 1) := by decide +kernel
theorem dX8_ringOf_23 : decode cX8_ringOf 23 = .ok (.getfield 28, 3) := by decide +kernel
theorem dX8_ringOf_26 : decode cX8_ringOf 26 = .ok (.iload_n 3, 1) := by decide +kernel
theorem dX8_ringOf_27 : decode cX8_ringOf 27 = .ok (.iaload, 1) := by decide +kernel
theorem dX8_ringOf_28 : decode cX8_ringOf 28 = .ok (.istore_n 3, 1) := by decide +kernel
theorem dX8_ringOf_29 : decode cX8_ringOf 29 = .ok (.iload_n 3, 1) := by decide +kernel
theorem dX8_ringOf_30 : decode cX8_ringOf 30 = .ok (.iload_n 1, 1) := by decide +kernel
theorem dX8_ringOf_31 : decode cX8_ringOf 31 = .ok (.if_icmp .ne 5, 3) := by decide +kernel
theorem dX8_ringOf_34 : decode cX8_ringOf 34 = .ok (.iload_n 2, 1) := by decide +kernel
theorem dX8_ringOf_35 : decode cX8_ringOf 35 = .ok (.ireturn, 1) := by decide +kernel
theorem dX8_ringOf_36 : decode cX8_ringOf 36 = .ok (.iload_n 3, 1) := by decide +kernel
theorem dX8_ringOf_37 : decode cX8_ringOf 37 = .ok (.bipush (-9), 2) := by decide +kernel
theorem dX8_ringOf_39 : decode cX8_ringOf 39 = .ok (.if_icmp .ne 5, 3) := by decide +kernel
theorem dX8_ringOf_42 : decode cX8_ringOf 42 = .ok (.iconst 0, 1) := by decide +kernel
theorem dX8_ringOf_43 : decode cX8_ringOf 43 = .ok (.ireturn, 1) := by decide +kernel
theorem dX8_ringOf_44 : decode cX8_ringOf 44 = .ok (.iinc 4 1, 3) := by decide +kernel
theorem dX8_ringOf_47 : decode cX8_ringOf 47 = .ok (.goto (-40), 3) := by decide +kernel
theorem dX8_ringOf_50 : decode cX8_ringOf 50 = .ok (.iconst 0, 1) := by decide +kernel
theorem dX8_ringOf_51 : decode cX8_ringOf 51 = .ok (.ireturn, 1) := by decide +kernel
set_option maxRecDepth 20000 in
theorem ggX8_isLeastOf_X8_isOf : GoodIn wsX8_isLeastOf wsX8_isOf := goodIn_r _ [4] (by decide +kernel) (by decide +kernel)
set_option maxRecDepth 20000 in
theorem gX8_isLeastOf_X8_isOf : GoodIn wsX8_isLeastOf (va_wsS RX8 124 yX8_isOf wsX8_isOf) := goodIn_app (goodIn_of _ (by decide +kernel)) ggX8_isLeastOf_X8_isOf
theorem dX8_isLeastOf_0 : decode cX8_isLeastOf 0 = .ok (.iload_n 0, 1) := by decide +kernel
theorem dX8_isLeastOf_1 : decode cX8_isLeastOf 1 = .ok (.iload_n 1, 1) := by decide +kernel
theorem dX8_isLeastOf_2 : decode cX8_isLeastOf 2 = .ok (.invokestatic 124, 3) := by decide +kernel
theorem dX8_isLeastOf_5 : decode cX8_isLeastOf 5 = .ok (.ifCond .eq 17, 3) := by decide +kernel
theorem dX8_isLeastOf_8 : decode cX8_isLeastOf 8 = .ok (.iload_n 0, 1) := by decide +kernel
theorem dX8_isLeastOf_9 : decode cX8_isLeastOf 9 = .ok (.iconst 1, 1) := by decide +kernel
theorem dX8_isLeastOf_10 : decode cX8_isLeastOf 10 = .ok (.iload_n 1, 1) := by decide +kernel
theorem dX8_isLeastOf_11 : decode cX8_isLeastOf 11 = .ok (.ishl, 1) := by decide +kernel
theorem dX8_isLeastOf_12 : decode cX8_isLeastOf 12 = .ok (.iconst 1, 1) := by decide +kernel
theorem dX8_isLeastOf_13 : decode cX8_isLeastOf 13 = .ok (.isub, 1) := by decide +kernel
theorem dX8_isLeastOf_14 : decode cX8_isLeastOf 14 = .ok (.iand, 1) := by decide +kernel
theorem dX8_isLeastOf_15 : decode cX8_isLeastOf 15 = .ok (.ifCond .ne 7, 3) := by decide +kernel
theorem dX8_isLeastOf_18 : decode cX8_isLeastOf 18 = .ok (.iconst 1, 1) := by decide +kernel
theorem dX8_isLeastOf_19 : decode cX8_isLeastOf 19 = .ok (.goto 4, 3) := by decide +kernel
theorem dX8_isLeastOf_22 : decode cX8_isLeastOf 22 = .ok (.iconst 0, 1) := by decide +kernel
theorem dX8_isLeastOf_23 : decode cX8_isLeastOf 23 = .ok (.ireturn, 1) := by decide +kernel
set_option maxRecDepth 20000 in
theorem ggX8_rings_X8_within : GoodIn wsX8_rings wsX8_within := goodIn_r _ [5] (by decide +kernel) (by decide +kernel)
set_option maxRecDepth 20000 in
theorem gX8_rings_X8_within : GoodIn wsX8_rings (va_wsS RX8 67 yX8_within wsX8_within) := goodIn_app (goodIn_of _ (by decide +kernel)) ggX8_rings_X8_within
set_option maxRecDepth 20000 in
theorem ggX8_rings_X8_ringOf : GoodIn wsX8_rings wsX8_ringOf := goodIn_r _ [9, 1, 10, 17, 18, 19, 20, 21, 22, 23, 24, 25, 26, 27, 28, 29, 30, 31, 32, 33, 34, 35, 36, 37, 38, 39, 40, 41, 42, 43, 44, 45, 46] (by decide +kernel) (by decide +kernel)
set_option maxRecDepth 20000 in
theorem gX8_rings_X8_ringOf : GoodIn wsX8_rings (wsV RX8 164 RX8 yX8_ringOf wsX8_ringOf) := goodIn_app (goodIn_of _ (by decide +kernel)) ggX8_rings_X8_ringOf
set_option maxRecDepth 20000 in
theorem ggX8_rings_X8_isLeastOf : GoodIn wsX8_rings wsX8_isLeastOf := goodIn_r _ [13, 14, 15, 4, 16] (by decide +kernel) (by decide +kernel)
set_option maxRecDepth 20000 in
theorem gX8_rings_X8_isLeastOf : GoodIn wsX8_rings (va_wsS RX8 167 yX8_isLeastOf wsX8_isLeastOf) := goodIn_app (goodIn_of _ (by decide +kernel)) ggX8_rings_X8_isLeastOf
theorem dX8_rings_0 : decode cX8_rings 0 = .ok (.iload_n 1, 1) := by decide +kernel
theorem dX8_rings_1 : decode cX8_rings 1 = .ok (.iconst 0, 1) := by decide +kernel
theorem dX8_rings_2 : decode cX8_rings 2 = .ok (.iconst 1, 1) := by decide +kernel
theorem dX8_rings_3 : decode cX8_rings 3 = .ok (.invokestatic 67, 3) := by decide +kernel
theorem dX8_rings_6 : decode cX8_rings 6 = .ok (.ifCond .ne 6, 3) := by decide +kernel
theorem dX8_rings_9 : decode cX8_rings 9 = .ok (.bipush (-2), 2) := by decide +kernel
theorem dX8_rings_11 : decode cX8_rings 11 = .ok (.ireturn, 1) := by decide +kernel
theorem dX8_rings_12 : decode cX8_rings 12 = .ok (.aload_n 0, 1) := by decide +kernel
theorem dX8_rings_13 : decode cX8_rings 13 = .ok (.getfield 71, 3) := by decide +kernel
theorem dX8_rings_16 : decode cX8_rings 16 = .ok (.ifCond .ne 6, 3) := by decide +kernel
theorem dX8_rings_19 : decode cX8_rings 19 = .ok (.bipush (-3), 2) := by decide +kernel
theorem dX8_rings_21 : decode cX8_rings 21 = .ok (.ireturn, 1) := by decide +kernel
theorem dX8_rings_22 : decode cX8_rings 22 = .ok (.iconst 0, 1) := by decide +kernel
theorem dX8_rings_23 : decode cX8_rings 23 = .ok (.istore_n 2, 1) := by decide +kernel
theorem dX8_rings_24 : decode cX8_rings 24 = .ok (.iconst 0, 1) := by decide +kernel
theorem dX8_rings_25 : decode cX8_rings 25 = .ok (.istore_n 3, 1) := by decide +kernel
theorem dX8_rings_26 : decode cX8_rings 26 = .ok (.iconst 0, 1) := by decide +kernel
theorem dX8_rings_27 : decode cX8_rings 27 = .ok (.istore 4, 2) := by decide +kernel
theorem dX8_rings_29 : decode cX8_rings 29 = .ok (.iload 4, 2) := by decide +kernel
theorem dX8_rings_31 : decode cX8_rings 31 = .ok (.aload_n 0, 1) := by decide +kernel
theorem dX8_rings_32 : decode cX8_rings 32 = .ok (.getfield 71, 3) := by decide +kernel
theorem dX8_rings_35 : decode cX8_rings 35 = .ok (.if_icmp .ge 40, 3) := by decide +kernel
theorem dX8_rings_38 : decode cX8_rings 38 = .ok (.iload_n 2, 1) := by decide +kernel
theorem dX8_rings_39 : decode cX8_rings 39 = .ok (.aload_n 0, 1) := by decide +kernel
theorem dX8_rings_40 : decode cX8_rings 40 = .ok (.iload 4, 2) := by decide +kernel
theorem dX8_rings_42 : decode cX8_rings 42 = .ok (.invokevirtual 164, 3) := by decide +kernel
theorem dX8_rings_45 : decode cX8_rings 45 = .ok (.ior, 1) := by decide +kernel
theorem dX8_rings_46 : decode cX8_rings 46 = .ok (.istore_n 2, 1) := by decide +kernel
theorem dX8_rings_47 : decode cX8_rings 47 = .ok (.iload_n 3, 1) := by decide +kernel
theorem dX8_rings_48 : decode cX8_rings 48 = .ok (.aload_n 0, 1) := by decide +kernel
theorem dX8_rings_49 : decode cX8_rings 49 = .ok (.iload 4, 2) := by decide +kernel
theorem dX8_rings_51 : decode cX8_rings 51 = .ok (.invokevirtual 164, 3) := by decide +kernel
theorem dX8_rings_54 : decode cX8_rings 54 = .ok (.iload 4, 2) := by decide +kernel
theorem dX8_rings_56 : decode cX8_rings 56 = .ok (.invokestatic 167, 3) := by decide +kernel
theorem dX8_rings_59 : decode cX8_rings 59 = .ok (.ifCond .eq 7, 3) := by decide +kernel
theorem dX8_rings_62 : decode cX8_rings 62 = .ok (.iconst 1, 1) := by decide +kernel
theorem dX8_rings_63 : decode cX8_rings 63 = .ok (.goto 4, 3) := by decide +kernel
theorem dX8_rings_66 : decode cX8_rings 66 = .ok (.iconst 0, 1) := by decide +kernel
theorem dX8_rings_67 : decode cX8_rings 67 = .ok (.iadd, 1) := by decide +kernel
theorem dX8_rings_68 : decode cX8_rings 68 = .ok (.istore_n 3, 1) := by decide +kernel
theorem dX8_rings_69 : decode cX8_rings 69 = .ok (.iinc 4 1, 3) := by decide +kernel
theorem dX8_rings_72 : decode cX8_rings 72 = .ok (.goto (-43), 3) := by decide +kernel
theorem dX8_rings_75 : decode cX8_rings 75 = .ok (.iload_n 1, 1) := by decide +kernel
theorem dX8_rings_76 : decode cX8_rings 76 = .ok (.ifCond .ne 7, 3) := by decide +kernel
theorem dX8_rings_79 : decode cX8_rings 79 = .ok (.iload_n 2, 1) := by decide +kernel
theorem dX8_rings_80 : decode cX8_rings 80 = .ok (.goto 4, 3) := by decide +kernel
theorem dX8_rings_83 : decode cX8_rings 83 = .ok (.iload_n 3, 1) := by decide +kernel
theorem dX8_rings_84 : decode cX8_rings 84 = .ok (.ireturn, 1) := by decide +kernel
set_option maxRecDepth 20000 in
theorem ggX8_cuts_X8_ringOf : GoodIn wsX8_cuts wsX8_ringOf := goodIn_r _ [6, 1, 7, 14, 15, 16, 17, 18, 19, 20, 21, 22, 23, 24, 25, 26, 27, 28, 29, 30, 31, 32, 33, 34, 35, 36, 37, 38, 39, 40, 41, 42, 43] (by decide +kernel) (by decide +kernel)
set_option maxRecDepth 20000 in
theorem gX8_cuts_X8_ringOf : GoodIn wsX8_cuts (wsV RX8 164 RX8 yX8_ringOf wsX8_ringOf) := goodIn_app (goodIn_of _ (by decide +kernel)) ggX8_cuts_X8_ringOf
set_option maxRecDepth 20000 in
theorem ggX8_cuts_X8_isLeastOf : GoodIn wsX8_cuts wsX8_isLeastOf := goodIn_r _ [10, 11, 12, 5, 13] (by decide +kernel) (by decide +kernel)
set_option maxRecDepth 20000 in
theorem gX8_cuts_X8_isLeastOf : GoodIn wsX8_cuts (va_wsS RX8 167 yX8_isLeastOf wsX8_isLeastOf) := goodIn_app (goodIn_of _ (by decide +kernel)) ggX8_cuts_X8_isLeastOf
theorem dX8_cuts_0 : decode cX8_cuts 0 = .ok (.aload_n 0, 1) := by decide +kernel
theorem dX8_cuts_1 : decode cX8_cuts 1 = .ok (.getfield 71, 3) := by decide +kernel
theorem dX8_cuts_4 : decode cX8_cuts 4 = .ok (.ifCond .ne 6, 3) := by decide +kernel
theorem dX8_cuts_7 : decode cX8_cuts 7 = .ok (.bipush (-3), 2) := by decide +kernel
theorem dX8_cuts_9 : decode cX8_cuts 9 = .ok (.ireturn, 1) := by decide +kernel
theorem dX8_cuts_10 : decode cX8_cuts 10 = .ok (.iconst 0, 1) := by decide +kernel
theorem dX8_cuts_11 : decode cX8_cuts 11 = .ok (.istore_n 1, 1) := by decide +kernel
theorem dX8_cuts_12 : decode cX8_cuts 12 = .ok (.iconst 0, 1) := by decide +kernel
theorem dX8_cuts_13 : decode cX8_cuts 13 = .ok (.istore_n 2, 1) := by decide +kernel
theorem dX8_cuts_14 : decode cX8_cuts 14 = .ok (.iload_n 2, 1) := by decide +kernel
theorem dX8_cuts_15 : decode cX8_cuts 15 = .ok (.aload_n 0, 1) := by decide +kernel
theorem dX8_cuts_16 : decode cX8_cuts 16 = .ok (.getfield 71, 3) := by decide +kernel
theorem dX8_cuts_19 : decode cX8_cuts 19 = .ok (.if_icmp .ge 31, 3) := by decide +kernel
theorem dX8_cuts_22 : decode cX8_cuts 22 = .ok (.iload_n 1, 1) := by decide +kernel
theorem dX8_cuts_23 : decode cX8_cuts 23 = .ok (.aload_n 0, 1) := by decide +kernel
theorem dX8_cuts_24 : decode cX8_cuts 24 = .ok (.iload_n 2, 1) := by decide +kernel
theorem dX8_cuts_25 : decode cX8_cuts 25 = .ok (.invokevirtual 164, 3) := by decide +kernel
theorem dX8_cuts_28 : decode cX8_cuts 28 = .ok (.iload_n 2, 1) := by decide +kernel
theorem dX8_cuts_29 : decode cX8_cuts 29 = .ok (.invokestatic 167, 3) := by decide +kernel
theorem dX8_cuts_32 : decode cX8_cuts 32 = .ok (.ifCond .eq 9, 3) := by decide +kernel
theorem dX8_cuts_35 : decode cX8_cuts 35 = .ok (.iconst 1, 1) := by decide +kernel
theorem dX8_cuts_36 : decode cX8_cuts 36 = .ok (.iload_n 2, 1) := by decide +kernel
theorem dX8_cuts_37 : decode cX8_cuts 37 = .ok (.ishl, 1) := by decide +kernel
theorem dX8_cuts_38 : decode cX8_cuts 38 = .ok (.goto 4, 3) := by decide +kernel
theorem dX8_cuts_41 : decode cX8_cuts 41 = .ok (.iconst 0, 1) := by decide +kernel
theorem dX8_cuts_42 : decode cX8_cuts 42 = .ok (.ior, 1) := by decide +kernel
theorem dX8_cuts_43 : decode cX8_cuts 43 = .ok (.istore_n 1, 1) := by decide +kernel
theorem dX8_cuts_44 : decode cX8_cuts 44 = .ok (.iinc 2 1, 3) := by decide +kernel
theorem dX8_cuts_47 : decode cX8_cuts 47 = .ok (.goto (-33), 3) := by decide +kernel
theorem dX8_cuts_50 : decode cX8_cuts 50 = .ok (.iload_n 1, 1) := by decide +kernel
theorem dX8_cuts_51 : decode cX8_cuts 51 = .ok (.ireturn, 1) := by decide +kernel
set_option maxRecDepth 20000 in
theorem ggX8_findCosts_X8_findRoot : GoodIn wsX8_findCosts wsX8_findRoot := goodIn_r _ [7, 8, 9, 1, 10, 11, 12, 13, 14, 15, 16, 17, 18, 19, 20, 21, 22, 23, 24, 25, 26, 27, 28, 29, 30, 31, 32, 33, 34, 35, 36, 37, 38, 39, 40] (by decide +kernel) (by decide +kernel)
set_option maxRecDepth 20000 in
theorem gX8_findCosts_X8_findRoot : GoodIn wsX8_findCosts (wsV RX8 173 RX8 yX8_findRoot wsX8_findRoot) := goodIn_app (goodIn_of _ (by decide +kernel)) ggX8_findCosts_X8_findRoot
theorem dX8_findCosts_0 : decode cX8_findCosts 0 = .ok (.iconst 0, 1) := by decide +kernel
theorem dX8_findCosts_1 : decode cX8_findCosts 1 = .ok (.istore_n 1, 1) := by decide +kernel
theorem dX8_findCosts_2 : decode cX8_findCosts 2 = .ok (.iload_n 1, 1) := by decide +kernel
theorem dX8_findCosts_3 : decode cX8_findCosts 3 = .ok (.bipush 64, 2) := by decide +kernel
theorem dX8_findCosts_5 : decode cX8_findCosts 5 = .ok (.if_icmp .ge 16, 3) := by decide +kernel
theorem dX8_findCosts_8 : decode cX8_findCosts 8 = .ok (.aload_n 0, 1) := by decide +kernel
theorem dX8_findCosts_9 : decode cX8_findCosts 9 = .ok (.getfield 40, 3) := by decide +kernel
theorem dX8_findCosts_12 : decode cX8_findCosts 12 = .ok (.iload_n 1, 1) := by decide +kernel
theorem dX8_findCosts_13 : decode cX8_findCosts 13 = .ok (.iconst 0, 1) := by decide +kernel
theorem dX8_findCosts_14 : decode cX8_findCosts 14 = .ok (.iastore, 1) := by decide +kernel
theorem dX8_findCosts_15 : decode cX8_findCosts 15 = .ok (.iinc 1 1, 3) := by decide +kernel
theorem dX8_findCosts_18 : decode cX8_findCosts 18 = .ok (.goto (-16), 3) := by decide +kernel
theorem dX8_findCosts_21 : decode cX8_findCosts 21 = .ok (.iconst 1, 1) := by decide +kernel
theorem dX8_findCosts_22 : decode cX8_findCosts 22 = .ok (.istore_n 1, 1) := by decide +kernel
theorem dX8_findCosts_23 : decode cX8_findCosts 23 = .ok (.iload_n 1, 1) := by decide +kernel
theorem dX8_findCosts_24 : decode cX8_findCosts 24 = .ok (.aload_n 0, 1) := by decide +kernel
theorem dX8_findCosts_25 : decode cX8_findCosts 25 = .ok (.getfield 170, 3) := by decide +kernel
theorem dX8_findCosts_28 : decode cX8_findCosts 28 = .ok (.if_icmp .gt 35, 3) := by decide +kernel
theorem dX8_findCosts_31 : decode cX8_findCosts 31 = .ok (.iconst 0, 1) := by decide +kernel
theorem dX8_findCosts_32 : decode cX8_findCosts 32 = .ok (.istore_n 2, 1) := by decide +kernel
theorem dX8_findCosts_33 : decode cX8_findCosts 33 = .ok (.iload_n 2, 1) := by decide +kernel
theorem dX8_findCosts_34 : decode cX8_findCosts 34 = .ok (.iload_n 1, 1) := by decide +kernel
theorem dX8_findCosts_35 : decode cX8_findCosts 35 = .ok (.iadd, 1) := by decide +kernel
theorem dX8_findCosts_36 : decode cX8_findCosts 36 = .ok (.aload_n 0, 1) := by decide +kernel
theorem dX8_findCosts_37 : decode cX8_findCosts 37 = .ok (.getfield 170, 3) := by decide +kernel
theorem dX8_findCosts_40 : decode cX8_findCosts 40 = .ok (.if_icmp .gt 17, 3) := by decide +kernel
theorem dX8_findCosts_43 : decode cX8_findCosts 43 = .ok (.aload_n 0, 1) := by decide +kernel
theorem dX8_findCosts_44 : decode cX8_findCosts 44 = .ok (.iload_n 2, 1) := by decide +kernel
theorem dX8_findCosts_45 : decode cX8_findCosts 45 = .ok (.iload_n 2, 1) := by decide +kernel
theorem dX8_findCosts_46 : decode cX8_findCosts 46 = .ok (.iload_n 1, 1) := by decide +kernel
theorem dX8_findCosts_47 : decode cX8_findCosts 47 = .ok (.iadd, 1) := by decide +kernel
theorem dX8_findCosts_48 : decode cX8_findCosts 48 = .ok (.invokevirtual 173, 3) := by decide +kernel
theorem dX8_findCosts_51 : decode cX8_findCosts 51 = .ok (.iinc 2 1, 3) := by decide +kernel
theorem dX8_findCosts_54 : decode cX8_findCosts 54 = .ok (.goto (-21), 3) := by decide +kernel
theorem dX8_findCosts_57 : decode cX8_findCosts 57 = .ok (.iinc 1 1, 3) := by decide +kernel
theorem dX8_findCosts_60 : decode cX8_findCosts 60 = .ok (.goto (-37), 3) := by decide +kernel
theorem dX8_findCosts_63 : decode cX8_findCosts 63 = .ok (.return_, 1) := by decide +kernel
theorem dX8_findRoot_0 : decode cX8_findRoot 0 = .ok (.iconst 0, 1) := by decide +kernel
theorem dX8_findRoot_1 : decode cX8_findRoot 1 = .ok (.istore_n 3, 1) := by decide +kernel
theorem dX8_findRoot_2 : decode cX8_findRoot 2 = .ok (.iload_n 1, 1) := by decide +kernel
theorem dX8_findRoot_3 : decode cX8_findRoot 3 = .ok (.istore 4, 2) := by decide +kernel
theorem dX8_findRoot_5 : decode cX8_findRoot 5 = .ok (.iload 4, 2) := by decide +kernel
theorem dX8_findRoot_7 : decode cX8_findRoot 7 = .ok (.iload_n 2, 1) := by decide +kernel
theorem dX8_findRoot_8 : decode cX8_findRoot 8 = .ok (.if_icmp .ge 24, 3) := by decide +kernel
theorem dX8_findRoot_11 : decode cX8_findRoot 11 = .ok (.iload_n 3, 1) := by decide +kernel
theorem dX8_findRoot_12 : decode cX8_findRoot 12 = .ok (.aload_n 0, 1) := by decide +kernel
theorem dX8_findRoot_13 : decode cX8_findRoot 13 = .ok (.getfield 25, 3) := by decide +kernel
theorem dX8_findRoot_16 : decode cX8_findRoot 16 = .ok (.aload_n 0, 1) := by decide +kernel
theorem dX8_findRoot_17 : decode cX8_findRoot 17 = .ok (.getfield 37, 3) := by decide +kernel
theorem dX8_findRoot_20 : decode cX8_findRoot 20 = .ok (.iload 4, 2) := by decide +kernel
theorem dX8_findRoot_22 : decode cX8_findRoot 22 = .ok (.iaload, 1) := by decide +kernel
theorem dX8_findRoot_23 : decode cX8_findRoot 23 = .ok (.iaload, 1) := by decide +kernel
theorem dX8_findRoot_24 : decode cX8_findRoot 24 = .ok (.iadd, 1) := by decide +kernel
theorem dX8_findRoot_25 : decode cX8_findRoot 25 = .ok (.istore_n 3, 1) := by decide +kernel
theorem dX8_findRoot_26 : decode cX8_findRoot 26 = .ok (.iinc 4 1, 3) := by decide +kernel
theorem dX8_findRoot_29 : decode cX8_findRoot 29 = .ok (.goto (-24), 3) := by decide +kernel
theorem dX8_findRoot_32 : decode cX8_findRoot 32 = .ok (.bipush (-9), 2) := by decide +kernel
theorem dX8_findRoot_34 : decode cX8_findRoot 34 = .ok (.istore 4, 2) := by decide +kernel
theorem dX8_findRoot_36 : decode cX8_findRoot 36 = .ok (.iconst 0, 1) := by decide +kernel
theorem dX8_findRoot_37 : decode cX8_findRoot 37 = .ok (.istore 5, 2) := by decide +kernel
theorem dX8_findRoot_39 : decode cX8_findRoot 39 = .ok (.iload_n 1, 1) := by decide +kernel
theorem dX8_findRoot_40 : decode cX8_findRoot 40 = .ok (.istore 6, 2) := by decide +kernel
theorem dX8_findRoot_42 : decode cX8_findRoot 42 = .ok (.iload 6, 2) := by decide +kernel
theorem dX8_findRoot_44 : decode cX8_findRoot 44 = .ok (.iload_n 2, 1) := by decide +kernel
theorem dX8_findRoot_45 : decode cX8_findRoot 45 = .ok (.if_icmp .ge 62, 3) := by decide +kernel
theorem dX8_findRoot_48 : decode cX8_findRoot 48 = .ok (.iload_n 3, 1) := by decide +kernel
theorem dX8_findRoot_49 : decode cX8_findRoot 49 = .ok (.aload_n 0, 1) := by decide +kernel
theorem dX8_findRoot_50 : decode cX8_findRoot 50 = .ok (.getfield 40, 3) := by decide +kernel
theorem dX8_findRoot_53 : decode cX8_findRoot 53 = .ok (.bipush 8, 2) := by decide +kernel
theorem dX8_findRoot_55 : decode cX8_findRoot 55 = .ok (.iload_n 1, 1) := by decide +kernel
theorem dX8_findRoot_56 : decode cX8_findRoot 56 = .ok (.imul, 1) := by decide +kernel
theorem dX8_findRoot_57 : decode cX8_findRoot 57 = .ok (.iload 6, 2) := by decide +kernel
theorem dX8_findRoot_59 : decode cX8_findRoot 59 = .ok (.iadd, 1) := by decide +kernel
theorem dX8_findRoot_60 : decode cX8_findRoot 60 = .ok (.iaload, 1) := by decide +kernel
theorem dX8_findRoot_61 : decode cX8_findRoot 61 = .ok (.iadd, 1) := by decide +kernel
theorem dX8_findRoot_62 : decode cX8_findRoot 62 = .ok (.aload_n 0, 1) := by decide +kernel
theorem dX8_findRoot_63 : decode cX8_findRoot 63 = .ok (.getfield 40, 3) := by decide +kernel
theorem dX8_findRoot_66 : decode cX8_findRoot 66 = .ok (.bipush 8, 2) := by decide +kernel
theorem dX8_findRoot_68 : decode cX8_findRoot 68 = .ok (.iload 6, 2) := by decide +kernel
theorem dX8_findRoot_70 : decode cX8_findRoot 70 = .ok (.iconst 1, 1) := by decide +kernel
theorem dX8_findRoot_71 : decode cX8_findRoot 71 = .ok (.iadd, 1) := by decide +kernel
theorem dX8_findRoot_72 : decode cX8_findRoot 72 = .ok (.imul, 1) := by decide +kernel
theorem dX8_findRoot_73 : decode cX8_findRoot 73 = .ok (.iload_n 2, 1) := by decide +kernel
theorem dX8_findRoot_74 : decode cX8_findRoot 74 = .ok (.iadd, 1) := by decide +kernel
theorem dX8_findRoot_75 : decode cX8_findRoot 75 = .ok (.iaload, 1) := by decide +kernel
theorem dX8_findRoot_76 : decode cX8_findRoot 76 = .ok (.iadd, 1) := by decide +kernel
theorem dX8_findRoot_77 : decode cX8_findRoot 77 = .ok (.istore 7, 2) := by decide +kernel
theorem dX8_findRoot_79 : decode cX8_findRoot 79 = .ok (.iload 4, 2) := by decide +kernel
theorem dX8_findRoot_81 : decode cX8_findRoot 81 = .ok (.bipush (-9), 2) := by decide +kernel
theorem dX8_findRoot_83 : decode cX8_findRoot 83 = .ok (.if_icmp .eq 10, 3) := by decide +kernel
theorem dX8_findRoot_86 : decode cX8_findRoot 86 = .ok (.iload 7, 2) := by decide +kernel
theorem dX8_findRoot_88 : decode cX8_findRoot 88 = .ok (.iload 5, 2) := by decide +kernel
theorem dX8_findRoot_90 : decode cX8_findRoot 90 = .ok (.if_icmp .ge 11, 3) := by decide +kernel
theorem dX8_findRoot_93 : decode cX8_findRoot 93 = .ok (.iload 6, 2) := by decide +kernel
theorem dX8_findRoot_95 : decode cX8_findRoot 95 = .ok (.istore 4, 2) := by decide +kernel
theorem dX8_findRoot_97 : decode cX8_findRoot 97 = .ok (.iload 7, 2) := by decide +kernel
theorem dX8_findRoot_99 : decode cX8_findRoot 99 = .ok (.istore 5, 2) := by decide +kernel
theorem dX8_findRoot_101 : decode cX8_findRoot 101 = .ok (.iinc 6 1, 3) := by decide +kernel
theorem dX8_findRoot_104 : decode cX8_findRoot 104 = .ok (.goto (-62), 3) := by decide +kernel
theorem dX8_findRoot_107 : decode cX8_findRoot 107 = .ok (.aload_n 0, 1) := by decide +kernel
theorem dX8_findRoot_108 : decode cX8_findRoot 108 = .ok (.getfield 40, 3) := by decide +kernel
theorem dX8_findRoot_111 : decode cX8_findRoot 111 = .ok (.bipush 8, 2) := by decide +kernel
theorem dX8_findRoot_113 : decode cX8_findRoot 113 = .ok (.iload_n 1, 1) := by decide +kernel
theorem dX8_findRoot_114 : decode cX8_findRoot 114 = .ok (.imul, 1) := by decide +kernel
theorem dX8_findRoot_115 : decode cX8_findRoot 115 = .ok (.iload_n 2, 1) := by decide +kernel
theorem dX8_findRoot_116 : decode cX8_findRoot 116 = .ok (.iadd, 1) := by decide +kernel
theorem dX8_findRoot_117 : decode cX8_findRoot 117 = .ok (.iload 5, 2) := by decide +kernel
theorem dX8_findRoot_119 : decode cX8_findRoot 119 = .ok (.iastore, 1) := by decide +kernel
theorem dX8_findRoot_120 : decode cX8_findRoot 120 = .ok (.aload_n 0, 1) := by decide +kernel
theorem dX8_findRoot_121 : decode cX8_findRoot 121 = .ok (.getfield 43, 3) := by decide +kernel
theorem dX8_findRoot_124 : decode cX8_findRoot 124 = .ok (.bipush 8, 2) := by decide +kernel
theorem dX8_findRoot_126 : decode cX8_findRoot 126 = .ok (.iload_n 1, 1) := by decide +kernel
theorem dX8_findRoot_127 : decode cX8_findRoot 127 = .ok (.imul, 1) := by decide +kernel
theorem dX8_findRoot_128 : decode cX8_findRoot 128 = .ok (.iload_n 2, 1) := by decide +kernel
theorem dX8_findRoot_129 : decode cX8_findRoot 129 = .ok (.iadd, 1) := by decide +kernel
theorem dX8_findRoot_130 : decode cX8_findRoot 130 = .ok (.iload 4, 2) := by decide +kernel
theorem dX8_findRoot_132 : decode cX8_findRoot 132 = .ok (.iastore, 1) := by decide +kernel
theorem dX8_findRoot_133 : decode cX8_findRoot 133 = .ok (.return_, 1) := by decide +kernel
theorem dX8_findDepths_0 : decode cX8_findDepths 0 = .ok (.iconst 0, 1) := by decide +kernel
theorem dX8_findDepths_1 : decode cX8_findDepths 1 = .ok (.istore_n 1, 1) := by decide +kernel
theorem dX8_findDepths_2 : decode cX8_findDepths 2 = .ok (.iload_n 1, 1) := by decide +kernel
theorem dX8_findDepths_3 : decode cX8_findDepths 3 = .ok (.aload_n 0, 1) := by decide +kernel
theorem dX8_findDepths_4 : decode cX8_findDepths 4 = .ok (.getfield 170, 3) := by decide +kernel
theorem dX8_findDepths_7 : decode cX8_findDepths 7 = .ok (.if_icmp .ge 98, 3) := by decide +kernel
theorem dX8_findDepths_10 : decode cX8_findDepths 10 = .ok (.iconst 0, 1) := by decide +kernel
theorem dX8_findDepths_11 : decode cX8_findDepths 11 = .ok (.istore_n 2, 1) := by decide +kernel
theorem dX8_findDepths_12 : decode cX8_findDepths 12 = .ok (.aload_n 0, 1) := by decide +kernel
theorem dX8_findDepths_13 : decode cX8_findDepths 13 = .ok (.getfield 170, 3) := by decide +kernel
theorem dX8_findDepths_16 : decode cX8_findDepths 16 = .ok (.istore_n 3, 1) := by decide +kernel
theorem dX8_findDepths_17 : decode cX8_findDepths 17 = .ok (.iconst 1, 1) := by decide +kernel
theorem dX8_findDepths_18 : decode cX8_findDepths 18 = .ok (.istore 4, 2) := by decide +kernel
theorem dX8_findDepths_20 : decode cX8_findDepths 20 = .ok (.aload_n 0, 1) := by decide +kernel
theorem dX8_findDepths_21 : decode cX8_findDepths 21 = .ok (.getfield 43, 3) := by decide +kernel
theorem dX8_findDepths_24 : decode cX8_findDepths 24 = .ok (.bipush 8, 2) := by decide +kernel
theorem dX8_findDepths_26 : decode cX8_findDepths 26 = .ok (.iload_n 2, 1) := by decide +kernel
theorem dX8_findDepths_27 : decode cX8_findDepths 27 = .ok (.imul, 1) := by decide +kernel
theorem dX8_findDepths_28 : decode cX8_findDepths 28 = .ok (.iload_n 3, 1) := by decide +kernel
theorem dX8_findDepths_29 : decode cX8_findDepths 29 = .ok (.iadd, 1) := by decide +kernel
theorem dX8_findDepths_30 : decode cX8_findDepths 30 = .ok (.iaload, 1) := by decide +kernel
theorem dX8_findDepths_31 : decode cX8_findDepths 31 = .ok (.istore 5, 2) := by decide +kernel
theorem dX8_findDepths_33 : decode cX8_findDepths 33 = .ok (.iload 5, 2) := by decide +kernel
theorem dX8_findDepths_35 : decode cX8_findDepths 35 = .ok (.iload_n 1, 1) := by decide +kernel
theorem dX8_findDepths_36 : decode cX8_findDepths 36 = .ok (.if_icmp .eq 50, 3) := by decide +kernel
theorem dX8_findDepths_39 : decode cX8_findDepths 39 = .ok (.iload_n 1, 1) := by decide +kernel
theorem dX8_findDepths_40 : decode cX8_findDepths 40 = .ok (.iload 5, 2) := by decide +kernel
theorem dX8_findDepths_42 : decode cX8_findDepths 42 = .ok (.if_icmp .le 10, 3) := by decide +kernel
theorem dX8_findDepths_45 : decode cX8_findDepths 45 = .ok (.iload 5, 2) := by decide +kernel
theorem dX8_findDepths_47 : decode cX8_findDepths 47 = .ok (.iconst 1, 1) := by decide +kernel
theorem dX8_findDepths_48 : decode cX8_findDepths 48 = .ok (.iadd, 1) := by decide +kernel
theorem dX8_findDepths_49 : decode cX8_findDepths 49 = .ok (.goto 4, 3) := by decide +kernel
theorem dX8_findDepths_52 : decode cX8_findDepths 52 = .ok (.iload_n 2, 1) := by decide +kernel
theorem dX8_findDepths_53 : decode cX8_findDepths 53 = .ok (.istore_n 2, 1) := by decide +kernel
theorem dX8_findDepths_54 : decode cX8_findDepths 54 = .ok (.iload_n 1, 1) := by decide +kernel
theorem dX8_findDepths_55 : decode cX8_findDepths 55 = .ok (.iload 5, 2) := by decide +kernel
theorem dX8_findDepths_57 : decode cX8_findDepths 57 = .ok (.if_icmp .ge 8, 3) := by decide +kernel
theorem dX8_findDepths_60 : decode cX8_findDepths 60 = .ok (.iload 5, 2) := by decide +kernel
theorem dX8_findDepths_62 : decode cX8_findDepths 62 = .ok (.goto 4, 3) := by decide +kernel
theorem dX8_findDepths_65 : decode cX8_findDepths 65 = .ok (.iload_n 3, 1) := by decide +kernel
theorem dX8_findDepths_66 : decode cX8_findDepths 66 = .ok (.istore_n 3, 1) := by decide +kernel
theorem dX8_findDepths_67 : decode cX8_findDepths 67 = .ok (.aload_n 0, 1) := by decide +kernel
theorem dX8_findDepths_68 : decode cX8_findDepths 68 = .ok (.getfield 43, 3) := by decide +kernel
theorem dX8_findDepths_71 : decode cX8_findDepths 71 = .ok (.bipush 8, 2) := by decide +kernel
theorem dX8_findDepths_73 : decode cX8_findDepths 73 = .ok (.iload_n 2, 1) := by decide +kernel
theorem dX8_findDepths_74 : decode cX8_findDepths 74 = .ok (.imul, 1) := by decide +kernel
theorem dX8_findDepths_75 : decode cX8_findDepths 75 = .ok (.iload_n 3, 1) := by decide +kernel
theorem dX8_findDepths_76 : decode cX8_findDepths 76 = .ok (.iadd, 1) := by decide +kernel
theorem dX8_findDepths_77 : decode cX8_findDepths 77 = .ok (.iaload, 1) := by decide +kernel
theorem dX8_findDepths_78 : decode cX8_findDepths 78 = .ok (.istore 5, 2) := by decide +kernel
theorem dX8_findDepths_80 : decode cX8_findDepths 80 = .ok (.iinc 4 1, 3) := by decide +kernel
theorem dX8_findDepths_83 : decode cX8_findDepths 83 = .ok (.goto (-50), 3) := by decide +kernel
theorem dX8_findDepths_86 : decode cX8_findDepths 86 = .ok (.aload_n 0, 1) := by decide +kernel
theorem dX8_findDepths_87 : decode cX8_findDepths 87 = .ok (.getfield 46, 3) := by decide +kernel
theorem dX8_findDepths_90 : decode cX8_findDepths 90 = .ok (.aload_n 0, 1) := by decide +kernel
theorem dX8_findDepths_91 : decode cX8_findDepths 91 = .ok (.getfield 37, 3) := by decide +kernel
theorem dX8_findDepths_94 : decode cX8_findDepths 94 = .ok (.iload_n 1, 1) := by decide +kernel
theorem dX8_findDepths_95 : decode cX8_findDepths 95 = .ok (.iaload, 1) := by decide +kernel
theorem dX8_findDepths_96 : decode cX8_findDepths 96 = .ok (.iload 4, 2) := by decide +kernel
theorem dX8_findDepths_98 : decode cX8_findDepths 98 = .ok (.iastore, 1) := by decide +kernel
theorem dX8_findDepths_99 : decode cX8_findDepths 99 = .ok (.iinc 1 1, 3) := by decide +kernel
theorem dX8_findDepths_102 : decode cX8_findDepths 102 = .ok (.goto (-100), 3) := by decide +kernel
theorem dX8_findDepths_105 : decode cX8_findDepths 105 = .ok (.return_, 1) := by decide +kernel
set_option maxRecDepth 20000 in
theorem ggX8_tree_X8_within : GoodIn wsX8_tree wsX8_within := goodIn_r _ [10] (by decide +kernel) (by decide +kernel)
set_option maxRecDepth 20000 in
theorem gX8_tree_X8_within : GoodIn wsX8_tree (va_wsS RX8 67 yX8_within wsX8_within) := goodIn_app (goodIn_of _ (by decide +kernel)) ggX8_tree_X8_within
set_option maxRecDepth 20000 in
theorem ggX8_tree_X8_isOf : GoodIn wsX8_tree wsX8_isOf := goodIn_r _ [13] (by decide +kernel) (by decide +kernel)
set_option maxRecDepth 20000 in
theorem gX8_tree_X8_isOf : GoodIn wsX8_tree (va_wsS RX8 124 yX8_isOf wsX8_isOf) := goodIn_app (goodIn_of _ (by decide +kernel)) ggX8_tree_X8_isOf
set_option maxRecDepth 20000 in
theorem ggX8_tree_X8_findCosts : GoodIn wsX8_tree wsX8_findCosts := goodIn_r _ [17, 5, 2, 18, 19, 20, 9, 21, 22, 4, 23, 32, 33, 34, 35, 36, 37, 38, 39, 40, 41, 42, 43, 44, 45, 46, 47, 48, 49, 50, 51, 52, 53, 54, 55, 56, 57, 58, 59, 60, 61] (by decide +kernel) (by decide +kernel)
set_option maxRecDepth 20000 in
theorem gX8_tree_X8_findCosts : GoodIn wsX8_tree (wsV RX8 176 RX8 yX8_findCosts wsX8_findCosts) := goodIn_app (goodIn_of _ (by decide +kernel)) ggX8_tree_X8_findCosts
set_option maxRecDepth 20000 in
theorem ggX8_tree_X8_findDepths : GoodIn wsX8_tree wsX8_findDepths := goodIn_r _ [27, 2, 23, 6, 4, 32, 33, 34, 35, 36, 37, 38, 39, 40, 41, 42, 43, 44, 45, 46, 47, 48, 49, 50, 51, 52, 53, 54, 55, 56, 57, 58, 59, 60, 61] (by decide +kernel) (by decide +kernel)
set_option maxRecDepth 20000 in
theorem gX8_tree_X8_findDepths : GoodIn wsX8_tree (wsV RX8 179 RX8 yX8_findDepths wsX8_findDepths) := goodIn_app (goodIn_of _ (by decide +kernel)) ggX8_tree_X8_findDepths
set_option maxRecDepth 20000 in
theorem ggX8_tree_X8_isSlip : GoodIn wsX8_tree wsX8_isSlip := goodIn_r _ [31, 1, 32, 33, 34, 35, 36, 37, 38, 39, 40, 41, 42, 43, 44, 45, 46, 47, 48, 49, 50, 51, 52, 53, 54, 55, 56, 57, 58, 59, 60, 61] (by decide +kernel) (by decide +kernel)
set_option maxRecDepth 20000 in
theorem gX8_tree_X8_isSlip : GoodIn wsX8_tree (wsV RX8 133 RX8 yX8_isSlip wsX8_isSlip) := goodIn_app (goodIn_of _ (by decide +kernel)) ggX8_tree_X8_isSlip
theorem dX8_tree_0 : decode cX8_tree 0 = .ok (.iload_n 1, 1) := by decide +kernel
theorem dX8_tree_1 : decode cX8_tree 1 = .ok (.iconst (-1), 1) := by decide +kernel
theorem dX8_tree_2 : decode cX8_tree 2 = .ok (.bipush 6, 2) := by decide +kernel
theorem dX8_tree_4 : decode cX8_tree 4 = .ok (.invokestatic 67, 3) := by decide +kernel
theorem dX8_tree_7 : decode cX8_tree 7 = .ok (.ifCond .ne 6, 3) := by decide +kernel
theorem dX8_tree_10 : decode cX8_tree 10 = .ok (.bipush (-2), 2) := by decide +kernel
theorem dX8_tree_12 : decode cX8_tree 12 = .ok (.ireturn, 1) := by decide +kernel
theorem dX8_tree_13 : decode cX8_tree 13 = .ok (.aload_n 0, 1) := by decide +kernel
theorem dX8_tree_14 : decode cX8_tree 14 = .ok (.getfield 71, 3) := by decide +kernel
theorem dX8_tree_17 : decode cX8_tree 17 = .ok (.ifCond .ne 6, 3) := by decide +kernel
theorem dX8_tree_20 : decode cX8_tree 20 = .ok (.bipush (-3), 2) := by decide +kernel
theorem dX8_tree_22 : decode cX8_tree 22 = .ok (.ireturn, 1) := by decide +kernel
theorem dX8_tree_23 : decode cX8_tree 23 = .ok (.aload_n 0, 1) := by decide +kernel
theorem dX8_tree_24 : decode cX8_tree 24 = .ok (.iconst 0, 1) := by decide +kernel
theorem dX8_tree_25 : decode cX8_tree 25 = .ok (.putfield 170, 3) := by decide +kernel
theorem dX8_tree_28 : decode cX8_tree 28 = .ok (.iconst 0, 1) := by decide +kernel
theorem dX8_tree_29 : decode cX8_tree 29 = .ok (.istore_n 2, 1) := by decide +kernel
theorem dX8_tree_30 : decode cX8_tree 30 = .ok (.iload_n 2, 1) := by decide +kernel
theorem dX8_tree_31 : decode cX8_tree 31 = .ok (.aload_n 0, 1) := by decide +kernel
theorem dX8_tree_32 : decode cX8_tree 32 = .ok (.getfield 71, 3) := by decide +kernel
theorem dX8_tree_35 : decode cX8_tree 35 = .ok (.if_icmp .ge 40, 3) := by decide +kernel
theorem dX8_tree_38 : decode cX8_tree 38 = .ok (.aload_n 0, 1) := by decide +kernel
theorem dX8_tree_39 : decode cX8_tree 39 = .ok (.getfield 104, 3) := by decide +kernel
theorem dX8_tree_42 : decode cX8_tree 42 = .ok (.iload_n 2, 1) := by decide +kernel
theorem dX8_tree_43 : decode cX8_tree 43 = .ok (.invokestatic 124, 3) := by decide +kernel
theorem dX8_tree_46 : decode cX8_tree 46 = .ok (.ifCond .ne 23, 3) := by decide +kernel
theorem dX8_tree_49 : decode cX8_tree 49 = .ok (.aload_n 0, 1) := by decide +kernel
theorem dX8_tree_50 : decode cX8_tree 50 = .ok (.getfield 37, 3) := by decide +kernel
theorem dX8_tree_53 : decode cX8_tree 53 = .ok (.aload_n 0, 1) := by decide +kernel
theorem dX8_tree_54 : decode cX8_tree 54 = .ok (.getfield 170, 3) := by decide +kernel
theorem dX8_tree_57 : decode cX8_tree 57 = .ok (.iload_n 2, 1) := by decide +kernel
theorem dX8_tree_58 : decode cX8_tree 58 = .ok (.iastore, 1) := by decide +kernel
theorem dX8_tree_59 : decode cX8_tree 59 = .ok (.aload_n 0, 1) := by decide +kernel
theorem dX8_tree_60 : decode cX8_tree 60 = .ok (.dup, 1) := by decide +kernel
theorem dX8_tree_61 : decode cX8_tree 61 = .ok (.getfield 170, 3) := by decide +kernel
theorem dX8_tree_64 : decode cX8_tree 64 = .ok (.iconst 1, 1) := by decide +kernel
theorem dX8_tree_65 : decode cX8_tree 65 = .ok (.iadd, 1) := by decide +kernel
theorem dX8_tree_66 : decode cX8_tree 66 = .ok (.putfield 170, 3) := by decide +kernel
theorem dX8_tree_69 : decode cX8_tree 69 = .ok (.iinc 2 1, 3) := by decide +kernel
theorem dX8_tree_72 : decode cX8_tree 72 = .ok (.goto (-42), 3) := by decide +kernel
theorem dX8_tree_75 : decode cX8_tree 75 = .ok (.aload_n 0, 1) := by decide +kernel
theorem dX8_tree_76 : decode cX8_tree 76 = .ok (.invokevirtual 176, 3) := by decide +kernel
theorem dX8_tree_79 : decode cX8_tree 79 = .ok (.aload_n 0, 1) := by decide +kernel
theorem dX8_tree_80 : decode cX8_tree 80 = .ok (.invokevirtual 179, 3) := by decide +kernel
theorem dX8_tree_83 : decode cX8_tree 83 = .ok (.iload_n 1, 1) := by decide +kernel
theorem dX8_tree_84 : decode cX8_tree 84 = .ok (.iconst (-1), 1) := by decide +kernel
theorem dX8_tree_85 : decode cX8_tree 85 = .ok (.if_icmp .ne 13, 3) := by decide +kernel
theorem dX8_tree_88 : decode cX8_tree 88 = .ok (.aload_n 0, 1) := by decide +kernel
theorem dX8_tree_89 : decode cX8_tree 89 = .ok (.getfield 40, 3) := by decide +kernel
theorem dX8_tree_92 : decode cX8_tree 92 = .ok (.aload_n 0, 1) := by decide +kernel
theorem dX8_tree_93 : decode cX8_tree 93 = .ok (.getfield 170, 3) := by decide +kernel
theorem dX8_tree_96 : decode cX8_tree 96 = .ok (.iaload, 1) := by decide +kernel
theorem dX8_tree_97 : decode cX8_tree 97 = .ok (.ireturn, 1) := by decide +kernel
theorem dX8_tree_98 : decode cX8_tree 98 = .ok (.aload_n 0, 1) := by decide +kernel
theorem dX8_tree_99 : decode cX8_tree 99 = .ok (.iload_n 1, 1) := by decide +kernel
theorem dX8_tree_100 : decode cX8_tree 100 = .ok (.invokevirtual 133, 3) := by decide +kernel
theorem dX8_tree_103 : decode cX8_tree 103 = .ok (.ifCond .eq 23, 3) := by decide +kernel
theorem dX8_tree_106 : decode cX8_tree 106 = .ok (.aload_n 0, 1) := by decide +kernel
theorem dX8_tree_107 : decode cX8_tree 107 = .ok (.getfield 104, 3) := by decide +kernel
theorem dX8_tree_110 : decode cX8_tree 110 = .ok (.iload_n 1, 1) := by decide +kernel
theorem dX8_tree_111 : decode cX8_tree 111 = .ok (.invokestatic 124, 3) := by decide +kernel
theorem dX8_tree_114 : decode cX8_tree 114 = .ok (.ifCond .ne 12, 3) := by decide +kernel
theorem dX8_tree_117 : decode cX8_tree 117 = .ok (.aload_n 0, 1) := by decide +kernel
theorem dX8_tree_118 : decode cX8_tree 118 = .ok (.getfield 46, 3) := by decide +kernel
theorem dX8_tree_121 : decode cX8_tree 121 = .ok (.iload_n 1, 1) := by decide +kernel
theorem dX8_tree_122 : decode cX8_tree 122 = .ok (.iaload, 1) := by decide +kernel
theorem dX8_tree_123 : decode cX8_tree 123 = .ok (.goto 5, 3) := by decide +kernel
theorem dX8_tree_126 : decode cX8_tree 126 = .ok (.bipush (-9), 2) := by decide +kernel
theorem dX8_tree_128 : decode cX8_tree 128 = .ok (.ireturn, 1) := by decide +kernel
theorem dX8_ordersOf_0 : decode cX8_ordersOf 0 = .ok (.iconst 1, 1) := by decide +kernel
theorem dX8_ordersOf_1 : decode cX8_ordersOf 1 = .ok (.istore_n 1, 1) := by decide +kernel
theorem dX8_ordersOf_2 : decode cX8_ordersOf 2 = .ok (.iconst 2, 1) := by decide +kernel
theorem dX8_ordersOf_3 : decode cX8_ordersOf 3 = .ok (.istore_n 2, 1) := by decide +kernel
theorem dX8_ordersOf_4 : decode cX8_ordersOf 4 = .ok (.iload_n 2, 1) := by decide +kernel
theorem dX8_ordersOf_5 : decode cX8_ordersOf 5 = .ok (.iload_n 0, 1) := by decide +kernel
theorem dX8_ordersOf_6 : decode cX8_ordersOf 6 = .ok (.if_icmp .gt 13, 3) := by decide +kernel
theorem dX8_ordersOf_9 : decode cX8_ordersOf 9 = .ok (.iload_n 1, 1) := by decide +kernel
theorem dX8_ordersOf_10 : decode cX8_ordersOf 10 = .ok (.iload_n 2, 1) := by decide +kernel
theorem dX8_ordersOf_11 : decode cX8_ordersOf 11 = .ok (.imul, 1) := by decide +kernel
theorem dX8_ordersOf_12 : decode cX8_ordersOf 12 = .ok (.istore_n 1, 1) := by decide +kernel
theorem dX8_ordersOf_13 : decode cX8_ordersOf 13 = .ok (.iinc 2 1, 3) := by decide +kernel
theorem dX8_ordersOf_16 : decode cX8_ordersOf 16 = .ok (.goto (-12), 3) := by decide +kernel
theorem dX8_ordersOf_19 : decode cX8_ordersOf 19 = .ok (.iload_n 1, 1) := by decide +kernel
theorem dX8_ordersOf_20 : decode cX8_ordersOf 20 = .ok (.ireturn, 1) := by decide +kernel
set_option maxRecDepth 20000 in
theorem ggX8_rowOf_X8_ordersOf : GoodIn wsX8_rowOf wsX8_ordersOf := goodIn_r _ [7] (by decide +kernel) (by decide +kernel)
set_option maxRecDepth 20000 in
theorem gX8_rowOf_X8_ordersOf : GoodIn wsX8_rowOf (va_wsS RX8 182 yX8_ordersOf wsX8_ordersOf) := goodIn_app (goodIn_of _ (by decide +kernel)) ggX8_rowOf_X8_ordersOf
set_option maxRecDepth 20000 in
theorem ggX8_rowOf_X8_isOf : GoodIn wsX8_rowOf wsX8_isOf := goodIn_r _ [10] (by decide +kernel) (by decide +kernel)
set_option maxRecDepth 20000 in
theorem gX8_rowOf_X8_isOf : GoodIn wsX8_rowOf (va_wsS RX8 124 yX8_isOf wsX8_isOf) := goodIn_app (goodIn_of _ (by decide +kernel)) ggX8_rowOf_X8_isOf
theorem dX8_rowOf_0 : decode cX8_rowOf 0 = .ok (.iload_n 1, 1) := by decide +kernel
theorem dX8_rowOf_1 : decode cX8_rowOf 1 = .ok (.istore_n 2, 1) := by decide +kernel
theorem dX8_rowOf_2 : decode cX8_rowOf 2 = .ok (.aload_n 0, 1) := by decide +kernel
theorem dX8_rowOf_3 : decode cX8_rowOf 3 = .ok (.getfield 71, 3) := by decide +kernel
theorem dX8_rowOf_6 : decode cX8_rowOf 6 = .ok (.iconst 1, 1) := by decide +kernel
theorem dX8_rowOf_7 : decode cX8_rowOf 7 = .ok (.isub, 1) := by decide +kernel
theorem dX8_rowOf_8 : decode cX8_rowOf 8 = .ok (.invokestatic 182, 3) := by decide +kernel
theorem dX8_rowOf_11 : decode cX8_rowOf 11 = .ok (.istore_n 3, 1) := by decide +kernel
theorem dX8_rowOf_12 : decode cX8_rowOf 12 = .ok (.iconst 0, 1) := by decide +kernel
theorem dX8_rowOf_13 : decode cX8_rowOf 13 = .ok (.istore 4, 2) := by decide +kernel
theorem dX8_rowOf_15 : decode cX8_rowOf 15 = .ok (.iconst 0, 1) := by decide +kernel
theorem dX8_rowOf_16 : decode cX8_rowOf 16 = .ok (.istore 5, 2) := by decide +kernel
theorem dX8_rowOf_18 : decode cX8_rowOf 18 = .ok (.iload 5, 2) := by decide +kernel
theorem dX8_rowOf_20 : decode cX8_rowOf 20 = .ok (.aload_n 0, 1) := by decide +kernel
theorem dX8_rowOf_21 : decode cX8_rowOf 21 = .ok (.getfield 71, 3) := by decide +kernel
theorem dX8_rowOf_24 : decode cX8_rowOf 24 = .ok (.if_icmp .ge 118, 3) := by decide +kernel
theorem dX8_rowOf_27 : decode cX8_rowOf 27 = .ok (.iload_n 2, 1) := by decide +kernel
theorem dX8_rowOf_28 : decode cX8_rowOf 28 = .ok (.iload_n 3, 1) := by decide +kernel
theorem dX8_rowOf_29 : decode cX8_rowOf 29 = .ok (.idiv, 1) := by decide +kernel
theorem dX8_rowOf_30 : decode cX8_rowOf 30 = .ok (.istore 6, 2) := by decide +kernel
theorem dX8_rowOf_32 : decode cX8_rowOf 32 = .ok (.iload_n 2, 1) := by decide +kernel
theorem dX8_rowOf_33 : decode cX8_rowOf 33 = .ok (.iload_n 3, 1) := by decide +kernel
theorem dX8_rowOf_34 : decode cX8_rowOf 34 = .ok (.irem, 1) := by decide +kernel
theorem dX8_rowOf_35 : decode cX8_rowOf 35 = .ok (.istore_n 2, 1) := by decide +kernel
theorem dX8_rowOf_36 : decode cX8_rowOf 36 = .ok (.iconst 0, 1) := by decide +kernel
theorem dX8_rowOf_37 : decode cX8_rowOf 37 = .ok (.istore 7, 2) := by decide +kernel
theorem dX8_rowOf_39 : decode cX8_rowOf 39 = .ok (.iload 4, 2) := by decide +kernel
theorem dX8_rowOf_41 : decode cX8_rowOf 41 = .ok (.iload 7, 2) := by decide +kernel
theorem dX8_rowOf_43 : decode cX8_rowOf 43 = .ok (.invokestatic 124, 3) := by decide +kernel
theorem dX8_rowOf_46 : decode cX8_rowOf 46 = .ok (.ifCond .ne 8, 3) := by decide +kernel
theorem dX8_rowOf_49 : decode cX8_rowOf 49 = .ok (.iload 6, 2) := by decide +kernel
theorem dX8_rowOf_51 : decode cX8_rowOf 51 = .ok (.ifCond .le 29, 3) := by decide +kernel
theorem dX8_rowOf_54 : decode cX8_rowOf 54 = .ok (.iload 6, 2) := by decide +kernel
theorem dX8_rowOf_56 : decode cX8_rowOf 56 = .ok (.iload 4, 2) := by decide +kernel
theorem dX8_rowOf_58 : decode cX8_rowOf 58 = .ok (.iload 7, 2) := by decide +kernel
theorem dX8_rowOf_60 : decode cX8_rowOf 60 = .ok (.invokestatic 124, 3) := by decide +kernel
theorem dX8_rowOf_63 : decode cX8_rowOf 63 = .ok (.ifCond .eq 7, 3) := by decide +kernel
theorem dX8_rowOf_66 : decode cX8_rowOf 66 = .ok (.iconst 0, 1) := by decide +kernel
theorem dX8_rowOf_67 : decode cX8_rowOf 67 = .ok (.goto 4, 3) := by decide +kernel
theorem dX8_rowOf_70 : decode cX8_rowOf 70 = .ok (.iconst 1, 1) := by decide +kernel
theorem dX8_rowOf_71 : decode cX8_rowOf 71 = .ok (.isub, 1) := by decide +kernel
theorem dX8_rowOf_72 : decode cX8_rowOf 72 = .ok (.istore 6, 2) := by decide +kernel
theorem dX8_rowOf_74 : decode cX8_rowOf 74 = .ok (.iinc 7 1, 3) := by decide +kernel
theorem dX8_rowOf_77 : decode cX8_rowOf 77 = .ok (.goto (-38), 3) := by decide +kernel
theorem dX8_rowOf_80 : decode cX8_rowOf 80 = .ok (.aload_n 0, 1) := by decide +kernel
theorem dX8_rowOf_81 : decode cX8_rowOf 81 = .ok (.getfield 49, 3) := by decide +kernel
theorem dX8_rowOf_84 : decode cX8_rowOf 84 = .ok (.iload 5, 2) := by decide +kernel
theorem dX8_rowOf_86 : decode cX8_rowOf 86 = .ok (.iload 7, 2) := by decide +kernel
theorem dX8_rowOf_88 : decode cX8_rowOf 88 = .ok (.iastore, 1) := by decide +kernel
theorem dX8_rowOf_89 : decode cX8_rowOf 89 = .ok (.aload_n 0, 1) := by decide +kernel
theorem dX8_rowOf_90 : decode cX8_rowOf 90 = .ok (.getfield 52, 3) := by decide +kernel
theorem dX8_rowOf_93 : decode cX8_rowOf 93 = .ok (.iload 7, 2) := by decide +kernel
theorem dX8_rowOf_95 : decode cX8_rowOf 95 = .ok (.iload 5, 2) := by decide +kernel
theorem dX8_rowOf_97 : decode cX8_rowOf 97 = .ok (.iastore, 1) := by decide +kernel
theorem dX8_rowOf_98 : decode cX8_rowOf 98 = .ok (.iload 4, 2) := by decide +kernel
theorem dX8_rowOf_100 : decode cX8_rowOf 100 = .ok (.iconst 1, 1) := by decide +kernel
theorem dX8_rowOf_101 : decode cX8_rowOf 101 = .ok (.iload 7, 2) := by decide +kernel
theorem dX8_rowOf_103 : decode cX8_rowOf 103 = .ok (.ishl, 1) := by decide +kernel
theorem dX8_rowOf_104 : decode cX8_rowOf 104 = .ok (.ior, 1) := by decide +kernel
theorem dX8_rowOf_105 : decode cX8_rowOf 105 = .ok (.istore 4, 2) := by decide +kernel
theorem dX8_rowOf_107 : decode cX8_rowOf 107 = .ok (.aload_n 0, 1) := by decide +kernel
theorem dX8_rowOf_108 : decode cX8_rowOf 108 = .ok (.getfield 71, 3) := by decide +kernel
theorem dX8_rowOf_111 : decode cX8_rowOf 111 = .ok (.iload 5, 2) := by decide +kernel
theorem dX8_rowOf_113 : decode cX8_rowOf 113 = .ok (.isub, 1) := by decide +kernel
theorem dX8_rowOf_114 : decode cX8_rowOf 114 = .ok (.iconst 1, 1) := by decide +kernel
theorem dX8_rowOf_115 : decode cX8_rowOf 115 = .ok (.isub, 1) := by decide +kernel
theorem dX8_rowOf_116 : decode cX8_rowOf 116 = .ok (.iconst 1, 1) := by decide +kernel
theorem dX8_rowOf_117 : decode cX8_rowOf 117 = .ok (.if_icmp .le 17, 3) := by decide +kernel
theorem dX8_rowOf_120 : decode cX8_rowOf 120 = .ok (.iload_n 3, 1) := by decide +kernel
theorem dX8_rowOf_121 : decode cX8_rowOf 121 = .ok (.aload_n 0, 1) := by decide +kernel
theorem dX8_rowOf_122 : decode cX8_rowOf 122 = .ok (.getfield 71, 3) := by decide +kernel
theorem dX8_rowOf_125 : decode cX8_rowOf 125 = .ok (.iload 5, 2) := by decide +kernel
theorem dX8_rowOf_127 : decode cX8_rowOf 127 = .ok (.isub, 1) := by decide +kernel
theorem dX8_rowOf_128 : decode cX8_rowOf 128 = .ok (.iconst 1, 1) := by decide +kernel
theorem dX8_rowOf_129 : decode cX8_rowOf 129 = .ok (.isub, 1) := by decide +kernel
theorem dX8_rowOf_130 : decode cX8_rowOf 130 = .ok (.idiv, 1) := by decide +kernel
theorem dX8_rowOf_131 : decode cX8_rowOf 131 = .ok (.goto 4, 3) := by decide +kernel
theorem dX8_rowOf_134 : decode cX8_rowOf 134 = .ok (.iconst 1, 1) := by decide +kernel
theorem dX8_rowOf_135 : decode cX8_rowOf 135 = .ok (.istore_n 3, 1) := by decide +kernel
theorem dX8_rowOf_136 : decode cX8_rowOf 136 = .ok (.iinc 5 1, 3) := by decide +kernel
theorem dX8_rowOf_139 : decode cX8_rowOf 139 = .ok (.goto (-121), 3) := by decide +kernel
theorem dX8_rowOf_142 : decode cX8_rowOf 142 = .ok (.return_, 1) := by decide +kernel
theorem dX8_areAhead_0 : decode cX8_areAhead 0 = .ok (.iconst 0, 1) := by decide +kernel
theorem dX8_areAhead_1 : decode cX8_areAhead 1 = .ok (.istore_n 3, 1) := by decide +kernel
theorem dX8_areAhead_2 : decode cX8_areAhead 2 = .ok (.iload_n 3, 1) := by decide +kernel
theorem dX8_areAhead_3 : decode cX8_areAhead 3 = .ok (.iload_n 2, 1) := by decide +kernel
theorem dX8_areAhead_4 : decode cX8_areAhead 4 = .ok (.if_icmp .ge 46, 3) := by decide +kernel
theorem dX8_areAhead_7 : decode cX8_areAhead 7 = .ok (.aload_n 0, 1) := by decide +kernel
theorem dX8_areAhead_8 : decode cX8_areAhead 8 = .ok (.getfield 52, 3) := by decide +kernel
theorem dX8_areAhead_11 : decode cX8_areAhead 11 = .ok (.aload_n 0, 1) := by decide +kernel
theorem dX8_areAhead_12 : decode cX8_areAhead 12 = .ok (.getfield 16, 3) := by decide +kernel
theorem dX8_areAhead_15 : decode cX8_areAhead 15 = .ok (.iload_n 1, 1) := by decide +kernel
theorem dX8_areAhead_16 : decode cX8_areAhead 16 = .ok (.iconst 2, 1) := by decide +kernel
theorem dX8_areAhead_17 : decode cX8_areAhead 17 = .ok (.iload_n 3, 1) := by decide +kernel
theorem dX8_areAhead_18 : decode cX8_areAhead 18 = .ok (.imul, 1) := by decide +kernel
theorem dX8_areAhead_19 : decode cX8_areAhead 19 = .ok (.iadd, 1) := by decide +kernel
theorem dX8_areAhead_20 : decode cX8_areAhead 20 = .ok (.iaload, 1) := by decide +kernel
theorem dX8_areAhead_21 : decode cX8_areAhead 21 = .ok (.iaload, 1) := by decide +kernel
theorem dX8_areAhead_22 : decode cX8_areAhead 22 = .ok (.aload_n 0, 1) := by decide +kernel
theorem dX8_areAhead_23 : decode cX8_areAhead 23 = .ok (.getfield 52, 3) := by decide +kernel
theorem dX8_areAhead_26 : decode cX8_areAhead 26 = .ok (.aload_n 0, 1) := by decide +kernel
theorem dX8_areAhead_27 : decode cX8_areAhead 27 = .ok (.getfield 16, 3) := by decide +kernel
theorem dX8_areAhead_30 : decode cX8_areAhead 30 = .ok (.iload_n 1, 1) := by decide +kernel
theorem dX8_areAhead_31 : decode cX8_areAhead 31 = .ok (.iconst 2, 1) := by decide +kernel
theorem dX8_areAhead_32 : decode cX8_areAhead 32 = .ok (.iload_n 3, 1) := by decide +kernel
theorem dX8_areAhead_33 : decode cX8_areAhead 33 = .ok (.imul, 1) := by decide +kernel
theorem dX8_areAhead_34 : decode cX8_areAhead 34 = .ok (.iadd, 1) := by decide +kernel
theorem dX8_areAhead_35 : decode cX8_areAhead 35 = .ok (.iconst 1, 1) := by decide +kernel
theorem dX8_areAhead_36 : decode cX8_areAhead 36 = .ok (.iadd, 1) := by decide +kernel
theorem dX8_areAhead_37 : decode cX8_areAhead 37 = .ok (.iaload, 1) := by decide +kernel
theorem dX8_areAhead_38 : decode cX8_areAhead 38 = .ok (.iaload, 1) := by decide +kernel
theorem dX8_areAhead_39 : decode cX8_areAhead 39 = .ok (.if_icmp .lt 5, 3) := by decide +kernel
theorem dX8_areAhead_42 : decode cX8_areAhead 42 = .ok (.iconst 0, 1) := by decide +kernel
theorem dX8_areAhead_43 : decode cX8_areAhead 43 = .ok (.ireturn, 1) := by decide +kernel
theorem dX8_areAhead_44 : decode cX8_areAhead 44 = .ok (.iinc 3 1, 3) := by decide +kernel
theorem dX8_areAhead_47 : decode cX8_areAhead 47 = .ok (.goto (-45), 3) := by decide +kernel
theorem dX8_areAhead_50 : decode cX8_areAhead 50 = .ok (.iconst 1, 1) := by decide +kernel
theorem dX8_areAhead_51 : decode cX8_areAhead 51 = .ok (.ireturn, 1) := by decide +kernel
set_option maxRecDepth 20000 in
theorem ggX8_orders_X8_isSheet : GoodIn wsX8_orders wsX8_isSheet := goodIn_r _ [8, 9, 10, 7, 11] (by decide +kernel) (by decide +kernel)
set_option maxRecDepth 20000 in
theorem gX8_orders_X8_isSheet : GoodIn wsX8_orders (va_wsS RX8 77 yX8_isSheet wsX8_isSheet) := goodIn_app (goodIn_of _ (by decide +kernel)) ggX8_orders_X8_isSheet
set_option maxRecDepth 20000 in
theorem ggX8_orders_X8_isSort : GoodIn wsX8_orders wsX8_isSort := goodIn_r _ [14, 9, 10, 7, 11] (by decide +kernel) (by decide +kernel)
set_option maxRecDepth 20000 in
theorem gX8_orders_X8_isSort : GoodIn wsX8_orders (va_wsS RX8 81 yX8_isSort wsX8_isSort) := goodIn_app (goodIn_of _ (by decide +kernel)) ggX8_orders_X8_isSort
set_option maxRecDepth 20000 in
theorem ggX8_orders_X8_within : GoodIn wsX8_orders wsX8_within := goodIn_r _ [11] (by decide +kernel) (by decide +kernel)
set_option maxRecDepth 20000 in
theorem gX8_orders_X8_within : GoodIn wsX8_orders (va_wsS RX8 67 yX8_within wsX8_within) := goodIn_app (goodIn_of _ (by decide +kernel)) ggX8_orders_X8_within
set_option maxRecDepth 20000 in
theorem ggX8_orders_X8_against : GoodIn wsX8_orders wsX8_against := goodIn_r _ [18, 19, 20, 44, 45, 46, 47, 48, 49, 50, 51, 52, 53, 54, 55, 56, 57, 58, 59, 60, 61, 62, 63, 64, 65, 66, 67, 68, 69, 70, 71, 72, 73] (by decide +kernel) (by decide +kernel)
set_option maxRecDepth 20000 in
theorem gX8_orders_X8_against : GoodIn wsX8_orders (wsV RX8 84 RX8 yX8_against wsX8_against) := goodIn_app (goodIn_of _ (by decide +kernel)) ggX8_orders_X8_against
set_option maxRecDepth 20000 in
theorem ggX8_orders_X8_fails : GoodIn wsX8_orders wsX8_fails := goodIn_r _ [24, 1, 44, 45, 46, 47, 48, 49, 50, 51, 52, 53, 54, 55, 56, 57, 58, 59, 60, 61, 62, 63, 64, 65, 66, 67, 68, 69, 70, 71, 72, 73] (by decide +kernel) (by decide +kernel)
set_option maxRecDepth 20000 in
theorem gX8_orders_X8_fails : GoodIn wsX8_orders (wsV RX8 88 RX8 yX8_fails wsX8_fails) := goodIn_app (goodIn_of _ (by decide +kernel)) ggX8_orders_X8_fails
set_option maxRecDepth 20000 in
theorem ggX8_orders_X8_isSlip : GoodIn wsX8_orders wsX8_isSlip := goodIn_r _ [28, 2, 44, 45, 46, 47, 48, 49, 50, 51, 52, 53, 54, 55, 56, 57, 58, 59, 60, 61, 62, 63, 64, 65, 66, 67, 68, 69, 70, 71, 72, 73] (by decide +kernel) (by decide +kernel)
set_option maxRecDepth 20000 in
theorem gX8_orders_X8_isSlip : GoodIn wsX8_orders (wsV RX8 133 RX8 yX8_isSlip wsX8_isSlip) := goodIn_app (goodIn_of _ (by decide +kernel)) ggX8_orders_X8_isSlip
set_option maxRecDepth 20000 in
theorem ggX8_orders_X8_ordersOf : GoodIn wsX8_orders wsX8_ordersOf := goodIn_r _ [31] (by decide +kernel) (by decide +kernel)
set_option maxRecDepth 20000 in
theorem gX8_orders_X8_ordersOf : GoodIn wsX8_orders (va_wsS RX8 182 yX8_ordersOf wsX8_ordersOf) := goodIn_app (goodIn_of _ (by decide +kernel)) ggX8_orders_X8_ordersOf
set_option maxRecDepth 20000 in
theorem ggX8_orders_X8_rowOf : GoodIn wsX8_orders wsX8_rowOf := goodIn_r _ [35, 2, 4, 36, 29, 30, 7, 31, 37, 38, 39, 44, 45, 46, 47, 48, 49, 50, 51, 52, 53, 54, 55, 56, 57, 58, 59, 60, 61, 62, 63, 64, 65, 66, 67, 68, 69, 70, 71, 72, 73] (by decide +kernel) (by decide +kernel)
set_option maxRecDepth 20000 in
theorem gX8_orders_X8_rowOf : GoodIn wsX8_orders (wsV RX8 185 RX8 yX8_rowOf wsX8_rowOf) := goodIn_app (goodIn_of _ (by decide +kernel)) ggX8_orders_X8_rowOf
set_option maxRecDepth 20000 in
theorem ggX8_orders_X8_areAhead : GoodIn wsX8_orders wsX8_areAhead := goodIn_r _ [43, 36, 3, 44, 45, 46, 47, 48, 49, 50, 51, 52, 53, 54, 55, 56, 57, 58, 59, 60, 61, 62, 63, 64, 65, 66, 67, 68, 69, 70, 71, 72, 73] (by decide +kernel) (by decide +kernel)
set_option maxRecDepth 20000 in
theorem gX8_orders_X8_areAhead : GoodIn wsX8_orders (wsV RX8 189 RX8 yX8_areAhead wsX8_areAhead) := goodIn_app (goodIn_of _ (by decide +kernel)) ggX8_orders_X8_areAhead
theorem dX8_orders_0 : decode cX8_orders 0 = .ok (.aload_n 0, 1) := by decide +kernel
theorem dX8_orders_1 : decode cX8_orders 1 = .ok (.iconst 0, 1) := by decide +kernel
theorem dX8_orders_2 : decode cX8_orders 2 = .ok (.putfield 61, 3) := by decide +kernel
theorem dX8_orders_5 : decode cX8_orders 5 = .ok (.iload_n 1, 1) := by decide +kernel
theorem dX8_orders_6 : decode cX8_orders 6 = .ok (.invokestatic 77, 3) := by decide +kernel
theorem dX8_orders_9 : decode cX8_orders 9 = .ok (.ifCond .ne 5, 3) := by decide +kernel
theorem dX8_orders_12 : decode cX8_orders 12 = .ok (.iconst (-1), 1) := by decide +kernel
theorem dX8_orders_13 : decode cX8_orders 13 = .ok (.ireturn, 1) := by decide +kernel
theorem dX8_orders_14 : decode cX8_orders 14 = .ok (.iload_n 2, 1) := by decide +kernel
theorem dX8_orders_15 : decode cX8_orders 15 = .ok (.invokestatic 81, 3) := by decide +kernel
theorem dX8_orders_18 : decode cX8_orders 18 = .ok (.ifCond .eq 25, 3) := by decide +kernel
theorem dX8_orders_21 : decode cX8_orders 21 = .ok (.iload 4, 2) := by decide +kernel
theorem dX8_orders_23 : decode cX8_orders 23 = .ok (.iconst 0, 1) := by decide +kernel
theorem dX8_orders_24 : decode cX8_orders 24 = .ok (.bipush 10, 2) := by decide +kernel
theorem dX8_orders_26 : decode cX8_orders 26 = .ok (.invokestatic 67, 3) := by decide +kernel
theorem dX8_orders_29 : decode cX8_orders 29 = .ok (.ifCond .eq 14, 3) := by decide +kernel
theorem dX8_orders_32 : decode cX8_orders 32 = .ok (.iload 5, 2) := by decide +kernel
theorem dX8_orders_34 : decode cX8_orders 34 = .ok (.iconst (-1), 1) := by decide +kernel
theorem dX8_orders_35 : decode cX8_orders 35 = .ok (.bipush 6, 2) := by decide +kernel
theorem dX8_orders_37 : decode cX8_orders 37 = .ok (.invokestatic 67, 3) := by decide +kernel
theorem dX8_orders_40 : decode cX8_orders 40 = .ok (.ifCond .ne 6, 3) := by decide +kernel
theorem dX8_orders_43 : decode cX8_orders 43 = .ok (.bipush (-2), 2) := by decide +kernel
theorem dX8_orders_45 : decode cX8_orders 45 = .ok (.ireturn, 1) := by decide +kernel
theorem dX8_orders_46 : decode cX8_orders 46 = .ok (.aload_n 0, 1) := by decide +kernel
theorem dX8_orders_47 : decode cX8_orders 47 = .ok (.iload_n 1, 1) := by decide +kernel
theorem dX8_orders_48 : decode cX8_orders 48 = .ok (.iload_n 2, 1) := by decide +kernel
theorem dX8_orders_49 : decode cX8_orders 49 = .ok (.iload_n 3, 1) := by decide +kernel
theorem dX8_orders_50 : decode cX8_orders 50 = .ok (.iconst 2, 1) := by decide +kernel
theorem dX8_orders_51 : decode cX8_orders 51 = .ok (.iload 4, 2) := by decide +kernel
theorem dX8_orders_53 : decode cX8_orders 53 = .ok (.imul, 1) := by decide +kernel
theorem dX8_orders_54 : decode cX8_orders 54 = .ok (.invokevirtual 84, 3) := by decide +kernel
theorem dX8_orders_57 : decode cX8_orders 57 = .ok (.istore 6, 2) := by decide +kernel
theorem dX8_orders_59 : decode cX8_orders 59 = .ok (.iload 6, 2) := by decide +kernel
theorem dX8_orders_61 : decode cX8_orders 61 = .ok (.ifCond .eq 10, 3) := by decide +kernel
theorem dX8_orders_64 : decode cX8_orders 64 = .ok (.aload_n 0, 1) := by decide +kernel
theorem dX8_orders_65 : decode cX8_orders 65 = .ok (.iload 6, 2) := by decide +kernel
theorem dX8_orders_67 : decode cX8_orders 67 = .ok (.invokevirtual 88, 3) := by decide +kernel
theorem dX8_orders_70 : decode cX8_orders 70 = .ok (.ireturn, 1) := by decide +kernel
theorem dX8_orders_71 : decode cX8_orders 71 = .ok (.aload_n 0, 1) := by decide +kernel
theorem dX8_orders_72 : decode cX8_orders 72 = .ok (.getfield 71, 3) := by decide +kernel
theorem dX8_orders_75 : decode cX8_orders 75 = .ok (.ifCond .ne 6, 3) := by decide +kernel
theorem dX8_orders_78 : decode cX8_orders 78 = .ok (.bipush (-3), 2) := by decide +kernel
theorem dX8_orders_80 : decode cX8_orders 80 = .ok (.ireturn, 1) := by decide +kernel
theorem dX8_orders_81 : decode cX8_orders 81 = .ok (.bipush 60, 2) := by decide +kernel
theorem dX8_orders_83 : decode cX8_orders 83 = .ok (.iload_n 1, 1) := by decide +kernel
theorem dX8_orders_84 : decode cX8_orders 84 = .ok (.imul, 1) := by decide +kernel
theorem dX8_orders_85 : decode cX8_orders 85 = .ok (.iload_n 3, 1) := by decide +kernel
theorem dX8_orders_86 : decode cX8_orders 86 = .ok (.iadd, 1) := by decide +kernel
theorem dX8_orders_87 : decode cX8_orders 87 = .ok (.istore 7, 2) := by decide +kernel
theorem dX8_orders_89 : decode cX8_orders 89 = .ok (.iconst 0, 1) := by decide +kernel
theorem dX8_orders_90 : decode cX8_orders 90 = .ok (.istore 8, 2) := by decide +kernel
theorem dX8_orders_92 : decode cX8_orders 92 = .ok (.iload 8, 2) := by decide +kernel
theorem dX8_orders_94 : decode cX8_orders 94 = .ok (.iconst 2, 1) := by decide +kernel
theorem dX8_orders_95 : decode cX8_orders 95 = .ok (.iload 4, 2) := by decide +kernel
theorem dX8_orders_97 : decode cX8_orders 97 = .ok (.imul, 1) := by decide +kernel
theorem dX8_orders_98 : decode cX8_orders 98 = .ok (.if_icmp .ge 28, 3) := by decide +kernel
theorem dX8_orders_101 : decode cX8_orders 101 = .ok (.aload_n 0, 1) := by decide +kernel
theorem dX8_orders_102 : decode cX8_orders 102 = .ok (.aload_n 0, 1) := by decide +kernel
theorem dX8_orders_103 : decode cX8_orders 103 = .ok (.getfield 16, 3) := by decide +kernel
theorem dX8_orders_106 : decode cX8_orders 106 = .ok (.iload 7, 2) := by decide +kernel
theorem dX8_orders_108 : decode cX8_orders 108 = .ok (.iload 8, 2) := by decide +kernel
theorem dX8_orders_110 : decode cX8_orders 110 = .ok (.iadd, 1) := by decide +kernel
theorem dX8_orders_111 : decode cX8_orders 111 = .ok (.iaload, 1) := by decide +kernel
theorem dX8_orders_112 : decode cX8_orders 112 = .ok (.invokevirtual 133, 3) := by decide +kernel
theorem dX8_orders_115 : decode cX8_orders 115 = .ok (.ifCond .ne 5, 3) := by decide +kernel
theorem dX8_orders_118 : decode cX8_orders 118 = .ok (.iconst (-1), 1) := by decide +kernel
theorem dX8_orders_119 : decode cX8_orders 119 = .ok (.ireturn, 1) := by decide +kernel
theorem dX8_orders_120 : decode cX8_orders 120 = .ok (.iinc 8 1, 3) := by decide +kernel
theorem dX8_orders_123 : decode cX8_orders 123 = .ok (.goto (-31), 3) := by decide +kernel
theorem dX8_orders_126 : decode cX8_orders 126 = .ok (.iconst 0, 1) := by decide +kernel
theorem dX8_orders_127 : decode cX8_orders 127 = .ok (.istore 8, 2) := by decide +kernel
theorem dX8_orders_129 : decode cX8_orders 129 = .ok (.bipush (-9), 2) := by decide +kernel
theorem dX8_orders_131 : decode cX8_orders 131 = .ok (.istore 9, 2) := by decide +kernel
theorem dX8_orders_133 : decode cX8_orders 133 = .ok (.iconst 0, 1) := by decide +kernel
theorem dX8_orders_134 : decode cX8_orders 134 = .ok (.istore 10, 2) := by decide +kernel
theorem dX8_orders_136 : decode cX8_orders 136 = .ok (.iload 10, 2) := by decide +kernel
theorem dX8_orders_138 : decode cX8_orders 138 = .ok (.aload_n 0, 1) := by decide +kernel
theorem dX8_orders_139 : decode cX8_orders 139 = .ok (.getfield 71, 3) := by decide +kernel
theorem dX8_orders_142 : decode cX8_orders 142 = .ok (.invokestatic 182, 3) := by decide +kernel
theorem dX8_orders_145 : decode cX8_orders 145 = .ok (.if_icmp .ge 57, 3) := by decide +kernel
theorem dX8_orders_148 : decode cX8_orders 148 = .ok (.aload_n 0, 1) := by decide +kernel
theorem dX8_orders_149 : decode cX8_orders 149 = .ok (.iload 10, 2) := by decide +kernel
theorem dX8_orders_151 : decode cX8_orders 151 = .ok (.invokevirtual 185, 3) := by decide +kernel
theorem dX8_orders_154 : decode cX8_orders 154 = .ok (.aload_n 0, 1) := by decide +kernel
theorem dX8_orders_155 : decode cX8_orders 155 = .ok (.iload 7, 2) := by decide +kernel
theorem dX8_orders_157 : decode cX8_orders 157 = .ok (.iload 4, 2) := by decide +kernel
theorem dX8_orders_159 : decode cX8_orders 159 = .ok (.invokevirtual 189, 3) := by decide +kernel
theorem dX8_orders_162 : decode cX8_orders 162 = .ok (.ifCond .eq 34, 3) := by decide +kernel
theorem dX8_orders_165 : decode cX8_orders 165 = .ok (.iload 8, 2) := by decide +kernel
theorem dX8_orders_167 : decode cX8_orders 167 = .ok (.ifCond .ne 22, 3) := by decide +kernel
theorem dX8_orders_170 : decode cX8_orders 170 = .ok (.aload_n 0, 1) := by decide +kernel
theorem dX8_orders_171 : decode cX8_orders 171 = .ok (.iload 5, 2) := by decide +kernel
theorem dX8_orders_173 : decode cX8_orders 173 = .ok (.invokevirtual 133, 3) := by decide +kernel
theorem dX8_orders_176 : decode cX8_orders 176 = .ok (.ifCond .eq 13, 3) := by decide +kernel
theorem dX8_orders_179 : decode cX8_orders 179 = .ok (.aload_n 0, 1) := by decide +kernel
theorem dX8_orders_180 : decode cX8_orders 180 = .ok (.getfield 49, 3) := by decide +kernel
theorem dX8_orders_183 : decode cX8_orders 183 = .ok (.iload 5, 2) := by decide +kernel
theorem dX8_orders_185 : decode cX8_orders 185 = .ok (.iaload, 1) := by decide +kernel
theorem dX8_orders_186 : decode cX8_orders 186 = .ok (.goto 5, 3) := by decide +kernel
theorem dX8_orders_189 : decode cX8_orders 189 = .ok (.iload 9, 2) := by decide +kernel
theorem dX8_orders_191 : decode cX8_orders 191 = .ok (.istore 9, 2) := by decide +kernel
theorem dX8_orders_193 : decode cX8_orders 193 = .ok (.iinc 8 1, 3) := by decide +kernel
theorem dX8_orders_196 : decode cX8_orders 196 = .ok (.iinc 10 1, 3) := by decide +kernel
theorem dX8_orders_199 : decode cX8_orders 199 = .ok (.goto (-63), 3) := by decide +kernel
theorem dX8_orders_202 : decode cX8_orders 202 = .ok (.iload 5, 2) := by decide +kernel
theorem dX8_orders_204 : decode cX8_orders 204 = .ok (.iconst (-1), 1) := by decide +kernel
theorem dX8_orders_205 : decode cX8_orders 205 = .ok (.if_icmp .ne 8, 3) := by decide +kernel
theorem dX8_orders_208 : decode cX8_orders 208 = .ok (.iload 8, 2) := by decide +kernel
theorem dX8_orders_210 : decode cX8_orders 210 = .ok (.goto 5, 3) := by decide +kernel
theorem dX8_orders_213 : decode cX8_orders 213 = .ok (.iload 9, 2) := by decide +kernel
theorem dX8_orders_215 : decode cX8_orders 215 = .ok (.ireturn, 1) := by decide +kernel
set_option maxRecDepth 20000 in
theorem ggX8_reading_X8_isSlip : GoodIn wsX8_reading wsX8_isSlip := goodIn_r _ [8, 9, 13, 14, 15, 16, 17, 18, 19, 20, 21, 22, 23, 24, 25, 26, 27, 28, 29, 30, 31, 32, 33, 34, 35, 36, 37, 38, 39, 40, 41, 42] (by decide +kernel) (by decide +kernel)
set_option maxRecDepth 20000 in
theorem gX8_reading_X8_isSlip : GoodIn wsX8_reading (wsV RX8 133 RX8 yX8_isSlip wsX8_isSlip) := goodIn_app (goodIn_of _ (by decide +kernel)) ggX8_reading_X8_isSlip
set_option maxRecDepth 20000 in
theorem ggX8_reading_X8_within : GoodIn wsX8_reading wsX8_within := goodIn_r _ [12] (by decide +kernel) (by decide +kernel)
set_option maxRecDepth 20000 in
theorem gX8_reading_X8_within : GoodIn wsX8_reading (va_wsS RX8 67 yX8_within wsX8_within) := goodIn_app (goodIn_of _ (by decide +kernel)) ggX8_reading_X8_within
theorem dX8_reading_0 : decode cX8_reading 0 = .ok (.aload_n 0, 1) := by decide +kernel
theorem dX8_reading_1 : decode cX8_reading 1 = .ok (.iload_n 1, 1) := by decide +kernel
theorem dX8_reading_2 : decode cX8_reading 2 = .ok (.invokevirtual 133, 3) := by decide +kernel
theorem dX8_reading_5 : decode cX8_reading 5 = .ok (.ifCond .ne 5, 3) := by decide +kernel
theorem dX8_reading_8 : decode cX8_reading 8 = .ok (.iconst (-1), 1) := by decide +kernel
theorem dX8_reading_9 : decode cX8_reading 9 = .ok (.ireturn, 1) := by decide +kernel
theorem dX8_reading_10 : decode cX8_reading 10 = .ok (.iload_n 2, 1) := by decide +kernel
theorem dX8_reading_11 : decode cX8_reading 11 = .ok (.iconst 0, 1) := by decide +kernel
theorem dX8_reading_12 : decode cX8_reading 12 = .ok (.bipush 98, 2) := by decide +kernel
theorem dX8_reading_14 : decode cX8_reading 14 = .ok (.invokestatic 67, 3) := by decide +kernel
theorem dX8_reading_17 : decode cX8_reading 17 = .ok (.ifCond .ne 12, 3) := by decide +kernel
theorem dX8_reading_20 : decode cX8_reading 20 = .ok (.iload_n 2, 1) := by decide +kernel
theorem dX8_reading_21 : decode cX8_reading 21 = .ok (.bipush (-9), 2) := by decide +kernel
theorem dX8_reading_23 : decode cX8_reading 23 = .ok (.if_icmp .eq 6, 3) := by decide +kernel
theorem dX8_reading_26 : decode cX8_reading 26 = .ok (.bipush (-2), 2) := by decide +kernel
theorem dX8_reading_28 : decode cX8_reading 28 = .ok (.ireturn, 1) := by decide +kernel
theorem dX8_reading_29 : decode cX8_reading 29 = .ok (.aload_n 0, 1) := by decide +kernel
theorem dX8_reading_30 : decode cX8_reading 30 = .ok (.getfield 107, 3) := by decide +kernel
theorem dX8_reading_33 : decode cX8_reading 33 = .ok (.bipush 8, 2) := by decide +kernel
theorem dX8_reading_35 : decode cX8_reading 35 = .ok (.if_icmp .ne 6, 3) := by decide +kernel
theorem dX8_reading_38 : decode cX8_reading 38 = .ok (.bipush (-4), 2) := by decide +kernel
theorem dX8_reading_40 : decode cX8_reading 40 = .ok (.ireturn, 1) := by decide +kernel
theorem dX8_reading_41 : decode cX8_reading 41 = .ok (.aload_n 0, 1) := by decide +kernel
theorem dX8_reading_42 : decode cX8_reading 42 = .ok (.getfield 55, 3) := by decide +kernel
theorem dX8_reading_45 : decode cX8_reading 45 = .ok (.aload_n 0, 1) := by decide +kernel
theorem dX8_reading_46 : decode cX8_reading 46 = .ok (.getfield 107, 3) := by decide +kernel
theorem dX8_reading_49 : decode cX8_reading 49 = .ok (.iload_n 1, 1) := by decide +kernel
theorem dX8_reading_50 : decode cX8_reading 50 = .ok (.iastore, 1) := by decide +kernel
theorem dX8_reading_51 : decode cX8_reading 51 = .ok (.aload_n 0, 1) := by decide +kernel
theorem dX8_reading_52 : decode cX8_reading 52 = .ok (.getfield 58, 3) := by decide +kernel
theorem dX8_reading_55 : decode cX8_reading 55 = .ok (.aload_n 0, 1) := by decide +kernel
theorem dX8_reading_56 : decode cX8_reading 56 = .ok (.getfield 107, 3) := by decide +kernel
theorem dX8_reading_59 : decode cX8_reading 59 = .ok (.iload_n 2, 1) := by decide +kernel
theorem dX8_reading_60 : decode cX8_reading 60 = .ok (.iastore, 1) := by decide +kernel
theorem dX8_reading_61 : decode cX8_reading 61 = .ok (.aload_n 0, 1) := by decide +kernel
theorem dX8_reading_62 : decode cX8_reading 62 = .ok (.dup, 1) := by decide +kernel
theorem dX8_reading_63 : decode cX8_reading 63 = .ok (.getfield 107, 3) := by decide +kernel
theorem dX8_reading_66 : decode cX8_reading 66 = .ok (.iconst 1, 1) := by decide +kernel
theorem dX8_reading_67 : decode cX8_reading 67 = .ok (.iadd, 1) := by decide +kernel
theorem dX8_reading_68 : decode cX8_reading 68 = .ok (.putfield 107, 3) := by decide +kernel
theorem dX8_reading_71 : decode cX8_reading 71 = .ok (.aload_n 0, 1) := by decide +kernel
theorem dX8_reading_72 : decode cX8_reading 72 = .ok (.getfield 107, 3) := by decide +kernel
theorem dX8_reading_75 : decode cX8_reading 75 = .ok (.iconst 1, 1) := by decide +kernel
theorem dX8_reading_76 : decode cX8_reading 76 = .ok (.isub, 1) := by decide +kernel
theorem dX8_reading_77 : decode cX8_reading 77 = .ok (.ireturn, 1) := by decide +kernel
set_option maxRecDepth 20000 in
theorem ggX8_back_X8_within : GoodIn wsX8_back wsX8_within := goodIn_r _ [5] (by decide +kernel) (by decide +kernel)
set_option maxRecDepth 20000 in
theorem gX8_back_X8_within : GoodIn wsX8_back (va_wsS RX8 67 yX8_within wsX8_within) := goodIn_app (goodIn_of _ (by decide +kernel)) ggX8_back_X8_within
theorem dX8_back_0 : decode cX8_back 0 = .ok (.iload_n 1, 1) := by decide +kernel
theorem dX8_back_1 : decode cX8_back 1 = .ok (.iconst 0, 1) := by decide +kernel
theorem dX8_back_2 : decode cX8_back 2 = .ok (.aload_n 0, 1) := by decide +kernel
theorem dX8_back_3 : decode cX8_back 3 = .ok (.getfield 107, 3) := by decide +kernel
theorem dX8_back_6 : decode cX8_back 6 = .ok (.invokestatic 67, 3) := by decide +kernel
theorem dX8_back_9 : decode cX8_back 9 = .ok (.ifCond .ne 6, 3) := by decide +kernel
theorem dX8_back_12 : decode cX8_back 12 = .ok (.bipush (-2), 2) := by decide +kernel
theorem dX8_back_14 : decode cX8_back 14 = .ok (.ireturn, 1) := by decide +kernel
theorem dX8_back_15 : decode cX8_back 15 = .ok (.aload_n 0, 1) := by decide +kernel
theorem dX8_back_16 : decode cX8_back 16 = .ok (.dup, 1) := by decide +kernel
theorem dX8_back_17 : decode cX8_back 17 = .ok (.getfield 107, 3) := by decide +kernel
theorem dX8_back_20 : decode cX8_back 20 = .ok (.iload_n 1, 1) := by decide +kernel
theorem dX8_back_21 : decode cX8_back 21 = .ok (.isub, 1) := by decide +kernel
theorem dX8_back_22 : decode cX8_back 22 = .ok (.putfield 107, 3) := by decide +kernel
theorem dX8_back_25 : decode cX8_back 25 = .ok (.aload_n 0, 1) := by decide +kernel
theorem dX8_back_26 : decode cX8_back 26 = .ok (.getfield 107, 3) := by decide +kernel
theorem dX8_back_29 : decode cX8_back 29 = .ok (.ireturn, 1) := by decide +kernel
