theorem dX7_orders_208 : decode cX7_orders 208 = .ok (.aload_n 0, 1) := by decide +kernel
theorem dX7_orders_209 : decode cX7_orders 209 = .ok (.getfield 49, 3) := by decide +kernel
theorem dX7_orders_212 : decode cX7_orders 212 = .ok (.iload 5, 2) := by decide +kernel
theorem dX7_orders_214 : decode cX7_orders 214 = .ok (.invokevirtual 181, 3) := by decide +kernel
theorem dX7_orders_217 : decode cX7_orders 217 = .ok (.ireturn, 1) := by decide +kernel
set_option maxRecDepth 20000 in
theorem ggX7_reading_X4_has : GoodIn wsX7_reading wsX4_has := goodIn_r _ [7, 8, 37, 38, 39, 40, 41, 42] (by decide +kernel) (by decide +kernel)
set_option maxRecDepth 20000 in
theorem gX7_reading_X4_has : GoodIn wsX7_reading (wsV RX7 89 RX4 yX4_has wsX4_has) := goodIn_app (goodIn_of _ (by decide +kernel)) ggX7_reading_X4_has
set_option maxRecDepth 20000 in
theorem ggX7_reading_X7_isLeaf : GoodIn wsX7_reading wsX7_isLeaf := goodIn_r _ [12] (by decide +kernel) (by decide +kernel)
set_option maxRecDepth 20000 in
theorem gX7_reading_X7_isLeaf : GoodIn wsX7_reading (va_wsS RX7 127 yX7_isLeaf wsX7_isLeaf) := goodIn_app (goodIn_of _ (by decide +kernel)) ggX7_reading_X7_isLeaf
set_option maxRecDepth 20000 in
theorem ggX7_reading_X1_note : GoodIn wsX7_reading wsX1_note := goodIn_r _ [17, 18, 19, 20, 30, 31, 32, 33, 34, 35, 36] (by decide +kernel) (by decide +kernel)
set_option maxRecDepth 20000 in
theorem gX7_reading_X1_note : GoodIn wsX7_reading (wsV RX7 184 RX1 yX1_note wsX1_note) := goodIn_app (goodIn_of _ (by decide +kernel)) ggX7_reading_X1_note
theorem dX7_reading_0 : decode cX7_reading 0 = .ok (.aload_n 0, 1) := by decide +kernel
theorem dX7_reading_1 : decode cX7_reading 1 = .ok (.getfield 21, 3) := by decide +kernel
theorem dX7_reading_4 : decode cX7_reading 4 = .ok (.iload_n 1, 1) := by decide +kernel
theorem dX7_reading_5 : decode cX7_reading 5 = .ok (.invokevirtual 89, 3) := by decide +kernel
theorem dX7_reading_8 : decode cX7_reading 8 = .ok (.ifCond .ne 5, 3) := by decide +kernel
theorem dX7_reading_11 : decode cX7_reading 11 = .ok (.iconst (-1), 1) := by decide +kernel
theorem dX7_reading_12 : decode cX7_reading 12 = .ok (.ireturn, 1) := by decide +kernel
theorem dX7_reading_13 : decode cX7_reading 13 = .ok (.iload_n 2, 1) := by decide +kernel
theorem dX7_reading_14 : decode cX7_reading 14 = .ok (.bipush (-9), 2) := by decide +kernel
theorem dX7_reading_16 : decode cX7_reading 16 = .ok (.if_icmp .eq 13, 3) := by decide +kernel
theorem dX7_reading_19 : decode cX7_reading 19 = .ok (.iload_n 2, 1) := by decide +kernel
theorem dX7_reading_20 : decode cX7_reading 20 = .ok (.invokestatic 127, 3) := by decide +kernel
theorem dX7_reading_23 : decode cX7_reading 23 = .ok (.ifCond .ne 6, 3) := by decide +kernel
theorem dX7_reading_26 : decode cX7_reading 26 = .ok (.bipush (-2), 2) := by decide +kernel
theorem dX7_reading_28 : decode cX7_reading 28 = .ok (.ireturn, 1) := by decide +kernel
theorem dX7_reading_29 : decode cX7_reading 29 = .ok (.aload_n 0, 1) := by decide +kernel
theorem dX7_reading_30 : decode cX7_reading 30 = .ok (.getfield 28, 3) := by decide +kernel
theorem dX7_reading_33 : decode cX7_reading 33 = .ok (.getfield 82, 3) := by decide +kernel
theorem dX7_reading_36 : decode cX7_reading 36 = .ok (.bipush 8, 2) := by decide +kernel
theorem dX7_reading_38 : decode cX7_reading 38 = .ok (.if_icmp .lt 6, 3) := by decide +kernel
theorem dX7_reading_41 : decode cX7_reading 41 = .ok (.bipush (-4), 2) := by decide +kernel
theorem dX7_reading_43 : decode cX7_reading 43 = .ok (.ireturn, 1) := by decide +kernel
theorem dX7_reading_44 : decode cX7_reading 44 = .ok (.aload_n 0, 1) := by decide +kernel
theorem dX7_reading_45 : decode cX7_reading 45 = .ok (.getfield 28, 3) := by decide +kernel
theorem dX7_reading_48 : decode cX7_reading 48 = .ok (.iload_n 1, 1) := by decide +kernel
theorem dX7_reading_49 : decode cX7_reading 49 = .ok (.iload_n 2, 1) := by decide +kernel
theorem dX7_reading_50 : decode cX7_reading 50 = .ok (.invokevirtual 184, 3) := by decide +kernel
theorem dX7_reading_53 : decode cX7_reading 53 = .ok (.ireturn, 1) := by decide +kernel
theorem dX7_back_0 : decode cX7_back 0 = .ok (.iload_n 1, 1) := by decide +kernel
theorem dX7_back_1 : decode cX7_back 1 = .ok (.ifCond .lt 14, 3) := by decide +kernel
theorem dX7_back_4 : decode cX7_back 4 = .ok (.iload_n 1, 1) := by decide +kernel
theorem dX7_back_5 : decode cX7_back 5 = .ok (.aload_n 0, 1) := by decide +kernel
theorem dX7_back_6 : decode cX7_back 6 = .ok (.getfield 28, 3) := by decide +kernel
theorem dX7_back_9 : decode cX7_back 9 = .ok (.getfield 82, 3) := by decide +kernel
theorem dX7_back_12 : decode cX7_back 12 = .ok (.if_icmp .le 6, 3) := by decide +kernel
theorem dX7_back_15 : decode cX7_back 15 = .ok (.bipush (-2), 2) := by decide +kernel
theorem dX7_back_17 : decode cX7_back 17 = .ok (.ireturn, 1) := by decide +kernel
theorem dX7_back_18 : decode cX7_back 18 = .ok (.aload_n 0, 1) := by decide +kernel
theorem dX7_back_19 : decode cX7_back 19 = .ok (.getfield 28, 3) := by decide +kernel
theorem dX7_back_22 : decode cX7_back 22 = .ok (.dup, 1) := by decide +kernel
theorem dX7_back_23 : decode cX7_back 23 = .ok (.getfield 82, 3) := by decide +kernel
theorem dX7_back_26 : decode cX7_back 26 = .ok (.iload_n 1, 1) := by decide +kernel
theorem dX7_back_27 : decode cX7_back 27 = .ok (.isub, 1) := by decide +kernel
theorem dX7_back_28 : decode cX7_back 28 = .ok (.putfield 82, 3) := by decide +kernel
theorem dX7_back_31 : decode cX7_back 31 = .ok (.aload_n 0, 1) := by decide +kernel
theorem dX7_back_32 : decode cX7_back 32 = .ok (.getfield 28, 3) := by decide +kernel
theorem dX7_back_35 : decode cX7_back 35 = .ok (.getfield 82, 3) := by decide +kernel
theorem dX7_back_38 : decode cX7_back 38 = .ok (.ireturn, 1) := by decide +kernel
set_option maxRecDepth 20000 in
theorem ggX7_pages_X4_has : GoodIn wsX7_pages wsX4_has := goodIn_r _ [7, 8, 66, 67, 68, 69, 70, 71] (by decide +kernel) (by decide +kernel)
set_option maxRecDepth 20000 in
theorem gX7_pages_X4_has : GoodIn wsX7_pages (wsV RX7 89 RX4 yX4_has wsX4_has) := goodIn_app (goodIn_of _ (by decide +kernel)) ggX7_pages_X4_has
set_option maxRecDepth 20000 in
theorem ggX7_pages_X1_tryPages : GoodIn wsX7_pages wsX1_tryPages := goodIn_r _ [13, 14, 15, 16, 17, 18, 19, 20, 6, 21, 8, 22, 23, 24, 25, 26, 27, 28, 29, 12, 30, 31, 32, 33, 34, 35, 36, 37, 38, 39, 40, 41, 42, 43, 44, 45, 46, 47, 48, 49, 59, 60, 61, 62, 63, 64, 65, 66, 67, 68, 69, 70, 71] (by decide +kernel) (by decide +kernel)
set_option maxRecDepth 20000 in
theorem gX7_pages_X1_tryPages : GoodIn wsX7_pages (wsV RX7 188 RX1 yX1_tryPages wsX1_tryPages) := goodIn_app (goodIn_of _ (by decide +kernel)) ggX7_pages_X1_tryPages
theorem dX7_pages_0 : decode cX7_pages 0 = .ok (.aload_n 0, 1) := by decide +kernel
theorem dX7_pages_1 : decode cX7_pages 1 = .ok (.getfield 21, 3) := by decide +kernel
theorem dX7_pages_4 : decode cX7_pages 4 = .ok (.iload_n 1, 1) := by decide +kernel
theorem dX7_pages_5 : decode cX7_pages 5 = .ok (.invokevirtual 89, 3) := by decide +kernel
theorem dX7_pages_8 : decode cX7_pages 8 = .ok (.ifCond .ne 5, 3) := by decide +kernel
theorem dX7_pages_11 : decode cX7_pages 11 = .ok (.iconst (-1), 1) := by decide +kernel
theorem dX7_pages_12 : decode cX7_pages 12 = .ok (.ireturn, 1) := by decide +kernel
theorem dX7_pages_13 : decode cX7_pages 13 = .ok (.iload_n 2, 1) := by decide +kernel
theorem dX7_pages_14 : decode cX7_pages 14 = .ok (.ifCond .lt 8, 3) := by decide +kernel
theorem dX7_pages_17 : decode cX7_pages 17 = .ok (.iload_n 2, 1) := by decide +kernel
theorem dX7_pages_18 : decode cX7_pages 18 = .ok (.iconst 2, 1) := by decide +kernel
theorem dX7_pages_19 : decode cX7_pages 19 = .ok (.if_icmp .le 6, 3) := by decide +kernel
theorem dX7_pages_22 : decode cX7_pages 22 = .ok (.bipush (-2), 2) := by decide +kernel
theorem dX7_pages_24 : decode cX7_pages 24 = .ok (.ireturn, 1) := by decide +kernel
theorem dX7_pages_25 : decode cX7_pages 25 = .ok (.aload_n 0, 1) := by decide +kernel
theorem dX7_pages_26 : decode cX7_pages 26 = .ok (.getfield 28, 3) := by decide +kernel
theorem dX7_pages_29 : decode cX7_pages 29 = .ok (.aload_n 0, 1) := by decide +kernel
theorem dX7_pages_30 : decode cX7_pages 30 = .ok (.getfield 21, 3) := by decide +kernel
theorem dX7_pages_33 : decode cX7_pages 33 = .ok (.iload_n 1, 1) := by decide +kernel
theorem dX7_pages_34 : decode cX7_pages 34 = .ok (.invokevirtual 188, 3) := by decide +kernel
theorem dX7_pages_37 : decode cX7_pages 37 = .ok (.iload_n 2, 1) := by decide +kernel
theorem dX7_pages_38 : decode cX7_pages 38 = .ok (.lookupswitch 42 #[(0, 26), (1, 34)], 26) := by decide +kernel
theorem dX7_pages_64 : decode cX7_pages 64 = .ok (.aload_n 0, 1) := by decide +kernel
theorem dX7_pages_65 : decode cX7_pages 65 = .ok (.getfield 28, 3) := by decide +kernel
theorem dX7_pages_68 : decode cX7_pages 68 = .ok (.getfield 192, 3) := by decide +kernel
theorem dX7_pages_71 : decode cX7_pages 71 = .ok (.ireturn, 1) := by decide +kernel
theorem dX7_pages_72 : decode cX7_pages 72 = .ok (.aload_n 0, 1) := by decide +kernel
theorem dX7_pages_73 : decode cX7_pages 73 = .ok (.getfield 28, 3) := by decide +kernel
theorem dX7_pages_76 : decode cX7_pages 76 = .ok (.getfield 195, 3) := by decide +kernel
theorem dX7_pages_79 : decode cX7_pages 79 = .ok (.ireturn, 1) := by decide +kernel
theorem dX7_pages_80 : decode cX7_pages 80 = .ok (.aload_n 0, 1) := by decide +kernel
theorem dX7_pages_81 : decode cX7_pages 81 = .ok (.getfield 28, 3) := by decide +kernel
theorem dX7_pages_84 : decode cX7_pages 84 = .ok (.getfield 198, 3) := by decide +kernel
theorem dX7_pages_87 : decode cX7_pages 87 = .ok (.ireturn, 1) := by decide +kernel
set_option maxRecDepth 20000 in
theorem ggX7_kinds_X4_has : GoodIn wsX7_kinds wsX4_has := goodIn_r _ [7, 8, 56, 57, 58, 59, 60, 61] (by decide +kernel) (by decide +kernel)
set_option maxRecDepth 20000 in
theorem gX7_kinds_X4_has : GoodIn wsX7_kinds (wsV RX7 89 RX4 yX4_has wsX4_has) := goodIn_app (goodIn_of _ (by decide +kernel)) ggX7_kinds_X4_has
set_option maxRecDepth 20000 in
theorem ggX7_kinds_X1_kindsOf : GoodIn wsX7_kinds wsX1_kindsOf := goodIn_r _ [13, 14, 15, 16, 17, 6, 18, 8, 19, 20, 21, 22, 23, 24, 25, 26, 12, 27, 28, 29, 30, 31, 32, 33, 34, 35, 36, 37, 38, 39, 40, 41, 42, 43, 44, 45, 46, 62, 63, 64, 65, 66, 67, 68, 56, 57, 58, 59, 60, 61] (by decide +kernel) (by decide +kernel)
set_option maxRecDepth 20000 in
theorem gX7_kinds_X1_kindsOf : GoodIn wsX7_kinds (wsV RX7 201 RX1 yX1_kindsOf wsX1_kindsOf) := goodIn_app (goodIn_of _ (by decide +kernel)) ggX7_kinds_X1_kindsOf
theorem dX7_kinds_0 : decode cX7_kinds 0 = .ok (.aload_n 0, 1) := by decide +kernel
theorem dX7_kinds_1 : decode cX7_kinds 1 = .ok (.getfield 21, 3) := by decide +kernel
theorem dX7_kinds_4 : decode cX7_kinds 4 = .ok (.iload_n 1, 1) := by decide +kernel
theorem dX7_kinds_5 : decode cX7_kinds 5 = .ok (.invokevirtual 89, 3) := by decide +kernel
theorem dX7_kinds_8 : decode cX7_kinds 8 = .ok (.ifCond .ne 5, 3) := by decide +kernel
theorem dX7_kinds_11 : decode cX7_kinds 11 = .ok (.iconst (-1), 1) := by decide +kernel
theorem dX7_kinds_12 : decode cX7_kinds 12 = .ok (.ireturn, 1) := by decide +kernel
theorem dX7_kinds_13 : decode cX7_kinds 13 = .ok (.aload_n 0, 1) := by decide +kernel
theorem dX7_kinds_14 : decode cX7_kinds 14 = .ok (.getfield 28, 3) := by decide +kernel
theorem dX7_kinds_17 : decode cX7_kinds 17 = .ok (.aload_n 0, 1) := by decide +kernel
theorem dX7_kinds_18 : decode cX7_kinds 18 = .ok (.getfield 21, 3) := by decide +kernel
theorem dX7_kinds_21 : decode cX7_kinds 21 = .ok (.iload_n 1, 1) := by decide +kernel
theorem dX7_kinds_22 : decode cX7_kinds 22 = .ok (.invokevirtual 201, 3) := by decide +kernel
theorem dX7_kinds_25 : decode cX7_kinds 25 = .ok (.ireturn, 1) := by decide +kernel
set_option maxRecDepth 20000 in
theorem ggX7_seen_X4_has : GoodIn wsX7_seen wsX4_has := goodIn_r _ [7, 8, 56, 57, 58, 59, 60, 61] (by decide +kernel) (by decide +kernel)
set_option maxRecDepth 20000 in
theorem gX7_seen_X4_has : GoodIn wsX7_seen (wsV RX7 89 RX4 yX4_has wsX4_has) := goodIn_app (goodIn_of _ (by decide +kernel)) ggX7_seen_X4_has
set_option maxRecDepth 20000 in
theorem ggX7_seen_X1_seenOf : GoodIn wsX7_seen wsX1_seenOf := goodIn_r _ [13, 14, 15, 16, 17, 6, 18, 8, 19, 20, 21, 22, 23, 24, 25, 26, 12, 27, 28, 29, 30, 31, 32, 33, 34, 35, 36, 37, 38, 39, 40, 41, 42, 43, 44, 45, 46, 62, 63, 64, 65, 66, 67, 68, 56, 57, 58, 59, 60, 61] (by decide +kernel) (by decide +kernel)
set_option maxRecDepth 20000 in
theorem gX7_seen_X1_seenOf : GoodIn wsX7_seen (wsV RX7 205 RX1 yX1_seenOf wsX1_seenOf) := goodIn_app (goodIn_of _ (by decide +kernel)) ggX7_seen_X1_seenOf
theorem dX7_seen_0 : decode cX7_seen 0 = .ok (.aload_n 0, 1) := by decide +kernel
theorem dX7_seen_1 : decode cX7_seen 1 = .ok (.getfield 21, 3) := by decide +kernel
theorem dX7_seen_4 : decode cX7_seen 4 = .ok (.iload_n 1, 1) := by decide +kernel
theorem dX7_seen_5 : decode cX7_seen 5 = .ok (.invokevirtual 89, 3) := by decide +kernel
theorem dX7_seen_8 : decode cX7_seen 8 = .ok (.ifCond .ne 5, 3) := by decide +kernel
theorem dX7_seen_11 : decode cX7_seen 11 = .ok (.iconst (-1), 1) := by decide +kernel
theorem dX7_seen_12 : decode cX7_seen 12 = .ok (.ireturn, 1) := by decide +kernel
theorem dX7_seen_13 : decode cX7_seen 13 = .ok (.aload_n 0, 1) := by decide +kernel
theorem dX7_seen_14 : decode cX7_seen 14 = .ok (.getfield 28, 3) := by decide +kernel
theorem dX7_seen_17 : decode cX7_seen 17 = .ok (.aload_n 0, 1) := by decide +kernel
theorem dX7_seen_18 : decode cX7_seen 18 = .ok (.getfield 21, 3) := by decide +kernel
theorem dX7_seen_21 : decode cX7_seen 21 = .ok (.iload_n 1, 1) := by decide +kernel
theorem dX7_seen_22 : decode cX7_seen 22 = .ok (.invokevirtual 205, 3) := by decide +kernel
theorem dX7_seen_25 : decode cX7_seen 25 = .ok (.ireturn, 1) := by decide +kernel
set_option maxRecDepth 20000 in
theorem ggX7_odds_X7_isLeaf : GoodIn wsX7_odds wsX7_isLeaf := goodIn_r _ [6] (by decide +kernel) (by decide +kernel)
set_option maxRecDepth 20000 in
theorem gX7_odds_X7_isLeaf : GoodIn wsX7_odds (va_wsS RX7 127 yX7_isLeaf wsX7_isLeaf) := goodIn_app (goodIn_of _ (by decide +kernel)) ggX7_odds_X7_isLeaf
set_option maxRecDepth 20000 in
theorem ggX7_odds_X4_leafOf : GoodIn wsX7_odds wsX4_leafOf := goodIn_r _ [11, 12, 13, 14, 15, 10, 16, 17, 18, 19, 20, 21, 22, 23, 24, 25, 26, 27, 28, 41, 42, 43, 44, 45, 46] (by decide +kernel) (by decide +kernel)
set_option maxRecDepth 20000 in
theorem gX7_odds_X4_leafOf : GoodIn wsX7_odds (wsV RX7 105 RX4 yX4_leafOf wsX4_leafOf) := goodIn_app (goodIn_of _ (by decide +kernel)) ggX7_odds_X4_leafOf
set_option maxRecDepth 20000 in
theorem ggX7_odds_X7_greatestCommon : GoodIn wsX7_odds wsX7_greatestCommon := goodIn_r _ [31] (by decide +kernel) (by decide +kernel)
set_option maxRecDepth 20000 in
theorem gX7_odds_X7_greatestCommon : GoodIn wsX7_odds (va_wsS RX7 210 yX7_greatestCommon wsX7_greatestCommon) := goodIn_app (goodIn_of _ (by decide +kernel)) ggX7_odds_X7_greatestCommon
theorem dX7_odds_0 : decode cX7_odds 0 = .ok (.iload_n 1, 1) := by decide +kernel
theorem dX7_odds_1 : decode cX7_odds 1 = .ok (.invokestatic 127, 3) := by decide +kernel
theorem dX7_odds_4 : decode cX7_odds 4 = .ok (.ifCond .eq 12, 3) := by decide +kernel
theorem dX7_odds_7 : decode cX7_odds 7 = .ok (.iload_n 2, 1) := by decide +kernel
theorem dX7_odds_8 : decode cX7_odds 8 = .ok (.ifCond .eq 12, 3) := by decide +kernel
theorem dX7_odds_11 : decode cX7_odds 11 = .ok (.iload_n 2, 1) := by decide +kernel
theorem dX7_odds_12 : decode cX7_odds 12 = .ok (.iconst 1, 1) := by decide +kernel
theorem dX7_odds_13 : decode cX7_odds 13 = .ok (.if_icmp .eq 7, 3) := by decide +kernel
theorem dX7_odds_16 : decode cX7_odds 16 = .ok (.ldc2_w 208, 3) := by decide +kernel
theorem dX7_odds_19 : decode cX7_odds 19 = .ok (.lreturn, 1) := by decide +kernel
theorem dX7_odds_20 : decode cX7_odds 20 = .ok (.iconst 0, 1) := by decide +kernel
theorem dX7_odds_21 : decode cX7_odds 21 = .ok (.istore_n 3, 1) := by decide +kernel
theorem dX7_odds_22 : decode cX7_odds 22 = .ok (.iconst 0, 1) := by decide +kernel
theorem dX7_odds_23 : decode cX7_odds 23 = .ok (.istore 4, 2) := by decide +kernel
theorem dX7_odds_25 : decode cX7_odds 25 = .ok (.iconst 0, 1) := by decide +kernel
theorem dX7_odds_26 : decode cX7_odds 26 = .ok (.istore 5, 2) := by decide +kernel
theorem dX7_odds_28 : decode cX7_odds 28 = .ok (.iload 5, 2) := by decide +kernel
theorem dX7_odds_30 : decode cX7_odds 30 = .ok (.aload_n 0, 1) := by decide +kernel
theorem dX7_odds_31 : decode cX7_odds 31 = .ok (.getfield 21, 3) := by decide +kernel
theorem dX7_odds_34 : decode cX7_odds 34 = .ok (.getfield 88, 3) := by decide +kernel
theorem dX7_odds_37 : decode cX7_odds 37 = .ok (.if_icmp .ge 50, 3) := by decide +kernel
theorem dX7_odds_40 : decode cX7_odds 40 = .ok (.iload_n 3, 1) := by decide +kernel
theorem dX7_odds_41 : decode cX7_odds 41 = .ok (.aload_n 0, 1) := by decide +kernel
theorem dX7_odds_42 : decode cX7_odds 42 = .ok (.getfield 21, 3) := by decide +kernel
theorem dX7_odds_45 : decode cX7_odds 45 = .ok (.getfield 99, 3) := by decide +kernel
theorem dX7_odds_48 : decode cX7_odds 48 = .ok (.iload 5, 2) := by decide +kernel
theorem dX7_odds_50 : decode cX7_odds 50 = .ok (.iaload, 1) := by decide +kernel
theorem dX7_odds_51 : decode cX7_odds 51 = .ok (.iadd, 1) := by decide +kernel
theorem dX7_odds_52 : decode cX7_odds 52 = .ok (.istore_n 3, 1) := by decide +kernel
theorem dX7_odds_53 : decode cX7_odds 53 = .ok (.aload_n 0, 1) := by decide +kernel
theorem dX7_odds_54 : decode cX7_odds 54 = .ok (.getfield 21, 3) := by decide +kernel
theorem dX7_odds_57 : decode cX7_odds 57 = .ok (.iload 5, 2) := by decide +kernel
theorem dX7_odds_59 : decode cX7_odds 59 = .ok (.invokevirtual 105, 3) := by decide +kernel
theorem dX7_odds_62 : decode cX7_odds 62 = .ok (.iload_n 1, 1) := by decide +kernel
theorem dX7_odds_63 : decode cX7_odds 63 = .ok (.if_icmp .ne 18, 3) := by decide +kernel
theorem dX7_odds_66 : decode cX7_odds 66 = .ok (.iload 4, 2) := by decide +kernel
theorem dX7_odds_68 : decode cX7_odds 68 = .ok (.aload_n 0, 1) := by decide +kernel
theorem dX7_odds_69 : decode cX7_odds 69 = .ok (.getfield 21, 3) := by decide +kernel
theorem dX7_odds_72 : decode cX7_odds 72 = .ok (.getfield 99, 3) := by decide +kernel
theorem dX7_odds_75 : decode cX7_odds 75 = .ok (.iload 5, 2) := by decide +kernel
theorem dX7_odds_77 : decode cX7_odds 77 = .ok (.iaload, 1) := by decide +kernel
theorem dX7_odds_78 : decode cX7_odds 78 = .ok (.iadd, 1) := by decide +kernel
theorem dX7_odds_79 : decode cX7_odds 79 = .ok (.istore 4, 2) := by decide +kernel
theorem dX7_odds_81 : decode cX7_odds 81 = .ok (.iinc 5 1, 3) := by decide +kernel
theorem dX7_odds_84 : decode cX7_odds 84 = .ok (.goto (-56), 3) := by decide +kernel
theorem dX7_odds_87 : decode cX7_odds 87 = .ok (.iload_n 3, 1) := by decide +kernel
theorem dX7_odds_88 : decode cX7_odds 88 = .ok (.ifCond .ne 7, 3) := by decide +kernel
theorem dX7_odds_91 : decode cX7_odds 91 = .ok (.ldc2_w 208, 3) := by decide +kernel
theorem dX7_odds_94 : decode cX7_odds 94 = .ok (.lreturn, 1) := by decide +kernel
theorem dX7_odds_95 : decode cX7_odds 95 = .ok (.iload_n 3, 1) := by decide +kernel
theorem dX7_odds_96 : decode cX7_odds 96 = .ok (.iload 4, 2) := by decide +kernel
theorem dX7_odds_98 : decode cX7_odds 98 = .ok (.invokestatic 210, 3) := by decide +kernel
theorem dX7_odds_101 : decode cX7_odds 101 = .ok (.istore 5, 2) := by decide +kernel
theorem dX7_odds_103 : decode cX7_odds 103 = .ok (.iload 5, 2) := by decide +kernel
theorem dX7_odds_105 : decode cX7_odds 105 = .ok (.ifCond .ne 7, 3) := by decide +kernel
theorem dX7_odds_108 : decode cX7_odds 108 = .ok (.ldc2_w 208, 3) := by decide +kernel
theorem dX7_odds_111 : decode cX7_odds 111 = .ok (.lreturn, 1) := by decide +kernel
theorem dX7_odds_112 : decode cX7_odds 112 = .ok (.iload_n 2, 1) := by decide +kernel
theorem dX7_odds_113 : decode cX7_odds 113 = .ok (.ifCond .ne 12, 3) := by decide +kernel
theorem dX7_odds_116 : decode cX7_odds 116 = .ok (.iload 4, 2) := by decide +kernel
theorem dX7_odds_118 : decode cX7_odds 118 = .ok (.iload 5, 2) := by decide +kernel
theorem dX7_odds_120 : decode cX7_odds 120 = .ok (.idiv, 1) := by decide +kernel
theorem dX7_odds_121 : decode cX7_odds 121 = .ok (.i2l, 1) := by decide +kernel
theorem dX7_odds_122 : decode cX7_odds 122 = .ok (.goto 8, 3) := by decide +kernel
theorem dX7_odds_125 : decode cX7_odds 125 = .ok (.iload_n 3, 1) := by decide +kernel
theorem dX7_odds_126 : decode cX7_odds 126 = .ok (.iload 5, 2) := by decide +kernel
theorem dX7_odds_128 : decode cX7_odds 128 = .ok (.idiv, 1) := by decide +kernel
theorem dX7_odds_129 : decode cX7_odds 129 = .ok (.i2l, 1) := by decide +kernel
theorem dX7_odds_130 : decode cX7_odds 130 = .ok (.lreturn, 1) := by decide +kernel
set_option maxRecDepth 20000 in
theorem ggX7_sheet_X7_isSheet : GoodIn wsX7_sheet wsX7_isSheet := goodIn_r _ [6] (by decide +kernel) (by decide +kernel)
set_option maxRecDepth 20000 in
theorem gX7_sheet_X7_isSheet : GoodIn wsX7_sheet (va_wsS RX7 57 yX7_isSheet wsX7_isSheet) := goodIn_app (goodIn_of _ (by decide +kernel)) ggX7_sheet_X7_isSheet
set_option maxRecDepth 20000 in
theorem ggX7_sheet_X7_isLane : GoodIn wsX7_sheet wsX7_isLane := goodIn_r _ [9] (by decide +kernel) (by decide +kernel)
set_option maxRecDepth 20000 in
theorem gX7_sheet_X7_isLane : GoodIn wsX7_sheet (va_wsS RX7 61 yX7_isLane wsX7_isLane) := goodIn_app (goodIn_of _ (by decide +kernel)) ggX7_sheet_X7_isLane
set_option maxRecDepth 20000 in
theorem ggX7_sheet_X7_faulted : GoodIn wsX7_sheet wsX7_faulted := goodIn_r _ [13, 1, 23, 24, 25, 26, 27, 28, 29, 30, 31] (by decide +kernel) (by decide +kernel)
set_option maxRecDepth 20000 in
theorem gX7_sheet_X7_faulted : GoodIn wsX7_sheet (wsV RX7 68 RX7 yX7_faulted wsX7_faulted) := goodIn_app (goodIn_of _ (by decide +kernel)) ggX7_sheet_X7_faulted
set_option maxRecDepth 20000 in
theorem ggX7_sheet_X2_renew : GoodIn wsX7_sheet wsX2_renew := goodIn_r _ [18, 19, 20, 21, 22, 32, 33, 34, 35] (by decide +kernel) (by decide +kernel)
set_option maxRecDepth 20000 in
theorem gX7_sheet_X2_renew : GoodIn wsX7_sheet (wsV RX7 213 RX2 yX2_renew wsX2_renew) := goodIn_app (goodIn_of _ (by decide +kernel)) ggX7_sheet_X2_renew
theorem dX7_sheet_0 : decode cX7_sheet 0 = .ok (.aload_n 0, 1) := by decide +kernel
theorem dX7_sheet_1 : decode cX7_sheet 1 = .ok (.iconst 0, 1) := by decide +kernel
theorem dX7_sheet_2 : decode cX7_sheet 2 = .ok (.putfield 53, 3) := by decide +kernel
theorem dX7_sheet_5 : decode cX7_sheet 5 = .ok (.iload_n 1, 1) := by decide +kernel
theorem dX7_sheet_6 : decode cX7_sheet 6 = .ok (.invokestatic 57, 3) := by decide +kernel
theorem dX7_sheet_9 : decode cX7_sheet 9 = .ok (.ifCond .ne 5, 3) := by decide +kernel
theorem dX7_sheet_12 : decode cX7_sheet 12 = .ok (.iconst (-1), 1) := by decide +kernel
theorem dX7_sheet_13 : decode cX7_sheet 13 = .ok (.ireturn, 1) := by decide +kernel
theorem dX7_sheet_14 : decode cX7_sheet 14 = .ok (.iload_n 2, 1) := by decide +kernel
theorem dX7_sheet_15 : decode cX7_sheet 15 = .ok (.invokestatic 61, 3) := by decide +kernel
theorem dX7_sheet_18 : decode cX7_sheet 18 = .ok (.ifCond .eq 9, 3) := by decide +kernel
theorem dX7_sheet_21 : decode cX7_sheet 21 = .ok (.iload_n 3, 1) := by decide +kernel
theorem dX7_sheet_22 : decode cX7_sheet 22 = .ok (.bipush 60, 2) := by decide +kernel
theorem dX7_sheet_24 : decode cX7_sheet 24 = .ok (.if_icmp .le 6, 3) := by decide +kernel
theorem dX7_sheet_27 : decode cX7_sheet 27 = .ok (.bipush (-2), 2) := by decide +kernel
theorem dX7_sheet_29 : decode cX7_sheet 29 = .ok (.ireturn, 1) := by decide +kernel
theorem dX7_sheet_30 : decode cX7_sheet 30 = .ok (.iload_n 3, 1) := by decide +kernel
theorem dX7_sheet_31 : decode cX7_sheet 31 = .ok (.ifCond .ge 9, 3) := by decide +kernel
theorem dX7_sheet_34 : decode cX7_sheet 34 = .ok (.aload_n 0, 1) := by decide +kernel
theorem dX7_sheet_35 : decode cX7_sheet 35 = .ok (.iconst 4, 1) := by decide +kernel
theorem dX7_sheet_36 : decode cX7_sheet 36 = .ok (.invokevirtual 68, 3) := by decide +kernel
theorem dX7_sheet_39 : decode cX7_sheet 39 = .ok (.ireturn, 1) := by decide +kernel
theorem dX7_sheet_40 : decode cX7_sheet 40 = .ok (.aload_n 0, 1) := by decide +kernel
theorem dX7_sheet_41 : decode cX7_sheet 41 = .ok (.getfield 13, 3) := by decide +kernel
theorem dX7_sheet_44 : decode cX7_sheet 44 = .ok (.iload_n 1, 1) := by decide +kernel
theorem dX7_sheet_45 : decode cX7_sheet 45 = .ok (.aaload, 1) := by decide +kernel
theorem dX7_sheet_46 : decode cX7_sheet 46 = .ok (.iload_n 2, 1) := by decide +kernel
theorem dX7_sheet_47 : decode cX7_sheet 47 = .ok (.iload_n 3, 1) := by decide +kernel
theorem dX7_sheet_48 : decode cX7_sheet 48 = .ok (.invokevirtual 213, 3) := by decide +kernel
theorem dX7_sheet_51 : decode cX7_sheet 51 = .ok (.iconst 1, 1) := by decide +kernel
theorem dX7_sheet_52 : decode cX7_sheet 52 = .ok (.ireturn, 1) := by decide +kernel
set_option maxRecDepth 20000 in
theorem ggX7_lose_X7_isSheet : GoodIn wsX7_lose wsX7_isSheet := goodIn_r _ [5] (by decide +kernel) (by decide +kernel)
set_option maxRecDepth 20000 in
theorem gX7_lose_X7_isSheet : GoodIn wsX7_lose (va_wsS RX7 57 yX7_isSheet wsX7_isSheet) := goodIn_app (goodIn_of _ (by decide +kernel)) ggX7_lose_X7_isSheet
theorem dX7_lose_0 : decode cX7_lose 0 = .ok (.iload_n 1, 1) := by decide +kernel
theorem dX7_lose_1 : decode cX7_lose 1 = .ok (.invokestatic 57, 3) := by decide +kernel
theorem dX7_lose_4 : decode cX7_lose 4 = .ok (.ifCond .ne 5, 3) := by decide +kernel
theorem dX7_lose_7 : decode cX7_lose 7 = .ok (.iconst (-1), 1) := by decide +kernel
theorem dX7_lose_8 : decode cX7_lose 8 = .ok (.ireturn, 1) := by decide +kernel
theorem dX7_lose_9 : decode cX7_lose 9 = .ok (.aload_n 0, 1) := by decide +kernel
theorem dX7_lose_10 : decode cX7_lose 10 = .ok (.getfield 13, 3) := by decide +kernel
theorem dX7_lose_13 : decode cX7_lose 13 = .ok (.iload_n 1, 1) := by decide +kernel
theorem dX7_lose_14 : decode cX7_lose 14 = .ok (.aaload, 1) := by decide +kernel
theorem dX7_lose_15 : decode cX7_lose 15 = .ok (.getfield 216, 3) := by decide +kernel
theorem dX7_lose_18 : decode cX7_lose 18 = .ok (.ifCond .ne 5, 3) := by decide +kernel
theorem dX7_lose_21 : decode cX7_lose 21 = .ok (.iconst 0, 1) := by decide +kernel
theorem dX7_lose_22 : decode cX7_lose 22 = .ok (.ireturn, 1) := by decide +kernel
theorem dX7_lose_23 : decode cX7_lose 23 = .ok (.aload_n 0, 1) := by decide +kernel
theorem dX7_lose_24 : decode cX7_lose 24 = .ok (.getfield 13, 3) := by decide +kernel
theorem dX7_lose_27 : decode cX7_lose 27 = .ok (.iload_n 1, 1) := by decide +kernel
theorem dX7_lose_28 : decode cX7_lose 28 = .ok (.aaload, 1) := by decide +kernel
theorem dX7_lose_29 : decode cX7_lose 29 = .ok (.iconst 0, 1) := by decide +kernel
theorem dX7_lose_30 : decode cX7_lose 30 = .ok (.putfield 216, 3) := by decide +kernel
theorem dX7_lose_33 : decode cX7_lose 33 = .ok (.iconst 1, 1) := by decide +kernel
theorem dX7_lose_34 : decode cX7_lose 34 = .ok (.ireturn, 1) := by decide +kernel
set_option maxRecDepth 20000 in
theorem ggX7_put_X7_isSheet : GoodIn wsX7_put wsX7_isSheet := goodIn_r _ [6] (by decide +kernel) (by decide +kernel)
set_option maxRecDepth 20000 in
theorem gX7_put_X7_isSheet : GoodIn wsX7_put (va_wsS RX7 57 yX7_isSheet wsX7_isSheet) := goodIn_app (goodIn_of _ (by decide +kernel)) ggX7_put_X7_isSheet
set_option maxRecDepth 20000 in
theorem ggX7_put_X7_faulted : GoodIn wsX7_put wsX7_faulted := goodIn_r _ [10, 1, 14, 15, 16, 17, 18, 19, 20, 21, 22] (by decide +kernel) (by decide +kernel)
set_option maxRecDepth 20000 in
theorem gX7_put_X7_faulted : GoodIn wsX7_put (wsV RX7 68 RX7 yX7_faulted wsX7_faulted) := goodIn_app (goodIn_of _ (by decide +kernel)) ggX7_put_X7_faulted
set_option maxRecDepth 20000 in
theorem ggX7_put_X7_cutTo : GoodIn wsX7_put wsX7_cutTo := goodIn_r _ [13] (by decide +kernel) (by decide +kernel)
set_option maxRecDepth 20000 in
theorem gX7_put_X7_cutTo : GoodIn wsX7_put (va_wsS RX7 226 yX7_cutTo wsX7_cutTo) := goodIn_app (goodIn_of _ (by decide +kernel)) ggX7_put_X7_cutTo
theorem dX7_put_0 : decode cX7_put 0 = .ok (.aload_n 0, 1) := by decide +kernel
theorem dX7_put_1 : decode cX7_put 1 = .ok (.iconst 0, 1) := by decide +kernel
theorem dX7_put_2 : decode cX7_put 2 = .ok (.putfield 53, 3) := by decide +kernel
theorem dX7_put_5 : decode cX7_put 5 = .ok (.iload_n 1, 1) := by decide +kernel
theorem dX7_put_6 : decode cX7_put 6 = .ok (.invokestatic 57, 3) := by decide +kernel
theorem dX7_put_9 : decode cX7_put 9 = .ok (.ifCond .ne 5, 3) := by decide +kernel
theorem dX7_put_12 : decode cX7_put 12 = .ok (.iconst (-1), 1) := by decide +kernel
theorem dX7_put_13 : decode cX7_put 13 = .ok (.ireturn, 1) := by decide +kernel
theorem dX7_put_14 : decode cX7_put 14 = .ok (.aload_n 0, 1) := by decide +kernel
theorem dX7_put_15 : decode cX7_put 15 = .ok (.getfield 13, 3) := by decide +kernel
theorem dX7_put_18 : decode cX7_put 18 = .ok (.iload_n 1, 1) := by decide +kernel
theorem dX7_put_19 : decode cX7_put 19 = .ok (.aaload, 1) := by decide +kernel
theorem dX7_put_20 : decode cX7_put 20 = .ok (.astore 4, 2) := by decide +kernel
theorem dX7_put_22 : decode cX7_put 22 = .ok (.aload 4, 2) := by decide +kernel
theorem dX7_put_24 : decode cX7_put 24 = .ok (.getfield 216, 3) := by decide +kernel
theorem dX7_put_27 : decode cX7_put 27 = .ok (.ifCond .ne 9, 3) := by decide +kernel
theorem dX7_put_30 : decode cX7_put 30 = .ok (.aload_n 0, 1) := by decide +kernel
theorem dX7_put_31 : decode cX7_put 31 = .ok (.iconst 1, 1) := by decide +kernel
theorem dX7_put_32 : decode cX7_put 32 = .ok (.invokevirtual 68, 3) := by decide +kernel
theorem dX7_put_35 : decode cX7_put 35 = .ok (.ireturn, 1) := by decide +kernel
theorem dX7_put_36 : decode cX7_put 36 = .ok (.iload_n 2, 1) := by decide +kernel
theorem dX7_put_37 : decode cX7_put 37 = .ok (.ifCond .lt 12, 3) := by decide +kernel
theorem dX7_put_40 : decode cX7_put 40 = .ok (.iload_n 2, 1) := by decide +kernel
theorem dX7_put_41 : decode cX7_put 41 = .ok (.aload 4, 2) := by decide +kernel
theorem dX7_put_43 : decode cX7_put 43 = .ok (.getfield 220, 3) := by decide +kernel
theorem dX7_put_46 : decode cX7_put 46 = .ok (.if_icmp .lt 9, 3) := by decide +kernel
theorem dX7_put_49 : decode cX7_put 49 = .ok (.aload_n 0, 1) := by decide +kernel
theorem dX7_put_50 : decode cX7_put 50 = .ok (.iconst 3, 1) := by decide +kernel
theorem dX7_put_51 : decode cX7_put 51 = .ok (.invokevirtual 68, 3) := by decide +kernel
theorem dX7_put_54 : decode cX7_put 54 = .ok (.ireturn, 1) := by decide +kernel
theorem dX7_put_55 : decode cX7_put 55 = .ok (.aload 4, 2) := by decide +kernel
theorem dX7_put_57 : decode cX7_put 57 = .ok (.getfield 143, 3) := by decide +kernel
theorem dX7_put_60 : decode cX7_put 60 = .ok (.iload_n 2, 1) := by decide +kernel
theorem dX7_put_61 : decode cX7_put 61 = .ok (.aload 4, 2) := by decide +kernel
theorem dX7_put_63 : decode cX7_put 63 = .ok (.getfield 223, 3) := by decide +kernel
theorem dX7_put_66 : decode cX7_put 66 = .ok (.iload_n 3, 1) := by decide +kernel
theorem dX7_put_67 : decode cX7_put 67 = .ok (.invokestatic 226, 3) := by decide +kernel
theorem dX7_put_70 : decode cX7_put 70 = .ok (.iastore, 1) := by decide +kernel
theorem dX7_put_71 : decode cX7_put 71 = .ok (.iconst 1, 1) := by decide +kernel
theorem dX7_put_72 : decode cX7_put 72 = .ok (.ireturn, 1) := by decide +kernel
set_option maxRecDepth 20000 in
theorem ggX7_cell_X7_isSheet : GoodIn wsX7_cell wsX7_isSheet := goodIn_r _ [7] (by decide +kernel) (by decide +kernel)
set_option maxRecDepth 20000 in
theorem gX7_cell_X7_isSheet : GoodIn wsX7_cell (va_wsS RX7 57 yX7_isSheet wsX7_isSheet) := goodIn_app (goodIn_of _ (by decide +kernel)) ggX7_cell_X7_isSheet
set_option maxRecDepth 20000 in
theorem ggX7_cell_X7_isLane : GoodIn wsX7_cell wsX7_isLane := goodIn_r _ [10] (by decide +kernel) (by decide +kernel)
set_option maxRecDepth 20000 in
theorem gX7_cell_X7_isLane : GoodIn wsX7_cell (va_wsS RX7 61 yX7_isLane wsX7_isLane) := goodIn_app (goodIn_of _ (by decide +kernel)) ggX7_cell_X7_isLane
set_option maxRecDepth 20000 in
theorem ggX7_cell_X2_faultAsLane : GoodIn wsX7_cell wsX2_faultAsLane := goodIn_r _ [15, 16, 17, 18, 19, 20, 14, 21, 22, 32, 33, 34, 35] (by decide +kernel) (by decide +kernel)
set_option maxRecDepth 20000 in
theorem gX7_cell_X2_faultAsLane : GoodIn wsX7_cell (wsV RX7 64 RX2 yX2_faultAsLane wsX2_faultAsLane) := goodIn_app (goodIn_of _ (by decide +kernel)) ggX7_cell_X2_faultAsLane
theorem dX7_cell_0 : decode cX7_cell 0 = .ok (.aload_n 0, 1) := by decide +kernel
theorem dX7_cell_1 : decode cX7_cell 1 = .ok (.iconst 0, 1) := by decide +kernel
theorem dX7_cell_2 : decode cX7_cell 2 = .ok (.putfield 53, 3) := by decide +kernel
theorem dX7_cell_5 : decode cX7_cell 5 = .ok (.iload_n 1, 1) := by decide +kernel
theorem dX7_cell_6 : decode cX7_cell 6 = .ok (.invokestatic 57, 3) := by decide +kernel
theorem dX7_cell_9 : decode cX7_cell 9 = .ok (.ifCond .eq 10, 3) := by decide +kernel
theorem dX7_cell_12 : decode cX7_cell 12 = .ok (.iload_n 3, 1) := by decide +kernel
theorem dX7_cell_13 : decode cX7_cell 13 = .ok (.invokestatic 61, 3) := by decide +kernel
theorem dX7_cell_16 : decode cX7_cell 16 = .ok (.ifCond .ne 7, 3) := by decide +kernel
theorem dX7_cell_19 : decode cX7_cell 19 = .ok (.ldc2_w 208, 3) := by decide +kernel
theorem dX7_cell_22 : decode cX7_cell 22 = .ok (.lreturn, 1) := by decide +kernel
theorem dX7_cell_23 : decode cX7_cell 23 = .ok (.aload_n 0, 1) := by decide +kernel
theorem dX7_cell_24 : decode cX7_cell 24 = .ok (.getfield 13, 3) := by decide +kernel
theorem dX7_cell_27 : decode cX7_cell 27 = .ok (.iload_n 1, 1) := by decide +kernel
theorem dX7_cell_28 : decode cX7_cell 28 = .ok (.aaload, 1) := by decide +kernel
theorem dX7_cell_29 : decode cX7_cell 29 = .ok (.astore 4, 2) := by decide +kernel
theorem dX7_cell_31 : decode cX7_cell 31 = .ok (.aload 4, 2) := by decide +kernel
theorem dX7_cell_33 : decode cX7_cell 33 = .ok (.iload_n 3, 1) := by decide +kernel
theorem dX7_cell_34 : decode cX7_cell 34 = .ok (.iload_n 2, 1) := by decide +kernel
theorem dX7_cell_35 : decode cX7_cell 35 = .ok (.iconst 1, 1) := by decide +kernel
theorem dX7_cell_36 : decode cX7_cell 36 = .ok (.invokevirtual 64, 3) := by decide +kernel
theorem dX7_cell_39 : decode cX7_cell 39 = .ok (.istore 5, 2) := by decide +kernel
theorem dX7_cell_41 : decode cX7_cell 41 = .ok (.iload 5, 2) := by decide +kernel
theorem dX7_cell_43 : decode cX7_cell 43 = .ok (.ifCond .eq 13, 3) := by decide +kernel
theorem dX7_cell_46 : decode cX7_cell 46 = .ok (.aload_n 0, 1) := by decide +kernel
theorem dX7_cell_47 : decode cX7_cell 47 = .ok (.iload 5, 2) := by decide +kernel
theorem dX7_cell_49 : decode cX7_cell 49 = .ok (.putfield 53, 3) := by decide +kernel
theorem dX7_cell_52 : decode cX7_cell 52 = .ok (.ldc2_w 208, 3) := by decide +kernel
theorem dX7_cell_55 : decode cX7_cell 55 = .ok (.lreturn, 1) := by decide +kernel
theorem dX7_cell_56 : decode cX7_cell 56 = .ok (.aload 4, 2) := by decide +kernel
theorem dX7_cell_58 : decode cX7_cell 58 = .ok (.getfield 143, 3) := by decide +kernel
theorem dX7_cell_61 : decode cX7_cell 61 = .ok (.iload_n 2, 1) := by decide +kernel
theorem dX7_cell_62 : decode cX7_cell 62 = .ok (.iaload, 1) := by decide +kernel
theorem dX7_cell_63 : decode cX7_cell 63 = .ok (.i2l, 1) := by decide +kernel
theorem dX7_cell_64 : decode cX7_cell 64 = .ok (.lreturn, 1) := by decide +kernel
set_option maxRecDepth 20000 in
theorem ggX7_copy_X7_isSheet : GoodIn wsX7_copy wsX7_isSheet := goodIn_r _ [10] (by decide +kernel) (by decide +kernel)
set_option maxRecDepth 20000 in
theorem gX7_copy_X7_isSheet : GoodIn wsX7_copy (va_wsS RX7 57 yX7_isSheet wsX7_isSheet) := goodIn_app (goodIn_of _ (by decide +kernel)) ggX7_copy_X7_isSheet
set_option maxRecDepth 20000 in
theorem ggX7_copy_X7_faulted : GoodIn wsX7_copy wsX7_faulted := goodIn_r _ [14, 1, 21, 22, 23, 24, 25, 26, 27, 28, 29] (by decide +kernel) (by decide +kernel)
set_option maxRecDepth 20000 in
theorem gX7_copy_X7_faulted : GoodIn wsX7_copy (wsV RX7 68 RX7 yX7_faulted wsX7_faulted) := goodIn_app (goodIn_of _ (by decide +kernel)) ggX7_copy_X7_faulted
set_option maxRecDepth 20000 in
theorem ggX7_copy_X2_holds : GoodIn wsX7_copy wsX2_holds := goodIn_r _ [19, 20, 30, 31, 32, 33] (by decide +kernel) (by decide +kernel)
set_option maxRecDepth 20000 in
theorem gX7_copy_X2_holds : GoodIn wsX7_copy (wsV RX7 229 RX2 yX2_holds wsX2_holds) := goodIn_app (goodIn_of _ (by decide +kernel)) ggX7_copy_X2_holds
theorem dX7_copy_0 : decode cX7_copy 0 = .ok (.aload_n 0, 1) := by decide +kernel
theorem dX7_copy_1 : decode cX7_copy 1 = .ok (.iconst 0, 1) := by decide +kernel
theorem dX7_copy_2 : decode cX7_copy 2 = .ok (.putfield 53, 3) := by decide +kernel
theorem dX7_copy_5 : decode cX7_copy 5 = .ok (.iload_n 1, 1) := by decide +kernel
theorem dX7_copy_6 : decode cX7_copy 6 = .ok (.invokestatic 57, 3) := by decide +kernel
theorem dX7_copy_9 : decode cX7_copy 9 = .ok (.ifCond .eq 10, 3) := by decide +kernel
theorem dX7_copy_12 : decode cX7_copy 12 = .ok (.iload_n 3, 1) := by decide +kernel
theorem dX7_copy_13 : decode cX7_copy 13 = .ok (.invokestatic 57, 3) := by decide +kernel
theorem dX7_copy_16 : decode cX7_copy 16 = .ok (.ifCond .ne 5, 3) := by decide +kernel
theorem dX7_copy_19 : decode cX7_copy 19 = .ok (.iconst (-1), 1) := by decide +kernel
theorem dX7_copy_20 : decode cX7_copy 20 = .ok (.ireturn, 1) := by decide +kernel
theorem dX7_copy_21 : decode cX7_copy 21 = .ok (.aload_n 0, 1) := by decide +kernel
theorem dX7_copy_22 : decode cX7_copy 22 = .ok (.getfield 13, 3) := by decide +kernel
theorem dX7_copy_25 : decode cX7_copy 25 = .ok (.iload_n 1, 1) := by decide +kernel
theorem dX7_copy_26 : decode cX7_copy 26 = .ok (.aaload, 1) := by decide +kernel
theorem dX7_copy_27 : decode cX7_copy 27 = .ok (.astore 6, 2) := by decide +kernel
theorem dX7_copy_29 : decode cX7_copy 29 = .ok (.aload_n 0, 1) := by decide +kernel
theorem dX7_copy_30 : decode cX7_copy 30 = .ok (.getfield 13, 3) := by decide +kernel
theorem dX7_copy_33 : decode cX7_copy 33 = .ok (.iload_n 3, 1) := by decide +kernel
theorem dX7_copy_34 : decode cX7_copy 34 = .ok (.aaload, 1) := by decide +kernel
theorem dX7_copy_35 : decode cX7_copy 35 = .ok (.astore 7, 2) := by decide +kernel
theorem dX7_copy_37 : decode cX7_copy 37 = .ok (.aload 6, 2) := by decide +kernel
theorem dX7_copy_39 : decode cX7_copy 39 = .ok (.getfield 216, 3) := by decide +kernel
theorem dX7_copy_42 : decode cX7_copy 42 = .ok (.ifCond .eq 11, 3) := by decide +kernel
theorem dX7_copy_45 : decode cX7_copy 45 = .ok (.aload 7, 2) := by decide +kernel
theorem dX7_copy_47 : decode cX7_copy 47 = .ok (.getfield 216, 3) := by decide +kernel
theorem dX7_copy_50 : decode cX7_copy 50 = .ok (.ifCond .ne 9, 3) := by decide +kernel
theorem dX7_copy_53 : decode cX7_copy 53 = .ok (.aload_n 0, 1) := by decide +kernel
theorem dX7_copy_54 : decode cX7_copy 54 = .ok (.iconst 1, 1) := by decide +kernel
theorem dX7_copy_55 : decode cX7_copy 55 = .ok (.invokevirtual 68, 3) := by decide +kernel
theorem dX7_copy_58 : decode cX7_copy 58 = .ok (.ireturn, 1) := by decide +kernel
theorem dX7_copy_59 : decode cX7_copy 59 = .ok (.aload 6, 2) := by decide +kernel
theorem dX7_copy_61 : decode cX7_copy 61 = .ok (.getfield 223, 3) := by decide +kernel
theorem dX7_copy_64 : decode cX7_copy 64 = .ok (.aload 7, 2) := by decide +kernel
theorem dX7_copy_66 : decode cX7_copy 66 = .ok (.getfield 223, 3) := by decide +kernel
theorem dX7_copy_69 : decode cX7_copy 69 = .ok (.if_icmp .eq 9, 3) := by decide +kernel
theorem dX7_copy_72 : decode cX7_copy 72 = .ok (.aload_n 0, 1) := by decide +kernel
theorem dX7_copy_73 : decode cX7_copy 73 = .ok (.iconst 2, 1) := by decide +kernel
theorem dX7_copy_74 : decode cX7_copy 74 = .ok (.invokevirtual 68, 3) := by decide +kernel
theorem dX7_copy_77 : decode cX7_copy 77 = .ok (.ireturn, 1) := by decide +kernel
theorem dX7_copy_78 : decode cX7_copy 78 = .ok (.iload 5, 2) := by decide +kernel
theorem dX7_copy_80 : decode cX7_copy 80 = .ok (.ifCond .lt 26, 3) := by decide +kernel
theorem dX7_copy_83 : decode cX7_copy 83 = .ok (.aload 6, 2) := by decide +kernel
theorem dX7_copy_85 : decode cX7_copy 85 = .ok (.iload_n 2, 1) := by decide +kernel
theorem dX7_copy_86 : decode cX7_copy 86 = .ok (.iload 5, 2) := by decide +kernel
theorem dX7_copy_88 : decode cX7_copy 88 = .ok (.invokevirtual 229, 3) := by decide +kernel
theorem dX7_copy_91 : decode cX7_copy 91 = .ok (.ifCond .eq 15, 3) := by decide +kernel
theorem dX7_copy_94 : decode cX7_copy 94 = .ok (.aload 7, 2) := by decide +kernel
theorem dX7_copy_96 : decode cX7_copy 96 = .ok (.iload 4, 2) := by decide +kernel
theorem dX7_copy_98 : decode cX7_copy 98 = .ok (.iload 5, 2) := by decide +kernel
theorem dX7_copy_100 : decode cX7_copy 100 = .ok (.invokevirtual 229, 3) := by decide +kernel
theorem dX7_copy_103 : decode cX7_copy 103 = .ok (.ifCond .ne 9, 3) := by decide +kernel
theorem dX7_copy_106 : decode cX7_copy 106 = .ok (.aload_n 0, 1) := by decide +kernel
theorem dX7_copy_107 : decode cX7_copy 107 = .ok (.iconst 3, 1) := by decide +kernel
theorem dX7_copy_108 : decode cX7_copy 108 = .ok (.invokevirtual 68, 3) := by decide +kernel
theorem dX7_copy_111 : decode cX7_copy 111 = .ok (.ireturn, 1) := by decide +kernel
theorem dX7_copy_112 : decode cX7_copy 112 = .ok (.aload 6, 2) := by decide +kernel
theorem dX7_copy_114 : decode cX7_copy 114 = .ok (.getfield 143, 3) := by decide +kernel
theorem dX7_copy_117 : decode cX7_copy 117 = .ok (.iload_n 2, 1) := by decide +kernel
theorem dX7_copy_118 : decode cX7_copy 118 = .ok (.aload 7, 2) := by decide +kernel
theorem dX7_copy_120 : decode cX7_copy 120 = .ok (.getfield 143, 3) := by decide +kernel
theorem dX7_copy_123 : decode cX7_copy 123 = .ok (.iload 4, 2) := by decide +kernel
theorem dX7_copy_125 : decode cX7_copy 125 = .ok (.iload 5, 2) := by decide +kernel
theorem dX7_copy_127 : decode cX7_copy 127 = .ok (.invokestatic 233, 3) := by decide +kernel
theorem dX7_copy_130 : decode cX7_copy 130 = .ok (.iload 5, 2) := by decide +kernel
theorem dX7_copy_132 : decode cX7_copy 132 = .ok (.ireturn, 1) := by decide +kernel
set_option maxRecDepth 20000 in
theorem ggX7_tell_X4_has : GoodIn wsX7_tell wsX4_has := goodIn_r _ [6, 7, 35, 36, 37, 38, 39, 40] (by decide +kernel) (by decide +kernel)
set_option maxRecDepth 20000 in
theorem gX7_tell_X4_has : GoodIn wsX7_tell (wsV RX7 89 RX4 yX4_has wsX4_has) := goodIn_app (goodIn_of _ (by decide +kernel)) ggX7_tell_X4_has
set_option maxRecDepth 20000 in
theorem ggX7_tell_X7_dashBody : GoodIn wsX7_tell wsX7_dashBody := goodIn_r _ [12, 13, 14, 15, 11, 16, 17, 18, 19, 20, 21, 1, 26, 27, 28, 29, 30, 31, 32, 33, 34, 35, 36, 37, 38, 39, 40] (by decide +kernel) (by decide +kernel)
set_option maxRecDepth 20000 in
theorem gX7_tell_X7_dashBody : GoodIn wsX7_tell (wsV RX7 239 RX7 yX7_dashBody wsX7_dashBody) := goodIn_app (goodIn_of _ (by decide +kernel)) ggX7_tell_X7_dashBody
set_option maxRecDepth 20000 in
theorem ggX7_tell_X7_boldBody : GoodIn wsX7_tell wsX7_boldBody := goodIn_r _ [25, 13, 14, 15, 11, 16, 17, 8, 9, 10, 12, 18, 19, 20, 21, 1, 26, 27, 28, 29, 30, 31, 32, 33, 34, 35, 36, 37, 38, 39, 40] (by decide +kernel) (by decide +kernel)
set_option maxRecDepth 20000 in
theorem gX7_tell_X7_boldBody : GoodIn wsX7_tell (wsV RX7 242 RX7 yX7_boldBody wsX7_boldBody) := goodIn_app (goodIn_of _ (by decide +kernel)) ggX7_tell_X7_boldBody
set_option maxRecDepth 20000 in
theorem ggX7_tell_X7_lineBody : GoodIn wsX7_tell wsX7_lineBody := goodIn_r _ [21, 1, 13, 14, 15, 11, 16, 17, 26, 27, 28, 29, 30, 31, 32, 33, 34, 35, 36, 37, 38, 39, 40] (by decide +kernel) (by decide +kernel)
set_option maxRecDepth 20000 in
theorem gX7_tell_X7_lineBody : GoodIn wsX7_tell (wsV RX7 245 RX7 yX7_lineBody wsX7_lineBody) := goodIn_app (goodIn_of _ (by decide +kernel)) ggX7_tell_X7_lineBody
theorem dX7_tell_0 : decode cX7_tell 0 = .ok (.aload_n 0, 1) := by decide +kernel
theorem dX7_tell_1 : decode cX7_tell 1 = .ok (.getfield 21, 3) := by decide +kernel
theorem dX7_tell_4 : decode cX7_tell 4 = .ok (.iload_n 1, 1) := by decide +kernel
theorem dX7_tell_5 : decode cX7_tell 5 = .ok (.invokevirtual 89, 3) := by decide +kernel
theorem dX7_tell_8 : decode cX7_tell 8 = .ok (.ifCond .ne 5, 3) := by decide +kernel
theorem dX7_tell_11 : decode cX7_tell 11 = .ok (.iconst (-1), 1) := by decide +kernel
theorem dX7_tell_12 : decode cX7_tell 12 = .ok (.ireturn, 1) := by decide +kernel
theorem dX7_tell_13 : decode cX7_tell 13 = .ok (.aload_n 0, 1) := by decide +kernel
theorem dX7_tell_14 : decode cX7_tell 14 = .ok (.getfield 21, 3) := by decide +kernel
theorem dX7_tell_17 : decode cX7_tell 17 = .ok (.getfield 92, 3) := by decide +kernel
theorem dX7_tell_20 : decode cX7_tell 20 = .ok (.iload_n 1, 1) := by decide +kernel
theorem dX7_tell_21 : decode cX7_tell 21 = .ok (.iaload, 1) := by decide +kernel
theorem dX7_tell_22 : decode cX7_tell 22 = .ok (.lookupswitch 38 #[(1, 26), (2, 32)], 26) := by decide +kernel
theorem dX7_tell_48 : decode cX7_tell 48 = .ok (.aload_n 0, 1) := by decide +kernel
theorem dX7_tell_49 : decode cX7_tell 49 = .ok (.iload_n 1, 1) := by decide +kernel
theorem dX7_tell_50 : decode cX7_tell 50 = .ok (.invokevirtual 239, 3) := by decide +kernel
theorem dX7_tell_53 : decode cX7_tell 53 = .ok (.ireturn, 1) := by decide +kernel
theorem dX7_tell_54 : decode cX7_tell 54 = .ok (.aload_n 0, 1) := by decide +kernel
theorem dX7_tell_55 : decode cX7_tell 55 = .ok (.iload_n 1, 1) := by decide +kernel
theorem dX7_tell_56 : decode cX7_tell 56 = .ok (.invokevirtual 242, 3) := by decide +kernel
theorem dX7_tell_59 : decode cX7_tell 59 = .ok (.ireturn, 1) := by decide +kernel
theorem dX7_tell_60 : decode cX7_tell 60 = .ok (.aload_n 0, 1) := by decide +kernel
theorem dX7_tell_61 : decode cX7_tell 61 = .ok (.iload_n 1, 1) := by decide +kernel
theorem dX7_tell_62 : decode cX7_tell 62 = .ok (.invokevirtual 245, 3) := by decide +kernel
theorem dX7_tell_65 : decode cX7_tell 65 = .ok (.ireturn, 1) := by decide +kernel
set_option maxRecDepth 20000 in
theorem ggX7_quote_X4_has : GoodIn wsX7_quote wsX4_has := goodIn_r _ [6, 7, 23, 24, 25, 26, 27, 28] (by decide +kernel) (by decide +kernel)
set_option maxRecDepth 20000 in
theorem gX7_quote_X4_has : GoodIn wsX7_quote (wsV RX7 89 RX4 yX4_has wsX4_has) := goodIn_app (goodIn_of _ (by decide +kernel)) ggX7_quote_X4_has
set_option maxRecDepth 20000 in
theorem ggX7_quote_X7_leaveInTrace : GoodIn wsX7_quote wsX7_leaveInTrace := goodIn_r _ [12, 13, 14, 15, 16, 17, 18, 19, 20, 21, 22] (by decide +kernel) (by decide +kernel)
set_option maxRecDepth 20000 in
theorem gX7_quote_X7_leaveInTrace : GoodIn wsX7_quote (wsV RX7 248 RX7 yX7_leaveInTrace wsX7_leaveInTrace) := goodIn_app (goodIn_of _ (by decide +kernel)) ggX7_quote_X7_leaveInTrace
theorem dX7_quote_0 : decode cX7_quote 0 = .ok (.aload_n 0, 1) := by decide +kernel
theorem dX7_quote_1 : decode cX7_quote 1 = .ok (.getfield 21, 3) := by decide +kernel
theorem dX7_quote_4 : decode cX7_quote 4 = .ok (.iload_n 1, 1) := by decide +kernel
theorem dX7_quote_5 : decode cX7_quote 5 = .ok (.invokevirtual 89, 3) := by decide +kernel
theorem dX7_quote_8 : decode cX7_quote 8 = .ok (.ifCond .ne 5, 3) := by decide +kernel
theorem dX7_quote_11 : decode cX7_quote 11 = .ok (.iconst (-1), 1) := by decide +kernel
theorem dX7_quote_12 : decode cX7_quote 12 = .ok (.ireturn, 1) := by decide +kernel
theorem dX7_quote_13 : decode cX7_quote 13 = .ok (.aload_n 0, 1) := by decide +kernel
theorem dX7_quote_14 : decode cX7_quote 14 = .ok (.getfield 21, 3) := by decide +kernel
theorem dX7_quote_17 : decode cX7_quote 17 = .ok (.getfield 92, 3) := by decide +kernel
theorem dX7_quote_20 : decode cX7_quote 20 = .ok (.iload_n 1, 1) := by decide +kernel
theorem dX7_quote_21 : decode cX7_quote 21 = .ok (.iaload, 1) := by decide +kernel
theorem dX7_quote_22 : decode cX7_quote 22 = .ok (.iconst 2, 1) := by decide +kernel
theorem dX7_quote_23 : decode cX7_quote 23 = .ok (.if_icmp .ne 11, 3) := by decide +kernel
theorem dX7_quote_26 : decode cX7_quote 26 = .ok (.aload_n 0, 1) := by decide +kernel
theorem dX7_quote_27 : decode cX7_quote 27 = .ok (.iconst 5, 1) := by decide +kernel
theorem dX7_quote_28 : decode cX7_quote 28 = .ok (.invokevirtual 248, 3) := by decide +kernel
theorem dX7_quote_31 : decode cX7_quote 31 = .ok (.bipush 20, 2) := by decide +kernel
theorem dX7_quote_33 : decode cX7_quote 33 = .ok (.ireturn, 1) := by decide +kernel
theorem dX7_quote_34 : decode cX7_quote 34 = .ok (.aload_n 0, 1) := by decide +kernel
theorem dX7_quote_35 : decode cX7_quote 35 = .ok (.iconst 4, 1) := by decide +kernel
theorem dX7_quote_36 : decode cX7_quote 36 = .ok (.invokevirtual 248, 3) := by decide +kernel
theorem dX7_quote_39 : decode cX7_quote 39 = .ok (.iload_n 1, 1) := by decide +kernel
theorem dX7_quote_40 : decode cX7_quote 40 = .ok (.ireturn, 1) := by decide +kernel
set_option maxRecDepth 20000 in
theorem ggX7_as_X4_has : GoodIn wsX7_as wsX4_has := goodIn_r _ [7, 8, 26, 27, 28, 29, 30, 31] (by decide +kernel) (by decide +kernel)
set_option maxRecDepth 20000 in
theorem gX7_as_X4_has : GoodIn wsX7_as (wsV RX7 89 RX4 yX4_has wsX4_has) := goodIn_app (goodIn_of _ (by decide +kernel)) ggX7_as_X4_has
set_option maxRecDepth 20000 in
theorem ggX7_as_X7_isKind : GoodIn wsX7_as wsX7_isKind := goodIn_r _ [12] (by decide +kernel) (by decide +kernel)
set_option maxRecDepth 20000 in
theorem gX7_as_X7_isKind : GoodIn wsX7_as (va_wsS RX7 251 yX7_isKind wsX7_isKind) := goodIn_app (goodIn_of _ (by decide +kernel)) ggX7_as_X7_isKind
set_option maxRecDepth 20000 in
theorem ggX7_as_X7_faulted : GoodIn wsX7_as wsX7_faulted := goodIn_r _ [16, 1, 17, 18, 19, 20, 21, 22, 23, 24, 25] (by decide +kernel) (by decide +kernel)
set_option maxRecDepth 20000 in
theorem gX7_as_X7_faulted : GoodIn wsX7_as (wsV RX7 68 RX7 yX7_faulted wsX7_faulted) := goodIn_app (goodIn_of _ (by decide +kernel)) ggX7_as_X7_faulted
theorem dX7_as_0 : decode cX7_as 0 = .ok (.aload_n 0, 1) := by decide +kernel
theorem dX7_as_1 : decode cX7_as 1 = .ok (.iconst 0, 1) := by decide +kernel
theorem dX7_as_2 : decode cX7_as 2 = .ok (.putfield 53, 3) := by decide +kernel
theorem dX7_as_5 : decode cX7_as 5 = .ok (.aload_n 0, 1) := by decide +kernel
theorem dX7_as_6 : decode cX7_as 6 = .ok (.getfield 21, 3) := by decide +kernel
theorem dX7_as_9 : decode cX7_as 9 = .ok (.iload_n 1, 1) := by decide +kernel
theorem dX7_as_10 : decode cX7_as 10 = .ok (.invokevirtual 89, 3) := by decide +kernel
theorem dX7_as_13 : decode cX7_as 13 = .ok (.ifCond .ne 5, 3) := by decide +kernel
theorem dX7_as_16 : decode cX7_as 16 = .ok (.iconst (-1), 1) := by decide +kernel
theorem dX7_as_17 : decode cX7_as 17 = .ok (.ireturn, 1) := by decide +kernel
theorem dX7_as_18 : decode cX7_as 18 = .ok (.iload_n 2, 1) := by decide +kernel
theorem dX7_as_19 : decode cX7_as 19 = .ok (.invokestatic 251, 3) := by decide +kernel
theorem dX7_as_22 : decode cX7_as 22 = .ok (.ifCond .ne 6, 3) := by decide +kernel
theorem dX7_as_25 : decode cX7_as 25 = .ok (.bipush (-2), 2) := by decide +kernel
theorem dX7_as_27 : decode cX7_as 27 = .ok (.ireturn, 1) := by decide +kernel
theorem dX7_as_28 : decode cX7_as 28 = .ok (.aload_n 0, 1) := by decide +kernel
theorem dX7_as_29 : decode cX7_as 29 = .ok (.getfield 21, 3) := by decide +kernel
theorem dX7_as_32 : decode cX7_as 32 = .ok (.getfield 92, 3) := by decide +kernel
theorem dX7_as_35 : decode cX7_as 35 = .ok (.iload_n 1, 1) := by decide +kernel
theorem dX7_as_36 : decode cX7_as 36 = .ok (.iaload, 1) := by decide +kernel
theorem dX7_as_37 : decode cX7_as 37 = .ok (.iload_n 2, 1) := by decide +kernel
theorem dX7_as_38 : decode cX7_as 38 = .ok (.if_icmp .ge 9, 3) := by decide +kernel
theorem dX7_as_41 : decode cX7_as 41 = .ok (.aload_n 0, 1) := by decide +kernel
theorem dX7_as_42 : decode cX7_as 42 = .ok (.iconst 2, 1) := by decide +kernel
theorem dX7_as_43 : decode cX7_as 43 = .ok (.invokevirtual 68, 3) := by decide +kernel
theorem dX7_as_46 : decode cX7_as 46 = .ok (.ireturn, 1) := by decide +kernel
theorem dX7_as_47 : decode cX7_as 47 = .ok (.iconst 1, 1) := by decide +kernel
theorem dX7_as_48 : decode cX7_as 48 = .ok (.ireturn, 1) := by decide +kernel
theorem dX7_trace_0 : decode cX7_trace 0 = .ok (.aload_n 0, 1) := by decide +kernel
theorem dX7_trace_1 : decode cX7_trace 1 = .ok (.getfield 254, 3) := by decide +kernel
theorem dX7_trace_4 : decode cX7_trace 4 = .ok (.ireturn, 1) := by decide +kernel
theorem dX7_fault_0 : decode cX7_fault 0 = .ok (.aload_n 0, 1) := by decide +kernel
theorem dX7_fault_1 : decode cX7_fault 1 = .ok (.getfield 53, 3) := by decide +kernel
theorem dX7_fault_4 : decode cX7_fault 4 = .ok (.ireturn, 1) := by decide +kernel
set_option maxRecDepth 20000 in
theorem ggX7_many_X4_howManyWet : GoodIn wsX7_many wsX4_howManyWet := goodIn_r _ [8, 9, 10, 11, 12, 13, 14, 15, 16, 26, 27, 28, 29, 30, 31] (by decide +kernel) (by decide +kernel)
set_option maxRecDepth 20000 in
theorem gX7_many_X4_howManyWet : GoodIn wsX7_many (wsV RX7 120 RX4 yX4_howManyWet wsX4_howManyWet) := goodIn_app (goodIn_of _ (by decide +kernel)) ggX7_many_X4_howManyWet
theorem dX7_many_0 : decode cX7_many 0 = .ok (.iload_n 1, 1) := by decide +kernel
theorem dX7_many_1 : decode cX7_many 1 = .ok (.tableswitch 60 0 3 #[31, 39, 44, 52], 31) := by decide +kernel
theorem dX7_many_32 : decode cX7_many 32 = .ok (.aload_n 0, 1) := by decide +kernel
theorem dX7_many_33 : decode cX7_many 33 = .ok (.getfield 21, 3) := by decide +kernel
theorem dX7_many_36 : decode cX7_many 36 = .ok (.getfield 88, 3) := by decide +kernel
theorem dX7_many_39 : decode cX7_many 39 = .ok (.ireturn, 1) := by decide +kernel
theorem dX7_many_40 : decode cX7_many 40 = .ok (.aload_n 0, 1) := by decide +kernel
theorem dX7_many_41 : decode cX7_many 41 = .ok (.getfield 85, 3) := by decide +kernel
theorem dX7_many_44 : decode cX7_many 44 = .ok (.ireturn, 1) := by decide +kernel
theorem dX7_many_45 : decode cX7_many 45 = .ok (.aload_n 0, 1) := by decide +kernel
theorem dX7_many_46 : decode cX7_many 46 = .ok (.getfield 21, 3) := by decide +kernel
theorem dX7_many_49 : decode cX7_many 49 = .ok (.invokevirtual 120, 3) := by decide +kernel
theorem dX7_many_52 : decode cX7_many 52 = .ok (.ireturn, 1) := by decide +kernel
theorem dX7_many_53 : decode cX7_many 53 = .ok (.aload_n 0, 1) := by decide +kernel
theorem dX7_many_54 : decode cX7_many 54 = .ok (.getfield 28, 3) := by decide +kernel
theorem dX7_many_57 : decode cX7_many 57 = .ok (.getfield 82, 3) := by decide +kernel
theorem dX7_many_60 : decode cX7_many 60 = .ok (.ireturn, 1) := by decide +kernel
theorem dX7_many_61 : decode cX7_many 61 = .ok (.bipush (-2), 2) := by decide +kernel
theorem dX7_many_63 : decode cX7_many 63 = .ok (.ireturn, 1) := by decide +kernel
set_option maxRecDepth 20000 in
theorem ggX7_lineBody_X7_leaveInTrace : GoodIn wsX7_lineBody wsX7_leaveInTrace := goodIn_r _ [6, 7, 8, 9, 10, 11, 12, 13, 14, 15, 16] (by decide +kernel) (by decide +kernel)
set_option maxRecDepth 20000 in
theorem gX7_lineBody_X7_leaveInTrace : GoodIn wsX7_lineBody (wsV RX7 248 RX7 yX7_leaveInTrace wsX7_leaveInTrace) := goodIn_app (goodIn_of _ (by decide +kernel)) ggX7_lineBody_X7_leaveInTrace
theorem dX7_lineBody_0 : decode cX7_lineBody 0 = .ok (.aload_n 0, 1) := by decide +kernel
theorem dX7_lineBody_1 : decode cX7_lineBody 1 = .ok (.iconst 1, 1) := by decide +kernel
theorem dX7_lineBody_2 : decode cX7_lineBody 2 = .ok (.invokevirtual 248, 3) := by decide +kernel
theorem dX7_lineBody_5 : decode cX7_lineBody 5 = .ok (.aload_n 0, 1) := by decide +kernel
theorem dX7_lineBody_6 : decode cX7_lineBody 6 = .ok (.getfield 21, 3) := by decide +kernel
theorem dX7_lineBody_9 : decode cX7_lineBody 9 = .ok (.getfield 96, 3) := by decide +kernel
theorem dX7_lineBody_12 : decode cX7_lineBody 12 = .ok (.iload_n 1, 1) := by decide +kernel
theorem dX7_lineBody_13 : decode cX7_lineBody 13 = .ok (.iaload, 1) := by decide +kernel
theorem dX7_lineBody_14 : decode cX7_lineBody 14 = .ok (.ireturn, 1) := by decide +kernel
set_option maxRecDepth 20000 in
theorem ggX7_dashBody_X7_leaveInTrace : GoodIn wsX7_dashBody wsX7_leaveInTrace := goodIn_r _ [5, 6, 12, 13, 14, 15, 16, 17, 18, 19, 20] (by decide +kernel) (by decide +kernel)
set_option maxRecDepth 20000 in
theorem gX7_dashBody_X7_leaveInTrace : GoodIn wsX7_dashBody (wsV RX7 248 RX7 yX7_leaveInTrace wsX7_leaveInTrace) := goodIn_app (goodIn_of _ (by decide +kernel)) ggX7_dashBody_X7_leaveInTrace
set_option maxRecDepth 20000 in
theorem ggX7_dashBody_X7_lineBody : GoodIn wsX7_dashBody wsX7_lineBody := goodIn_r _ [10, 11, 1, 2, 3, 4, 5, 6, 12, 13, 14, 15, 16, 17, 18, 19, 20, 21, 22, 23, 24, 25, 26] (by decide +kernel) (by decide +kernel)
set_option maxRecDepth 20000 in
theorem gX7_dashBody_X7_lineBody : GoodIn wsX7_dashBody (wsV RX7 245 RX7 yX7_lineBody wsX7_lineBody) := goodIn_app (goodIn_of _ (by decide +kernel)) ggX7_dashBody_X7_lineBody
theorem dX7_dashBody_0 : decode cX7_dashBody 0 = .ok (.aload_n 0, 1) := by decide +kernel
theorem dX7_dashBody_1 : decode cX7_dashBody 1 = .ok (.iconst 2, 1) := by decide +kernel
theorem dX7_dashBody_2 : decode cX7_dashBody 2 = .ok (.invokevirtual 248, 3) := by decide +kernel
theorem dX7_dashBody_5 : decode cX7_dashBody 5 = .ok (.aload_n 0, 1) := by decide +kernel
theorem dX7_dashBody_6 : decode cX7_dashBody 6 = .ok (.iload_n 1, 1) := by decide +kernel
theorem dX7_dashBody_7 : decode cX7_dashBody 7 = .ok (.invokevirtual 245, 3) := by decide +kernel
theorem dX7_dashBody_10 : decode cX7_dashBody 10 = .ok (.bipush 100, 2) := by decide +kernel
theorem dX7_dashBody_12 : decode cX7_dashBody 12 = .ok (.iadd, 1) := by decide +kernel
theorem dX7_dashBody_13 : decode cX7_dashBody 13 = .ok (.ireturn, 1) := by decide +kernel
set_option maxRecDepth 20000 in
theorem ggX7_boldBody_X7_leaveInTrace : GoodIn wsX7_boldBody wsX7_leaveInTrace := goodIn_r _ [5, 6, 16, 17, 18, 19, 20, 21, 22, 23, 24] (by decide +kernel) (by decide +kernel)
set_option maxRecDepth 20000 in
theorem gX7_boldBody_X7_leaveInTrace : GoodIn wsX7_boldBody (wsV RX7 248 RX7 yX7_leaveInTrace wsX7_leaveInTrace) := goodIn_app (goodIn_of _ (by decide +kernel)) ggX7_boldBody_X7_leaveInTrace
set_option maxRecDepth 20000 in
theorem ggX7_boldBody_X7_dashBody : GoodIn wsX7_boldBody wsX7_dashBody := goodIn_r _ [10, 1, 2, 3, 4, 5, 6, 11, 12, 13, 14, 15, 16, 17, 18, 19, 20, 21, 22, 23, 24, 25, 26, 27, 28, 29, 30] (by decide +kernel) (by decide +kernel)
set_option maxRecDepth 20000 in
theorem gX7_boldBody_X7_dashBody : GoodIn wsX7_boldBody (wsV RX7 239 RX7 yX7_dashBody wsX7_dashBody) := goodIn_app (goodIn_of _ (by decide +kernel)) ggX7_boldBody_X7_dashBody
set_option maxRecDepth 20000 in
theorem ggX7_boldBody_X7_lineBody : GoodIn wsX7_boldBody wsX7_lineBody := goodIn_r _ [14, 15, 1, 2, 3, 4, 5, 6, 16, 17, 18, 19, 20, 21, 22, 23, 24, 25, 26, 27, 28, 29, 30] (by decide +kernel) (by decide +kernel)
set_option maxRecDepth 20000 in
theorem gX7_boldBody_X7_lineBody : GoodIn wsX7_boldBody (wsV RX7 245 RX7 yX7_lineBody wsX7_lineBody) := goodIn_app (goodIn_of _ (by decide +kernel)) ggX7_boldBody_X7_lineBody
theorem dX7_boldBody_0 : decode cX7_boldBody 0 = .ok (.aload_n 0, 1) := by decide +kernel
theorem dX7_boldBody_1 : decode cX7_boldBody 1 = .ok (.iconst 3, 1) := by decide +kernel
theorem dX7_boldBody_2 : decode cX7_boldBody 2 = .ok (.invokevirtual 248, 3) := by decide +kernel
theorem dX7_boldBody_5 : decode cX7_boldBody 5 = .ok (.aload_n 0, 1) := by decide +kernel
theorem dX7_boldBody_6 : decode cX7_boldBody 6 = .ok (.iload_n 1, 1) := by decide +kernel
theorem dX7_boldBody_7 : decode cX7_boldBody 7 = .ok (.invokevirtual 239, 3) := by decide +kernel
theorem dX7_boldBody_10 : decode cX7_boldBody 10 = .ok (.istore_n 2, 1) := by decide +kernel
theorem dX7_boldBody_11 : decode cX7_boldBody 11 = .ok (.iload_n 2, 1) := by decide +kernel
theorem dX7_boldBody_12 : decode cX7_boldBody 12 = .ok (.aload_n 0, 1) := by decide +kernel
theorem dX7_boldBody_13 : decode cX7_boldBody 13 = .ok (.iload_n 1, 1) := by decide +kernel
theorem dX7_boldBody_14 : decode cX7_boldBody 14 = .ok (.invokevirtual 245, 3) := by decide +kernel
theorem dX7_boldBody_17 : decode cX7_boldBody 17 = .ok (.iadd, 1) := by decide +kernel
theorem dX7_boldBody_18 : decode cX7_boldBody 18 = .ok (.ireturn, 1) := by decide +kernel
theorem dX7_leaveInTrace_0 : decode cX7_leaveInTrace 0 = .ok (.aload_n 0, 1) := by decide +kernel
theorem dX7_leaveInTrace_1 : decode cX7_leaveInTrace 1 = .ok (.bipush 31, 2) := by decide +kernel
theorem dX7_leaveInTrace_3 : decode cX7_leaveInTrace 3 = .ok (.aload_n 0, 1) := by decide +kernel
theorem dX7_leaveInTrace_4 : decode cX7_leaveInTrace 4 = .ok (.getfield 254, 3) := by decide +kernel
theorem dX7_leaveInTrace_7 : decode cX7_leaveInTrace 7 = .ok (.imul, 1) := by decide +kernel
theorem dX7_leaveInTrace_8 : decode cX7_leaveInTrace 8 = .ok (.iload_n 1, 1) := by decide +kernel
theorem dX7_leaveInTrace_9 : decode cX7_leaveInTrace 9 = .ok (.iadd, 1) := by decide +kernel
theorem dX7_leaveInTrace_10 : decode cX7_leaveInTrace 10 = .ok (.putfield 254, 3) := by decide +kernel
theorem dX7_leaveInTrace_13 : decode cX7_leaveInTrace 13 = .ok (.return_, 1) := by decide +kernel
theorem dX7_faulted_0 : decode cX7_faulted 0 = .ok (.aload_n 0, 1) := by decide +kernel
theorem dX7_faulted_1 : decode cX7_faulted 1 = .ok (.iload_n 1, 1) := by decide +kernel
theorem dX7_faulted_2 : decode cX7_faulted 2 = .ok (.putfield 53, 3) := by decide +kernel
theorem dX7_faulted_5 : decode cX7_faulted 5 = .ok (.bipush (-10), 2) := by decide +kernel
theorem dX7_faulted_7 : decode cX7_faulted 7 = .ok (.iload_n 1, 1) := by decide +kernel
theorem dX7_faulted_8 : decode cX7_faulted 8 = .ok (.isub, 1) := by decide +kernel
theorem dX7_faulted_9 : decode cX7_faulted 9 = .ok (.ireturn, 1) := by decide +kernel
theorem dX7_isSheet_0 : decode cX7_isSheet 0 = .ok (.iload_n 0, 1) := by decide +kernel
theorem dX7_isSheet_1 : decode cX7_isSheet 1 = .ok (.ifCond .lt 12, 3) := by decide +kernel
theorem dX7_isSheet_4 : decode cX7_isSheet 4 = .ok (.iload_n 0, 1) := by decide +kernel
theorem dX7_isSheet_5 : decode cX7_isSheet 5 = .ok (.iconst 4, 1) := by decide +kernel
theorem dX7_isSheet_6 : decode cX7_isSheet 6 = .ok (.if_icmp .ge 7, 3) := by decide +kernel
theorem dX7_isSheet_9 : decode cX7_isSheet 9 = .ok (.iconst 1, 1) := by decide +kernel
theorem dX7_isSheet_10 : decode cX7_isSheet 10 = .ok (.goto 4, 3) := by decide +kernel
theorem dX7_isSheet_13 : decode cX7_isSheet 13 = .ok (.iconst 0, 1) := by decide +kernel
theorem dX7_isSheet_14 : decode cX7_isSheet 14 = .ok (.ireturn, 1) := by decide +kernel
theorem dX7_isLane_0 : decode cX7_isLane 0 = .ok (.iload_n 0, 1) := by decide +kernel
theorem dX7_isLane_1 : decode cX7_isLane 1 = .ok (.ifCond .lt 12, 3) := by decide +kernel
theorem dX7_isLane_4 : decode cX7_isLane 4 = .ok (.iload_n 0, 1) := by decide +kernel
theorem dX7_isLane_5 : decode cX7_isLane 5 = .ok (.iconst 2, 1) := by decide +kernel
theorem dX7_isLane_6 : decode cX7_isLane 6 = .ok (.if_icmp .gt 7, 3) := by decide +kernel
theorem dX7_isLane_9 : decode cX7_isLane 9 = .ok (.iconst 1, 1) := by decide +kernel
theorem dX7_isLane_10 : decode cX7_isLane 10 = .ok (.goto 4, 3) := by decide +kernel
theorem dX7_isLane_13 : decode cX7_isLane 13 = .ok (.iconst 0, 1) := by decide +kernel
theorem dX7_isLane_14 : decode cX7_isLane 14 = .ok (.ireturn, 1) := by decide +kernel
theorem dX7_isKind_0 : decode cX7_isKind 0 = .ok (.iload_n 0, 1) := by decide +kernel
theorem dX7_isKind_1 : decode cX7_isKind 1 = .ok (.ifCond .lt 12, 3) := by decide +kernel
theorem dX7_isKind_4 : decode cX7_isKind 4 = .ok (.iload_n 0, 1) := by decide +kernel
theorem dX7_isKind_5 : decode cX7_isKind 5 = .ok (.iconst 2, 1) := by decide +kernel
theorem dX7_isKind_6 : decode cX7_isKind 6 = .ok (.if_icmp .gt 7, 3) := by decide +kernel
theorem dX7_isKind_9 : decode cX7_isKind 9 = .ok (.iconst 1, 1) := by decide +kernel
theorem dX7_isKind_10 : decode cX7_isKind 10 = .ok (.goto 4, 3) := by decide +kernel
theorem dX7_isKind_13 : decode cX7_isKind 13 = .ok (.iconst 0, 1) := by decide +kernel
theorem dX7_isKind_14 : decode cX7_isKind 14 = .ok (.ireturn, 1) := by decide +kernel
theorem dX7_isLeaf_0 : decode cX7_isLeaf 0 = .ok (.iload_n 0, 1) := by decide +kernel
theorem dX7_isLeaf_1 : decode cX7_isLeaf 1 = .ok (.ifCond .lt 13, 3) := by decide +kernel
theorem dX7_isLeaf_4 : decode cX7_isLeaf 4 = .ok (.iload_n 0, 1) := by decide +kernel
theorem dX7_isLeaf_5 : decode cX7_isLeaf 5 = .ok (.bipush 98, 2) := by decide +kernel
theorem dX7_isLeaf_7 : decode cX7_isLeaf 7 = .ok (.if_icmp .gt 7, 3) := by decide +kernel
theorem dX7_isLeaf_10 : decode cX7_isLeaf 10 = .ok (.iconst 1, 1) := by decide +kernel
theorem dX7_isLeaf_11 : decode cX7_isLeaf 11 = .ok (.goto 4, 3) := by decide +kernel
theorem dX7_isLeaf_14 : decode cX7_isLeaf 14 = .ok (.iconst 0, 1) := by decide +kernel
theorem dX7_isLeaf_15 : decode cX7_isLeaf 15 = .ok (.ireturn, 1) := by decide +kernel
theorem dX7_cutTo_0 : decode cX7_cutTo 0 = .ok (.iload_n 0, 1) := by decide +kernel
theorem dX7_cutTo_1 : decode cX7_cutTo 1 = .ok (.lookupswitch 33 #[(0, 27), (1, 30)], 27) := by decide +kernel
theorem dX7_cutTo_28 : decode cX7_cutTo 28 = .ok (.iload_n 1, 1) := by decide +kernel
theorem dX7_cutTo_29 : decode cX7_cutTo 29 = .ok (.i2b, 1) := by decide +kernel
theorem dX7_cutTo_30 : decode cX7_cutTo 30 = .ok (.ireturn, 1) := by decide +kernel
theorem dX7_cutTo_31 : decode cX7_cutTo 31 = .ok (.iload_n 1, 1) := by decide +kernel
theorem dX7_cutTo_32 : decode cX7_cutTo 32 = .ok (.i2s, 1) := by decide +kernel
theorem dX7_cutTo_33 : decode cX7_cutTo 33 = .ok (.ireturn, 1) := by decide +kernel
theorem dX7_cutTo_34 : decode cX7_cutTo 34 = .ok (.iload_n 1, 1) := by decide +kernel
theorem dX7_cutTo_35 : decode cX7_cutTo 35 = .ok (.ireturn, 1) := by decide +kernel
theorem dX7_greatestCommon_0 : decode cX7_greatestCommon 0 = .ok (.iload_n 0, 1) := by decide +kernel
theorem dX7_greatestCommon_1 : decode cX7_greatestCommon 1 = .ok (.istore_n 2, 1) := by decide +kernel
theorem dX7_greatestCommon_2 : decode cX7_greatestCommon 2 = .ok (.iload_n 1, 1) := by decide +kernel
theorem dX7_greatestCommon_3 : decode cX7_greatestCommon 3 = .ok (.istore_n 3, 1) := by decide +kernel
theorem dX7_greatestCommon_4 : decode cX7_greatestCommon 4 = .ok (.iconst 0, 1) := by decide +kernel
theorem dX7_greatestCommon_5 : decode cX7_greatestCommon 5 = .ok (.istore 4, 2) := by decide +kernel
theorem dX7_greatestCommon_7 : decode cX7_greatestCommon 7 = .ok (.iload 4, 2) := by decide +kernel
theorem dX7_greatestCommon_9 : decode cX7_greatestCommon 9 = .ok (.sipush 1000, 3) := by decide +kernel
theorem dX7_greatestCommon_12 : decode cX7_greatestCommon 12 = .ok (.if_icmp .ge 23, 3) := by decide +kernel
theorem dX7_greatestCommon_15 : decode cX7_greatestCommon 15 = .ok (.iload_n 3, 1) := by decide +kernel
theorem dX7_greatestCommon_16 : decode cX7_greatestCommon 16 = .ok (.ifCond .eq 19, 3) := by decide +kernel
theorem dX7_greatestCommon_19 : decode cX7_greatestCommon 19 = .ok (.iload_n 2, 1) := by decide +kernel
theorem dX7_greatestCommon_20 : decode cX7_greatestCommon 20 = .ok (.iload_n 3, 1) := by decide +kernel
theorem dX7_greatestCommon_21 : decode cX7_greatestCommon 21 = .ok (.irem, 1) := by decide +kernel
theorem dX7_greatestCommon_22 : decode cX7_greatestCommon 22 = .ok (.istore 5, 2) := by decide +kernel
theorem dX7_greatestCommon_24 : decode cX7_greatestCommon 24 = .ok (.iload_n 3, 1) := by decide +kernel
theorem dX7_greatestCommon_25 : decode cX7_greatestCommon 25 = .ok (.istore_n 2, 1) := by decide +kernel
theorem dX7_greatestCommon_26 : decode cX7_greatestCommon 26 = .ok (.iload 5, 2) := by decide +kernel
theorem dX7_greatestCommon_28 : decode cX7_greatestCommon 28 = .ok (.istore_n 3, 1) := by decide +kernel
theorem dX7_greatestCommon_29 : decode cX7_greatestCommon 29 = .ok (.iinc 4 1, 3) := by decide +kernel
theorem dX7_greatestCommon_32 : decode cX7_greatestCommon 32 = .ok (.goto (-25), 3) := by decide +kernel
theorem dX7_greatestCommon_35 : decode cX7_greatestCommon 35 = .ok (.iload_n 2, 1) := by decide +kernel
theorem dX7_greatestCommon_36 : decode cX7_greatestCommon 36 = .ok (.ireturn, 1) := by decide +kernel
