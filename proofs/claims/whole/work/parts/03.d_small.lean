theorem dJ6_bitCount_0f7a4_0 : decode cJ6_bitCount_0f7a4 0 = .ok (.iload_n 0, 1) := by decide +kernel
theorem dJ6_bitCount_0f7a4_1 : decode cJ6_bitCount_0f7a4 1 = .ok (.iload_n 0, 1) := by decide +kernel
theorem dJ6_bitCount_0f7a4_2 : decode cJ6_bitCount_0f7a4 2 = .ok (.iconst 1, 1) := by decide +kernel
theorem dJ6_bitCount_0f7a4_3 : decode cJ6_bitCount_0f7a4 3 = .ok (.iushr, 1) := by decide +kernel
theorem dJ6_bitCount_0f7a4_4 : decode cJ6_bitCount_0f7a4 4 = .ok (.ldc_w 265, 3) := by decide +kernel
theorem dJ6_bitCount_0f7a4_7 : decode cJ6_bitCount_0f7a4 7 = .ok (.iand, 1) := by decide +kernel
theorem dJ6_bitCount_0f7a4_8 : decode cJ6_bitCount_0f7a4 8 = .ok (.isub, 1) := by decide +kernel
theorem dJ6_bitCount_0f7a4_9 : decode cJ6_bitCount_0f7a4 9 = .ok (.istore_n 0, 1) := by decide +kernel
theorem dJ6_bitCount_0f7a4_10 : decode cJ6_bitCount_0f7a4 10 = .ok (.iload_n 0, 1) := by decide +kernel
theorem dJ6_bitCount_0f7a4_11 : decode cJ6_bitCount_0f7a4 11 = .ok (.ldc_w 266, 3) := by decide +kernel
theorem dJ6_bitCount_0f7a4_14 : decode cJ6_bitCount_0f7a4 14 = .ok (.iand, 1) := by decide +kernel
theorem dJ6_bitCount_0f7a4_15 : decode cJ6_bitCount_0f7a4 15 = .ok (.iload_n 0, 1) := by decide +kernel
theorem dJ6_bitCount_0f7a4_16 : decode cJ6_bitCount_0f7a4 16 = .ok (.iconst 2, 1) := by decide +kernel
theorem dJ6_bitCount_0f7a4_17 : decode cJ6_bitCount_0f7a4 17 = .ok (.iushr, 1) := by decide +kernel
theorem dJ6_bitCount_0f7a4_18 : decode cJ6_bitCount_0f7a4 18 = .ok (.ldc_w 266, 3) := by decide +kernel
theorem dJ6_bitCount_0f7a4_21 : decode cJ6_bitCount_0f7a4 21 = .ok (.iand, 1) := by decide +kernel
theorem dJ6_bitCount_0f7a4_22 : decode cJ6_bitCount_0f7a4 22 = .ok (.iadd, 1) := by decide +kernel
theorem dJ6_bitCount_0f7a4_23 : decode cJ6_bitCount_0f7a4 23 = .ok (.istore_n 0, 1) := by decide +kernel
theorem dJ6_bitCount_0f7a4_24 : decode cJ6_bitCount_0f7a4 24 = .ok (.iload_n 0, 1) := by decide +kernel
theorem dJ6_bitCount_0f7a4_25 : decode cJ6_bitCount_0f7a4 25 = .ok (.iload_n 0, 1) := by decide +kernel
theorem dJ6_bitCount_0f7a4_26 : decode cJ6_bitCount_0f7a4 26 = .ok (.iconst 4, 1) := by decide +kernel
theorem dJ6_bitCount_0f7a4_27 : decode cJ6_bitCount_0f7a4 27 = .ok (.iushr, 1) := by decide +kernel
theorem dJ6_bitCount_0f7a4_28 : decode cJ6_bitCount_0f7a4 28 = .ok (.iadd, 1) := by decide +kernel
theorem dJ6_bitCount_0f7a4_29 : decode cJ6_bitCount_0f7a4 29 = .ok (.ldc_w 267, 3) := by decide +kernel
theorem dJ6_bitCount_0f7a4_32 : decode cJ6_bitCount_0f7a4 32 = .ok (.iand, 1) := by decide +kernel
theorem dJ6_bitCount_0f7a4_33 : decode cJ6_bitCount_0f7a4 33 = .ok (.istore_n 0, 1) := by decide +kernel
theorem dJ6_bitCount_0f7a4_34 : decode cJ6_bitCount_0f7a4 34 = .ok (.iload_n 0, 1) := by decide +kernel
theorem dJ6_bitCount_0f7a4_35 : decode cJ6_bitCount_0f7a4 35 = .ok (.iload_n 0, 1) := by decide +kernel
theorem dJ6_bitCount_0f7a4_36 : decode cJ6_bitCount_0f7a4 36 = .ok (.bipush 8, 2) := by decide +kernel
theorem dJ6_bitCount_0f7a4_38 : decode cJ6_bitCount_0f7a4 38 = .ok (.iushr, 1) := by decide +kernel
theorem dJ6_bitCount_0f7a4_39 : decode cJ6_bitCount_0f7a4 39 = .ok (.iadd, 1) := by decide +kernel
theorem dJ6_bitCount_0f7a4_40 : decode cJ6_bitCount_0f7a4 40 = .ok (.istore_n 0, 1) := by decide +kernel
theorem dJ6_bitCount_0f7a4_41 : decode cJ6_bitCount_0f7a4 41 = .ok (.iload_n 0, 1) := by decide +kernel
theorem dJ6_bitCount_0f7a4_42 : decode cJ6_bitCount_0f7a4 42 = .ok (.iload_n 0, 1) := by decide +kernel
theorem dJ6_bitCount_0f7a4_43 : decode cJ6_bitCount_0f7a4 43 = .ok (.bipush 16, 2) := by decide +kernel
theorem dJ6_bitCount_0f7a4_45 : decode cJ6_bitCount_0f7a4 45 = .ok (.iushr, 1) := by decide +kernel
theorem dJ6_bitCount_0f7a4_46 : decode cJ6_bitCount_0f7a4 46 = .ok (.iadd, 1) := by decide +kernel
theorem dJ6_bitCount_0f7a4_47 : decode cJ6_bitCount_0f7a4 47 = .ok (.istore_n 0, 1) := by decide +kernel
theorem dJ6_bitCount_0f7a4_48 : decode cJ6_bitCount_0f7a4 48 = .ok (.iload_n 0, 1) := by decide +kernel
theorem dJ6_bitCount_0f7a4_49 : decode cJ6_bitCount_0f7a4 49 = .ok (.bipush 63, 2) := by decide +kernel
theorem dJ6_bitCount_0f7a4_51 : decode cJ6_bitCount_0f7a4 51 = .ok (.iand, 1) := by decide +kernel
theorem dJ6_bitCount_0f7a4_52 : decode cJ6_bitCount_0f7a4 52 = .ok (.ireturn, 1) := by decide +kernel
theorem dJ9_min_7cf53_0 : decode cJ9_min_7cf53 0 = .ok (.iload_n 0, 1) := by decide +kernel
theorem dJ9_min_7cf53_1 : decode cJ9_min_7cf53 1 = .ok (.iload_n 1, 1) := by decide +kernel
theorem dJ9_min_7cf53_2 : decode cJ9_min_7cf53 2 = .ok (.if_icmp .gt 7, 3) := by decide +kernel
theorem dJ9_min_7cf53_5 : decode cJ9_min_7cf53 5 = .ok (.iload_n 0, 1) := by decide +kernel
theorem dJ9_min_7cf53_6 : decode cJ9_min_7cf53 6 = .ok (.goto 4, 3) := by decide +kernel
theorem dJ9_min_7cf53_9 : decode cJ9_min_7cf53 9 = .ok (.iload_n 1, 1) := by decide +kernel
theorem dJ9_min_7cf53_10 : decode cJ9_min_7cf53 10 = .ok (.ireturn, 1) := by decide +kernel
theorem dX0_init_0 : decode cX0_init 0 = .ok (.aload_n 0, 1) := by decide +kernel
theorem dX0_init_1 : decode cX0_init 1 = .ok (.invokespecial 3, 3) := by decide +kernel
theorem dX0_init_4 : decode cX0_init 4 = .ok (.aload_n 0, 1) := by decide +kernel
theorem dX0_init_5 : decode cX0_init 5 = .ok (.bipush 7, 2) := by decide +kernel
theorem dX0_init_7 : decode cX0_init 7 = .ok (.newarray .int, 2) := by decide +kernel
theorem dX0_init_9 : decode cX0_init 9 = .ok (.putfield 9, 3) := by decide +kernel
theorem dX0_init_12 : decode cX0_init 12 = .ok (.aload_n 0, 1) := by decide +kernel
theorem dX0_init_13 : decode cX0_init 13 = .ok (.sipush 128, 3) := by decide +kernel
theorem dX0_init_16 : decode cX0_init 16 = .ok (.newarray .int, 2) := by decide +kernel
theorem dX0_init_18 : decode cX0_init 18 = .ok (.putfield 15, 3) := by decide +kernel
theorem dX0_init_21 : decode cX0_init 21 = .ok (.return_, 1) := by decide +kernel
theorem dX0_begin_0 : decode cX0_begin 0 = .ok (.aload_n 0, 1) := by decide +kernel
theorem dX0_begin_1 : decode cX0_begin 1 = .ok (.iload_n 1, 1) := by decide +kernel
theorem dX0_begin_2 : decode cX0_begin 2 = .ok (.putfield 18, 3) := by decide +kernel
theorem dX0_begin_5 : decode cX0_begin 5 = .ok (.iconst 0, 1) := by decide +kernel
theorem dX0_begin_6 : decode cX0_begin 6 = .ok (.istore_n 2, 1) := by decide +kernel
theorem dX0_begin_7 : decode cX0_begin 7 = .ok (.iload_n 2, 1) := by decide +kernel
theorem dX0_begin_8 : decode cX0_begin 8 = .ok (.bipush 7, 2) := by decide +kernel
theorem dX0_begin_10 : decode cX0_begin 10 = .ok (.if_icmp .ge 16, 3) := by decide +kernel
theorem dX0_begin_13 : decode cX0_begin 13 = .ok (.aload_n 0, 1) := by decide +kernel
theorem dX0_begin_14 : decode cX0_begin 14 = .ok (.getfield 9, 3) := by decide +kernel
theorem dX0_begin_17 : decode cX0_begin 17 = .ok (.iload_n 2, 1) := by decide +kernel
theorem dX0_begin_18 : decode cX0_begin 18 = .ok (.iconst 0, 1) := by decide +kernel
theorem dX0_begin_19 : decode cX0_begin 19 = .ok (.iastore, 1) := by decide +kernel
theorem dX0_begin_20 : decode cX0_begin 20 = .ok (.iinc 2 1, 3) := by decide +kernel
theorem dX0_begin_23 : decode cX0_begin 23 = .ok (.goto (-16), 3) := by decide +kernel
theorem dX0_begin_26 : decode cX0_begin 26 = .ok (.return_, 1) := by decide +kernel
theorem dX0_putAhead_0 : decode cX0_putAhead 0 = .ok (.aload_n 0, 1) := by decide +kernel
theorem dX0_putAhead_1 : decode cX0_putAhead 1 = .ok (.getfield 9, 3) := by decide +kernel
theorem dX0_putAhead_4 : decode cX0_putAhead 4 = .ok (.iload_n 2, 1) := by decide +kernel
theorem dX0_putAhead_5 : decode cX0_putAhead 5 = .ok (.dup2, 1) := by decide +kernel
theorem dX0_putAhead_6 : decode cX0_putAhead 6 = .ok (.iaload, 1) := by decide +kernel
theorem dX0_putAhead_7 : decode cX0_putAhead 7 = .ok (.iconst 1, 1) := by decide +kernel
theorem dX0_putAhead_8 : decode cX0_putAhead 8 = .ok (.iload_n 1, 1) := by decide +kernel
theorem dX0_putAhead_9 : decode cX0_putAhead 9 = .ok (.ishl, 1) := by decide +kernel
theorem dX0_putAhead_10 : decode cX0_putAhead 10 = .ok (.ior, 1) := by decide +kernel
theorem dX0_putAhead_11 : decode cX0_putAhead 11 = .ok (.iastore, 1) := by decide +kernel
theorem dX0_putAhead_12 : decode cX0_putAhead 12 = .ok (.return_, 1) := by decide +kernel
theorem dX0_mayFollow_0 : decode cX0_mayFollow 0 = .ok (.iload_n 2, 1) := by decide +kernel
theorem dX0_mayFollow_1 : decode cX0_mayFollow 1 = .ok (.iload_n 1, 1) := by decide +kernel
theorem dX0_mayFollow_2 : decode cX0_mayFollow 2 = .ok (.ishr, 1) := by decide +kernel
theorem dX0_mayFollow_3 : decode cX0_mayFollow 3 = .ok (.iconst 1, 1) := by decide +kernel
theorem dX0_mayFollow_4 : decode cX0_mayFollow 4 = .ok (.iand, 1) := by decide +kernel
theorem dX0_mayFollow_5 : decode cX0_mayFollow 5 = .ok (.ifCond .ne 20, 3) := by decide +kernel
theorem dX0_mayFollow_8 : decode cX0_mayFollow 8 = .ok (.aload_n 0, 1) := by decide +kernel
theorem dX0_mayFollow_9 : decode cX0_mayFollow 9 = .ok (.getfield 9, 3) := by decide +kernel
theorem dX0_mayFollow_12 : decode cX0_mayFollow 12 = .ok (.iload_n 1, 1) := by decide +kernel
theorem dX0_mayFollow_13 : decode cX0_mayFollow 13 = .ok (.iaload, 1) := by decide +kernel
theorem dX0_mayFollow_14 : decode cX0_mayFollow 14 = .ok (.iload_n 2, 1) := by decide +kernel
theorem dX0_mayFollow_15 : decode cX0_mayFollow 15 = .ok (.iconst (-1), 1) := by decide +kernel
theorem dX0_mayFollow_16 : decode cX0_mayFollow 16 = .ok (.ixor, 1) := by decide +kernel
theorem dX0_mayFollow_17 : decode cX0_mayFollow 17 = .ok (.iand, 1) := by decide +kernel
theorem dX0_mayFollow_18 : decode cX0_mayFollow 18 = .ok (.ifCond .ne 7, 3) := by decide +kernel
theorem dX0_mayFollow_21 : decode cX0_mayFollow 21 = .ok (.iconst 1, 1) := by decide +kernel
theorem dX0_mayFollow_22 : decode cX0_mayFollow 22 = .ok (.goto 4, 3) := by decide +kernel
theorem dX0_mayFollow_25 : decode cX0_mayFollow 25 = .ok (.iconst 0, 1) := by decide +kernel
theorem dX0_mayFollow_26 : decode cX0_mayFollow 26 = .ok (.ireturn, 1) := by decide +kernel
set_option maxRecDepth 20000 in
theorem ggX0_howMany_X0_waysTo : GoodIn wsX0_howMany wsX0_waysTo := goodIn_r _ [7, 1, 2, 8, 9, 10, 6, 11, 12, 13, 14, 15] (by decide +kernel) (by decide +kernel)
set_option maxRecDepth 20000 in
theorem gX0_howMany_X0_waysTo : GoodIn wsX0_howMany (wsV RX0 22 RX0 yX0_waysTo wsX0_waysTo) := goodIn_app (goodIn_of _ (by decide +kernel)) ggX0_howMany_X0_waysTo
theorem dX0_howMany_0 : decode cX0_howMany 0 = .ok (.iconst 1, 1) := by decide +kernel
theorem dX0_howMany_1 : decode cX0_howMany 1 = .ok (.aload_n 0, 1) := by decide +kernel
theorem dX0_howMany_2 : decode cX0_howMany 2 = .ok (.getfield 18, 3) := by decide +kernel
theorem dX0_howMany_5 : decode cX0_howMany 5 = .ok (.ishl, 1) := by decide +kernel
theorem dX0_howMany_6 : decode cX0_howMany 6 = .ok (.iconst 1, 1) := by decide +kernel
theorem dX0_howMany_7 : decode cX0_howMany 7 = .ok (.isub, 1) := by decide +kernel
theorem dX0_howMany_8 : decode cX0_howMany 8 = .ok (.istore_n 1, 1) := by decide +kernel
theorem dX0_howMany_9 : decode cX0_howMany 9 = .ok (.aload_n 0, 1) := by decide +kernel
theorem dX0_howMany_10 : decode cX0_howMany 10 = .ok (.getfield 15, 3) := by decide +kernel
theorem dX0_howMany_13 : decode cX0_howMany 13 = .ok (.iconst 0, 1) := by decide +kernel
theorem dX0_howMany_14 : decode cX0_howMany 14 = .ok (.iconst 1, 1) := by decide +kernel
theorem dX0_howMany_15 : decode cX0_howMany 15 = .ok (.iastore, 1) := by decide +kernel
theorem dX0_howMany_16 : decode cX0_howMany 16 = .ok (.iconst 1, 1) := by decide +kernel
theorem dX0_howMany_17 : decode cX0_howMany 17 = .ok (.istore_n 2, 1) := by decide +kernel
theorem dX0_howMany_18 : decode cX0_howMany 18 = .ok (.iload_n 2, 1) := by decide +kernel
theorem dX0_howMany_19 : decode cX0_howMany 19 = .ok (.iload_n 1, 1) := by decide +kernel
theorem dX0_howMany_20 : decode cX0_howMany 20 = .ok (.if_icmp .gt 20, 3) := by decide +kernel
theorem dX0_howMany_23 : decode cX0_howMany 23 = .ok (.aload_n 0, 1) := by decide +kernel
theorem dX0_howMany_24 : decode cX0_howMany 24 = .ok (.getfield 15, 3) := by decide +kernel
theorem dX0_howMany_27 : decode cX0_howMany 27 = .ok (.iload_n 2, 1) := by decide +kernel
theorem dX0_howMany_28 : decode cX0_howMany 28 = .ok (.aload_n 0, 1) := by decide +kernel
theorem dX0_howMany_29 : decode cX0_howMany 29 = .ok (.iload_n 2, 1) := by decide +kernel
theorem dX0_howMany_30 : decode cX0_howMany 30 = .ok (.invokevirtual 22, 3) := by decide +kernel
theorem dX0_howMany_33 : decode cX0_howMany 33 = .ok (.iastore, 1) := by decide +kernel
theorem dX0_howMany_34 : decode cX0_howMany 34 = .ok (.iinc 2 1, 3) := by decide +kernel
theorem dX0_howMany_37 : decode cX0_howMany 37 = .ok (.goto (-19), 3) := by decide +kernel
theorem dX0_howMany_40 : decode cX0_howMany 40 = .ok (.aload_n 0, 1) := by decide +kernel
theorem dX0_howMany_41 : decode cX0_howMany 41 = .ok (.getfield 15, 3) := by decide +kernel
theorem dX0_howMany_44 : decode cX0_howMany 44 = .ok (.iload_n 1, 1) := by decide +kernel
theorem dX0_howMany_45 : decode cX0_howMany 45 = .ok (.iaload, 1) := by decide +kernel
theorem dX0_howMany_46 : decode cX0_howMany 46 = .ok (.ireturn, 1) := by decide +kernel
set_option maxRecDepth 20000 in
theorem ggX0_waysTo_X0_mayFollow : GoodIn wsX0_waysTo wsX0_mayFollow := goodIn_r _ [7, 8, 9, 10, 11] (by decide +kernel) (by decide +kernel)
set_option maxRecDepth 20000 in
theorem gX0_waysTo_X0_mayFollow : GoodIn wsX0_waysTo (wsV RX0 26 RX0 yX0_mayFollow wsX0_mayFollow) := goodIn_app (goodIn_of _ (by decide +kernel)) ggX0_waysTo_X0_mayFollow
theorem dX0_waysTo_0 : decode cX0_waysTo 0 = .ok (.iconst 0, 1) := by decide +kernel
theorem dX0_waysTo_1 : decode cX0_waysTo 1 = .ok (.istore_n 2, 1) := by decide +kernel
theorem dX0_waysTo_2 : decode cX0_waysTo 2 = .ok (.iconst 0, 1) := by decide +kernel
theorem dX0_waysTo_3 : decode cX0_waysTo 3 = .ok (.istore_n 3, 1) := by decide +kernel
theorem dX0_waysTo_4 : decode cX0_waysTo 4 = .ok (.iload_n 3, 1) := by decide +kernel
theorem dX0_waysTo_5 : decode cX0_waysTo 5 = .ok (.aload_n 0, 1) := by decide +kernel
theorem dX0_waysTo_6 : decode cX0_waysTo 6 = .ok (.getfield 18, 3) := by decide +kernel
theorem dX0_waysTo_9 : decode cX0_waysTo 9 = .ok (.if_icmp .ge 44, 3) := by decide +kernel
theorem dX0_waysTo_12 : decode cX0_waysTo 12 = .ok (.iload_n 1, 1) := by decide +kernel
theorem dX0_waysTo_13 : decode cX0_waysTo 13 = .ok (.iconst 1, 1) := by decide +kernel
theorem dX0_waysTo_14 : decode cX0_waysTo 14 = .ok (.iload_n 3, 1) := by decide +kernel
theorem dX0_waysTo_15 : decode cX0_waysTo 15 = .ok (.ishl, 1) := by decide +kernel
theorem dX0_waysTo_16 : decode cX0_waysTo 16 = .ok (.iconst (-1), 1) := by decide +kernel
theorem dX0_waysTo_17 : decode cX0_waysTo 17 = .ok (.ixor, 1) := by decide +kernel
theorem dX0_waysTo_18 : decode cX0_waysTo 18 = .ok (.iand, 1) := by decide +kernel
theorem dX0_waysTo_19 : decode cX0_waysTo 19 = .ok (.istore 4, 2) := by decide +kernel
theorem dX0_waysTo_21 : decode cX0_waysTo 21 = .ok (.iload 4, 2) := by decide +kernel
theorem dX0_waysTo_23 : decode cX0_waysTo 23 = .ok (.iload_n 1, 1) := by decide +kernel
theorem dX0_waysTo_24 : decode cX0_waysTo 24 = .ok (.if_icmp .eq 23, 3) := by decide +kernel
theorem dX0_waysTo_27 : decode cX0_waysTo 27 = .ok (.aload_n 0, 1) := by decide +kernel
theorem dX0_waysTo_28 : decode cX0_waysTo 28 = .ok (.iload_n 3, 1) := by decide +kernel
theorem dX0_waysTo_29 : decode cX0_waysTo 29 = .ok (.iload 4, 2) := by decide +kernel
theorem dX0_waysTo_31 : decode cX0_waysTo 31 = .ok (.invokevirtual 26, 3) := by decide +kernel
theorem dX0_waysTo_34 : decode cX0_waysTo 34 = .ok (.ifCond .eq 13, 3) := by decide +kernel
theorem dX0_waysTo_37 : decode cX0_waysTo 37 = .ok (.iload_n 2, 1) := by decide +kernel
theorem dX0_waysTo_38 : decode cX0_waysTo 38 = .ok (.aload_n 0, 1) := by decide +kernel
theorem dX0_waysTo_39 : decode cX0_waysTo 39 = .ok (.getfield 15, 3) := by decide +kernel
theorem dX0_waysTo_42 : decode cX0_waysTo 42 = .ok (.iload 4, 2) := by decide +kernel
theorem dX0_waysTo_44 : decode cX0_waysTo 44 = .ok (.iaload, 1) := by decide +kernel
theorem dX0_waysTo_45 : decode cX0_waysTo 45 = .ok (.iadd, 1) := by decide +kernel
theorem dX0_waysTo_46 : decode cX0_waysTo 46 = .ok (.istore_n 2, 1) := by decide +kernel
theorem dX0_waysTo_47 : decode cX0_waysTo 47 = .ok (.iinc 3 1, 3) := by decide +kernel
theorem dX0_waysTo_50 : decode cX0_waysTo 50 = .ok (.goto (-46), 3) := by decide +kernel
theorem dX0_waysTo_53 : decode cX0_waysTo 53 = .ok (.iload_n 2, 1) := by decide +kernel
theorem dX0_waysTo_54 : decode cX0_waysTo 54 = .ok (.ireturn, 1) := by decide +kernel
set_option maxRecDepth 20000 in
theorem ggX0_firstAt_X0_howMany : GoodIn wsX0_firstAt wsX0_howMany := goodIn_r _ [6, 1, 7, 8, 9, 10, 5, 11, 12, 13, 14, 15, 16, 21, 22, 23] (by decide +kernel) (by decide +kernel)
set_option maxRecDepth 20000 in
theorem gX0_firstAt_X0_howMany : GoodIn wsX0_firstAt (wsV RX0 30 RX0 yX0_howMany wsX0_howMany) := goodIn_app (goodIn_of _ (by decide +kernel)) ggX0_firstAt_X0_howMany
set_option maxRecDepth 20000 in
theorem ggX0_firstAt_X0_leastThatMayFollow : GoodIn wsX0_firstAt wsX0_leastThatMayFollow := goodIn_r _ [20, 1, 12, 13, 14, 5, 15, 16, 21, 22, 23] (by decide +kernel) (by decide +kernel)
set_option maxRecDepth 20000 in
theorem gX0_firstAt_X0_leastThatMayFollow : GoodIn wsX0_firstAt (wsV RX0 34 RX0 yX0_leastThatMayFollow wsX0_leastThatMayFollow) := goodIn_app (goodIn_of _ (by decide +kernel)) ggX0_firstAt_X0_leastThatMayFollow
theorem dX0_firstAt_0 : decode cX0_firstAt 0 = .ok (.iload_n 1, 1) := by decide +kernel
theorem dX0_firstAt_1 : decode cX0_firstAt 1 = .ok (.aload_n 0, 1) := by decide +kernel
theorem dX0_firstAt_2 : decode cX0_firstAt 2 = .ok (.getfield 18, 3) := by decide +kernel
theorem dX0_firstAt_5 : decode cX0_firstAt 5 = .ok (.if_icmp .ge 10, 3) := by decide +kernel
theorem dX0_firstAt_8 : decode cX0_firstAt 8 = .ok (.aload_n 0, 1) := by decide +kernel
theorem dX0_firstAt_9 : decode cX0_firstAt 9 = .ok (.invokevirtual 30, 3) := by decide +kernel
theorem dX0_firstAt_12 : decode cX0_firstAt 12 = .ok (.ifCond .ne 6, 3) := by decide +kernel
theorem dX0_firstAt_15 : decode cX0_firstAt 15 = .ok (.bipush (-9), 2) := by decide +kernel
theorem dX0_firstAt_17 : decode cX0_firstAt 17 = .ok (.ireturn, 1) := by decide +kernel
theorem dX0_firstAt_18 : decode cX0_firstAt 18 = .ok (.iconst 0, 1) := by decide +kernel
theorem dX0_firstAt_19 : decode cX0_firstAt 19 = .ok (.istore_n 2, 1) := by decide +kernel
theorem dX0_firstAt_20 : decode cX0_firstAt 20 = .ok (.bipush (-9), 2) := by decide +kernel
theorem dX0_firstAt_22 : decode cX0_firstAt 22 = .ok (.istore_n 3, 1) := by decide +kernel
theorem dX0_firstAt_23 : decode cX0_firstAt 23 = .ok (.iconst 0, 1) := by decide +kernel
theorem dX0_firstAt_24 : decode cX0_firstAt 24 = .ok (.istore 4, 2) := by decide +kernel
theorem dX0_firstAt_26 : decode cX0_firstAt 26 = .ok (.iload 4, 2) := by decide +kernel
theorem dX0_firstAt_28 : decode cX0_firstAt 28 = .ok (.iload_n 1, 1) := by decide +kernel
theorem dX0_firstAt_29 : decode cX0_firstAt 29 = .ok (.if_icmp .gt 30, 3) := by decide +kernel
theorem dX0_firstAt_32 : decode cX0_firstAt 32 = .ok (.aload_n 0, 1) := by decide +kernel
theorem dX0_firstAt_33 : decode cX0_firstAt 33 = .ok (.iload_n 2, 1) := by decide +kernel
theorem dX0_firstAt_34 : decode cX0_firstAt 34 = .ok (.invokevirtual 34, 3) := by decide +kernel
theorem dX0_firstAt_37 : decode cX0_firstAt 37 = .ok (.istore_n 3, 1) := by decide +kernel
theorem dX0_firstAt_38 : decode cX0_firstAt 38 = .ok (.iload_n 3, 1) := by decide +kernel
theorem dX0_firstAt_39 : decode cX0_firstAt 39 = .ok (.bipush (-9), 2) := by decide +kernel
theorem dX0_firstAt_41 : decode cX0_firstAt 41 = .ok (.if_icmp .ne 6, 3) := by decide +kernel
theorem dX0_firstAt_44 : decode cX0_firstAt 44 = .ok (.bipush (-9), 2) := by decide +kernel
theorem dX0_firstAt_46 : decode cX0_firstAt 46 = .ok (.ireturn, 1) := by decide +kernel
theorem dX0_firstAt_47 : decode cX0_firstAt 47 = .ok (.iload_n 2, 1) := by decide +kernel
theorem dX0_firstAt_48 : decode cX0_firstAt 48 = .ok (.iconst 1, 1) := by decide +kernel
theorem dX0_firstAt_49 : decode cX0_firstAt 49 = .ok (.iload_n 3, 1) := by decide +kernel
theorem dX0_firstAt_50 : decode cX0_firstAt 50 = .ok (.ishl, 1) := by decide +kernel
theorem dX0_firstAt_51 : decode cX0_firstAt 51 = .ok (.ior, 1) := by decide +kernel
theorem dX0_firstAt_52 : decode cX0_firstAt 52 = .ok (.istore_n 2, 1) := by decide +kernel
theorem dX0_firstAt_53 : decode cX0_firstAt 53 = .ok (.iinc 4 1, 3) := by decide +kernel
theorem dX0_firstAt_56 : decode cX0_firstAt 56 = .ok (.goto (-30), 3) := by decide +kernel
theorem dX0_firstAt_59 : decode cX0_firstAt 59 = .ok (.iload_n 3, 1) := by decide +kernel
theorem dX0_firstAt_60 : decode cX0_firstAt 60 = .ok (.ireturn, 1) := by decide +kernel
set_option maxRecDepth 20000 in
theorem ggX0_leastThatMayFollow_X0_mayFollow : GoodIn wsX0_leastThatMayFollow wsX0_mayFollow := goodIn_r _ [6, 7, 8, 9, 10] (by decide +kernel) (by decide +kernel)
set_option maxRecDepth 20000 in
theorem gX0_leastThatMayFollow_X0_mayFollow : GoodIn wsX0_leastThatMayFollow (wsV RX0 26 RX0 yX0_mayFollow wsX0_mayFollow) := goodIn_app (goodIn_of _ (by decide +kernel)) ggX0_leastThatMayFollow_X0_mayFollow
theorem dX0_leastThatMayFollow_0 : decode cX0_leastThatMayFollow 0 = .ok (.iconst 0, 1) := by decide +kernel
theorem dX0_leastThatMayFollow_1 : decode cX0_leastThatMayFollow 1 = .ok (.istore_n 2, 1) := by decide +kernel
theorem dX0_leastThatMayFollow_2 : decode cX0_leastThatMayFollow 2 = .ok (.iload_n 2, 1) := by decide +kernel
theorem dX0_leastThatMayFollow_3 : decode cX0_leastThatMayFollow 3 = .ok (.aload_n 0, 1) := by decide +kernel
theorem dX0_leastThatMayFollow_4 : decode cX0_leastThatMayFollow 4 = .ok (.getfield 18, 3) := by decide +kernel
theorem dX0_leastThatMayFollow_7 : decode cX0_leastThatMayFollow 7 = .ok (.if_icmp .ge 20, 3) := by decide +kernel
theorem dX0_leastThatMayFollow_10 : decode cX0_leastThatMayFollow 10 = .ok (.aload_n 0, 1) := by decide +kernel
theorem dX0_leastThatMayFollow_11 : decode cX0_leastThatMayFollow 11 = .ok (.iload_n 2, 1) := by decide +kernel
theorem dX0_leastThatMayFollow_12 : decode cX0_leastThatMayFollow 12 = .ok (.iload_n 1, 1) := by decide +kernel
theorem dX0_leastThatMayFollow_13 : decode cX0_leastThatMayFollow 13 = .ok (.invokevirtual 26, 3) := by decide +kernel
theorem dX0_leastThatMayFollow_16 : decode cX0_leastThatMayFollow 16 = .ok (.ifCond .eq 5, 3) := by decide +kernel
theorem dX0_leastThatMayFollow_19 : decode cX0_leastThatMayFollow 19 = .ok (.iload_n 2, 1) := by decide +kernel
theorem dX0_leastThatMayFollow_20 : decode cX0_leastThatMayFollow 20 = .ok (.ireturn, 1) := by decide +kernel
theorem dX0_leastThatMayFollow_21 : decode cX0_leastThatMayFollow 21 = .ok (.iinc 2 1, 3) := by decide +kernel
theorem dX0_leastThatMayFollow_24 : decode cX0_leastThatMayFollow 24 = .ok (.goto (-22), 3) := by decide +kernel
theorem dX0_leastThatMayFollow_27 : decode cX0_leastThatMayFollow 27 = .ok (.bipush (-9), 2) := by decide +kernel
theorem dX0_leastThatMayFollow_29 : decode cX0_leastThatMayFollow 29 = .ok (.ireturn, 1) := by decide +kernel
set_option maxRecDepth 20000 in
theorem ggX1_init_X4_init : GoodIn wsX1_init wsX4_init := goodIn_r _ [12, 13, 2, 3, 4, 14, 15, 16, 17, 25, 26, 27, 28, 29, 30] (by decide +kernel) (by decide +kernel)
set_option maxRecDepth 20000 in
theorem gX1_init_X4_init_n20 : GoodIn wsX1_init (wsX4_init) := ggX1_init_X4_init
theorem dX1_init_0 : decode cX1_init 0 = .ok (.aload_n 0, 1) := by decide +kernel
theorem dX1_init_1 : decode cX1_init 1 = .ok (.invokespecial 3, 3) := by decide +kernel
theorem dX1_init_4 : decode cX1_init 4 = .ok (.aload_n 0, 1) := by decide +kernel
theorem dX1_init_5 : decode cX1_init 5 = .ok (.bipush 8, 2) := by decide +kernel
theorem dX1_init_7 : decode cX1_init 7 = .ok (.newarray .int, 2) := by decide +kernel
theorem dX1_init_9 : decode cX1_init 9 = .ok (.putfield 9, 3) := by decide +kernel
theorem dX1_init_12 : decode cX1_init 12 = .ok (.aload_n 0, 1) := by decide +kernel
theorem dX1_init_13 : decode cX1_init 13 = .ok (.bipush 8, 2) := by decide +kernel
theorem dX1_init_15 : decode cX1_init 15 = .ok (.newarray .int, 2) := by decide +kernel
theorem dX1_init_17 : decode cX1_init 17 = .ok (.putfield 15, 3) := by decide +kernel
theorem dX1_init_20 : decode cX1_init 20 = .ok (.aload_n 0, 1) := by decide +kernel
theorem dX1_init_21 : decode cX1_init 21 = .ok (.new 18, 3) := by decide +kernel
theorem dX1_init_24 : decode cX1_init 24 = .ok (.dup, 1) := by decide +kernel
theorem dX1_init_25 : decode cX1_init 25 = .ok (.invokespecial 20, 3) := by decide +kernel
theorem dX1_init_28 : decode cX1_init 28 = .ok (.putfield 21, 3) := by decide +kernel
theorem dX1_init_31 : decode cX1_init 31 = .ok (.return_, 1) := by decide +kernel
theorem dX1_note_0 : decode cX1_note 0 = .ok (.aload_n 0, 1) := by decide +kernel
theorem dX1_note_1 : decode cX1_note 1 = .ok (.getfield 9, 3) := by decide +kernel
theorem dX1_note_4 : decode cX1_note 4 = .ok (.aload_n 0, 1) := by decide +kernel
theorem dX1_note_5 : decode cX1_note 5 = .ok (.getfield 25, 3) := by decide +kernel
theorem dX1_note_8 : decode cX1_note 8 = .ok (.iload_n 1, 1) := by decide +kernel
theorem dX1_note_9 : decode cX1_note 9 = .ok (.iastore, 1) := by decide +kernel
theorem dX1_note_10 : decode cX1_note 10 = .ok (.aload_n 0, 1) := by decide +kernel
theorem dX1_note_11 : decode cX1_note 11 = .ok (.getfield 15, 3) := by decide +kernel
theorem dX1_note_14 : decode cX1_note 14 = .ok (.aload_n 0, 1) := by decide +kernel
theorem dX1_note_15 : decode cX1_note 15 = .ok (.getfield 25, 3) := by decide +kernel
theorem dX1_note_18 : decode cX1_note 18 = .ok (.iload_n 2, 1) := by decide +kernel
theorem dX1_note_19 : decode cX1_note 19 = .ok (.iastore, 1) := by decide +kernel
theorem dX1_note_20 : decode cX1_note 20 = .ok (.aload_n 0, 1) := by decide +kernel
theorem dX1_note_21 : decode cX1_note 21 = .ok (.dup, 1) := by decide +kernel
theorem dX1_note_22 : decode cX1_note 22 = .ok (.getfield 25, 3) := by decide +kernel
theorem dX1_note_25 : decode cX1_note 25 = .ok (.iconst 1, 1) := by decide +kernel
theorem dX1_note_26 : decode cX1_note 26 = .ok (.iadd, 1) := by decide +kernel
theorem dX1_note_27 : decode cX1_note 27 = .ok (.putfield 25, 3) := by decide +kernel
theorem dX1_note_30 : decode cX1_note 30 = .ok (.aload_n 0, 1) := by decide +kernel
theorem dX1_note_31 : decode cX1_note 31 = .ok (.getfield 25, 3) := by decide +kernel
theorem dX1_note_34 : decode cX1_note 34 = .ok (.iconst 1, 1) := by decide +kernel
theorem dX1_note_35 : decode cX1_note 35 = .ok (.isub, 1) := by decide +kernel
theorem dX1_note_36 : decode cX1_note 36 = .ok (.ireturn, 1) := by decide +kernel
set_option maxRecDepth 20000 in
theorem ggX1_allAreSo_X4_leafOf : GoodIn wsX1_allAreSo wsX4_leafOf := goodIn_r _ [9, 10, 11, 12, 13, 8, 14, 15, 16, 17, 18, 19, 20, 21, 22, 23, 24, 25, 26, 34, 35, 36, 37, 38, 39] (by decide +kernel) (by decide +kernel)
set_option maxRecDepth 20000 in
theorem gX1_allAreSo_X4_leafOf : GoodIn wsX1_allAreSo (wsV RX1 29 RX4 yX4_leafOf wsX4_leafOf) := goodIn_app (goodIn_of _ (by decide +kernel)) ggX1_allAreSo_X4_leafOf
theorem dX1_allAreSo_0 : decode cX1_allAreSo 0 = .ok (.iconst 0, 1) := by decide +kernel
theorem dX1_allAreSo_1 : decode cX1_allAreSo 1 = .ok (.istore_n 1, 1) := by decide +kernel
theorem dX1_allAreSo_2 : decode cX1_allAreSo 2 = .ok (.iload_n 1, 1) := by decide +kernel
theorem dX1_allAreSo_3 : decode cX1_allAreSo 3 = .ok (.aload_n 0, 1) := by decide +kernel
theorem dX1_allAreSo_4 : decode cX1_allAreSo 4 = .ok (.getfield 25, 3) := by decide +kernel
theorem dX1_allAreSo_7 : decode cX1_allAreSo 7 = .ok (.if_icmp .ge 33, 3) := by decide +kernel
theorem dX1_allAreSo_10 : decode cX1_allAreSo 10 = .ok (.aload_n 0, 1) := by decide +kernel
theorem dX1_allAreSo_11 : decode cX1_allAreSo 11 = .ok (.getfield 21, 3) := by decide +kernel
theorem dX1_allAreSo_14 : decode cX1_allAreSo 14 = .ok (.aload_n 0, 1) := by decide +kernel
theorem dX1_allAreSo_15 : decode cX1_allAreSo 15 = .ok (.getfield 9, 3) := by decide +kernel
theorem dX1_allAreSo_18 : decode cX1_allAreSo 18 = .ok (.iload_n 1, 1) := by decide +kernel
theorem dX1_allAreSo_19 : decode cX1_allAreSo 19 = .ok (.iaload, 1) := by decide +kernel
theorem dX1_allAreSo_20 : decode cX1_allAreSo 20 = .ok (.invokevirtual 29, 3) := by decide +kernel
theorem dX1_allAreSo_23 : decode cX1_allAreSo 23 = .ok (.aload_n 0, 1) := by decide +kernel
theorem dX1_allAreSo_24 : decode cX1_allAreSo 24 = .ok (.getfield 15, 3) := by decide +kernel
theorem dX1_allAreSo_27 : decode cX1_allAreSo 27 = .ok (.iload_n 1, 1) := by decide +kernel
theorem dX1_allAreSo_28 : decode cX1_allAreSo 28 = .ok (.iaload, 1) := by decide +kernel
theorem dX1_allAreSo_29 : decode cX1_allAreSo 29 = .ok (.if_icmp .eq 5, 3) := by decide +kernel
theorem dX1_allAreSo_32 : decode cX1_allAreSo 32 = .ok (.iconst 0, 1) := by decide +kernel
theorem dX1_allAreSo_33 : decode cX1_allAreSo 33 = .ok (.ireturn, 1) := by decide +kernel
theorem dX1_allAreSo_34 : decode cX1_allAreSo 34 = .ok (.iinc 1 1, 3) := by decide +kernel
theorem dX1_allAreSo_37 : decode cX1_allAreSo 37 = .ok (.goto (-35), 3) := by decide +kernel
theorem dX1_allAreSo_40 : decode cX1_allAreSo 40 = .ok (.iconst 1, 1) := by decide +kernel
theorem dX1_allAreSo_41 : decode cX1_allAreSo 41 = .ok (.ireturn, 1) := by decide +kernel
set_option maxRecDepth 20000 in
theorem ggX1_tryPages_X4_becomeLike : GoodIn wsX1_tryPages wsX4_becomeLike := goodIn_r _ [9, 10, 11, 12, 13, 14, 15, 47, 48, 49, 50, 51, 52] (by decide +kernel) (by decide +kernel)
set_option maxRecDepth 20000 in
theorem gX1_tryPages_X4_becomeLike : GoodIn wsX1_tryPages (wsV RX1 33 RX4 yX4_becomeLike wsX4_becomeLike) := goodIn_app (goodIn_of _ (by decide +kernel)) ggX1_tryPages_X4_becomeLike
set_option maxRecDepth 20000 in
theorem ggX1_tryPages_X1_allAreSo : GoodIn wsX1_tryPages wsX1_allAreSo := goodIn_r _ [20, 21, 1, 22, 23, 24, 25, 26, 8, 27, 15, 28, 29, 30, 31, 10, 32, 33, 34, 35, 11, 36, 37, 38, 39, 12, 13, 40, 41, 42, 43, 44, 45, 46, 47, 48, 49, 50, 51, 52] (by decide +kernel) (by decide +kernel)
set_option maxRecDepth 20000 in
theorem gX1_tryPages_X1_allAreSo : GoodIn wsX1_tryPages (wsV RX1 49 RX1 yX1_allAreSo wsX1_allAreSo) := goodIn_app (goodIn_of _ (by decide +kernel)) ggX1_tryPages_X1_allAreSo
theorem dX1_tryPages_0 : decode cX1_tryPages 0 = .ok (.aload_n 0, 1) := by decide +kernel
theorem dX1_tryPages_1 : decode cX1_tryPages 1 = .ok (.getfield 21, 3) := by decide +kernel
theorem dX1_tryPages_4 : decode cX1_tryPages 4 = .ok (.aload_n 1, 1) := by decide +kernel
theorem dX1_tryPages_5 : decode cX1_tryPages 5 = .ok (.invokevirtual 33, 3) := by decide +kernel
theorem dX1_tryPages_8 : decode cX1_tryPages 8 = .ok (.aload_n 0, 1) := by decide +kernel
theorem dX1_tryPages_9 : decode cX1_tryPages 9 = .ok (.iconst 0, 1) := by decide +kernel
theorem dX1_tryPages_10 : decode cX1_tryPages 10 = .ok (.putfield 37, 3) := by decide +kernel
theorem dX1_tryPages_13 : decode cX1_tryPages 13 = .ok (.aload_n 0, 1) := by decide +kernel
theorem dX1_tryPages_14 : decode cX1_tryPages 14 = .ok (.bipush (-9), 2) := by decide +kernel
theorem dX1_tryPages_16 : decode cX1_tryPages 16 = .ok (.putfield 40, 3) := by decide +kernel
theorem dX1_tryPages_19 : decode cX1_tryPages 19 = .ok (.aload_n 0, 1) := by decide +kernel
theorem dX1_tryPages_20 : decode cX1_tryPages 20 = .ok (.bipush (-9), 2) := by decide +kernel
theorem dX1_tryPages_22 : decode cX1_tryPages 22 = .ok (.putfield 43, 3) := by decide +kernel
theorem dX1_tryPages_25 : decode cX1_tryPages 25 = .ok (.iconst 0, 1) := by decide +kernel
theorem dX1_tryPages_26 : decode cX1_tryPages 26 = .ok (.istore_n 3, 1) := by decide +kernel
theorem dX1_tryPages_27 : decode cX1_tryPages 27 = .ok (.iload_n 3, 1) := by decide +kernel
theorem dX1_tryPages_28 : decode cX1_tryPages 28 = .ok (.bipush 49, 2) := by decide +kernel
theorem dX1_tryPages_30 : decode cX1_tryPages 30 = .ok (.if_icmp .gt 62, 3) := by decide +kernel
theorem dX1_tryPages_33 : decode cX1_tryPages 33 = .ok (.aload_n 0, 1) := by decide +kernel
theorem dX1_tryPages_34 : decode cX1_tryPages 34 = .ok (.getfield 21, 3) := by decide +kernel
theorem dX1_tryPages_37 : decode cX1_tryPages 37 = .ok (.getfield 46, 3) := by decide +kernel
theorem dX1_tryPages_40 : decode cX1_tryPages 40 = .ok (.iload_n 2, 1) := by decide +kernel
theorem dX1_tryPages_41 : decode cX1_tryPages 41 = .ok (.iload_n 3, 1) := by decide +kernel
theorem dX1_tryPages_42 : decode cX1_tryPages 42 = .ok (.iastore, 1) := by decide +kernel
theorem dX1_tryPages_43 : decode cX1_tryPages 43 = .ok (.aload_n 0, 1) := by decide +kernel
theorem dX1_tryPages_44 : decode cX1_tryPages 44 = .ok (.invokevirtual 49, 3) := by decide +kernel
theorem dX1_tryPages_47 : decode cX1_tryPages 47 = .ok (.ifCond .eq 39, 3) := by decide +kernel
theorem dX1_tryPages_50 : decode cX1_tryPages 50 = .ok (.aload_n 0, 1) := by decide +kernel
theorem dX1_tryPages_51 : decode cX1_tryPages 51 = .ok (.dup, 1) := by decide +kernel
theorem dX1_tryPages_52 : decode cX1_tryPages 52 = .ok (.getfield 37, 3) := by decide +kernel
theorem dX1_tryPages_55 : decode cX1_tryPages 55 = .ok (.iconst 1, 1) := by decide +kernel
theorem dX1_tryPages_56 : decode cX1_tryPages 56 = .ok (.iadd, 1) := by decide +kernel
theorem dX1_tryPages_57 : decode cX1_tryPages 57 = .ok (.putfield 37, 3) := by decide +kernel
theorem dX1_tryPages_60 : decode cX1_tryPages 60 = .ok (.aload_n 0, 1) := by decide +kernel
theorem dX1_tryPages_61 : decode cX1_tryPages 61 = .ok (.aload_n 0, 1) := by decide +kernel
theorem dX1_tryPages_62 : decode cX1_tryPages 62 = .ok (.getfield 40, 3) := by decide +kernel
theorem dX1_tryPages_65 : decode cX1_tryPages 65 = .ok (.bipush (-9), 2) := by decide +kernel
theorem dX1_tryPages_67 : decode cX1_tryPages 67 = .ok (.if_icmp .ne 7, 3) := by decide +kernel
theorem dX1_tryPages_70 : decode cX1_tryPages 70 = .ok (.iload_n 3, 1) := by decide +kernel
theorem dX1_tryPages_71 : decode cX1_tryPages 71 = .ok (.goto 7, 3) := by decide +kernel
theorem dX1_tryPages_74 : decode cX1_tryPages 74 = .ok (.aload_n 0, 1) := by decide +kernel
theorem dX1_tryPages_75 : decode cX1_tryPages 75 = .ok (.getfield 40, 3) := by decide +kernel
theorem dX1_tryPages_78 : decode cX1_tryPages 78 = .ok (.putfield 40, 3) := by decide +kernel
theorem dX1_tryPages_81 : decode cX1_tryPages 81 = .ok (.aload_n 0, 1) := by decide +kernel
theorem dX1_tryPages_82 : decode cX1_tryPages 82 = .ok (.iload_n 3, 1) := by decide +kernel
theorem dX1_tryPages_83 : decode cX1_tryPages 83 = .ok (.putfield 43, 3) := by decide +kernel
theorem dX1_tryPages_86 : decode cX1_tryPages 86 = .ok (.iinc 3 1, 3) := by decide +kernel
theorem dX1_tryPages_89 : decode cX1_tryPages 89 = .ok (.goto (-62), 3) := by decide +kernel
theorem dX1_tryPages_92 : decode cX1_tryPages 92 = .ok (.return_, 1) := by decide +kernel
set_option maxRecDepth 20000 in
theorem ggX1_kindsOf_X4_becomeLike : GoodIn wsX1_kindsOf wsX4_becomeLike := goodIn_r _ [6, 7, 8, 9, 10, 11, 12, 44, 45, 46, 47, 48, 49] (by decide +kernel) (by decide +kernel)
set_option maxRecDepth 20000 in
theorem gX1_kindsOf_X4_becomeLike : GoodIn wsX1_kindsOf (wsV RX1 33 RX4 yX4_becomeLike wsX4_becomeLike) := goodIn_app (goodIn_of _ (by decide +kernel)) ggX1_kindsOf_X4_becomeLike
set_option maxRecDepth 20000 in
theorem ggX1_kindsOf_X1_allAreSo : GoodIn wsX1_kindsOf wsX1_allAreSo := goodIn_r _ [17, 18, 1, 19, 20, 21, 22, 23, 5, 24, 12, 25, 26, 27, 28, 7, 29, 30, 31, 32, 8, 33, 34, 35, 36, 9, 10, 37, 38, 39, 40, 41, 42, 43, 44, 45, 46, 47, 48, 49] (by decide +kernel) (by decide +kernel)
set_option maxRecDepth 20000 in
theorem gX1_kindsOf_X1_allAreSo : GoodIn wsX1_kindsOf (wsV RX1 49 RX1 yX1_allAreSo wsX1_allAreSo) := goodIn_app (goodIn_of _ (by decide +kernel)) ggX1_kindsOf_X1_allAreSo
theorem dX1_kindsOf_0 : decode cX1_kindsOf 0 = .ok (.aload_n 0, 1) := by decide +kernel
theorem dX1_kindsOf_1 : decode cX1_kindsOf 1 = .ok (.getfield 21, 3) := by decide +kernel
theorem dX1_kindsOf_4 : decode cX1_kindsOf 4 = .ok (.aload_n 1, 1) := by decide +kernel
theorem dX1_kindsOf_5 : decode cX1_kindsOf 5 = .ok (.invokevirtual 33, 3) := by decide +kernel
theorem dX1_kindsOf_8 : decode cX1_kindsOf 8 = .ok (.iconst 0, 1) := by decide +kernel
theorem dX1_kindsOf_9 : decode cX1_kindsOf 9 = .ok (.istore_n 3, 1) := by decide +kernel
theorem dX1_kindsOf_10 : decode cX1_kindsOf 10 = .ok (.iconst 0, 1) := by decide +kernel
theorem dX1_kindsOf_11 : decode cX1_kindsOf 11 = .ok (.istore 4, 2) := by decide +kernel
theorem dX1_kindsOf_13 : decode cX1_kindsOf 13 = .ok (.iload 4, 2) := by decide +kernel
theorem dX1_kindsOf_15 : decode cX1_kindsOf 15 = .ok (.iconst 2, 1) := by decide +kernel
theorem dX1_kindsOf_16 : decode cX1_kindsOf 16 = .ok (.if_icmp .gt 34, 3) := by decide +kernel
theorem dX1_kindsOf_19 : decode cX1_kindsOf 19 = .ok (.aload_n 0, 1) := by decide +kernel
theorem dX1_kindsOf_20 : decode cX1_kindsOf 20 = .ok (.getfield 21, 3) := by decide +kernel
theorem dX1_kindsOf_23 : decode cX1_kindsOf 23 = .ok (.getfield 53, 3) := by decide +kernel
theorem dX1_kindsOf_26 : decode cX1_kindsOf 26 = .ok (.iload_n 2, 1) := by decide +kernel
theorem dX1_kindsOf_27 : decode cX1_kindsOf 27 = .ok (.iload 4, 2) := by decide +kernel
theorem dX1_kindsOf_29 : decode cX1_kindsOf 29 = .ok (.iastore, 1) := by decide +kernel
theorem dX1_kindsOf_30 : decode cX1_kindsOf 30 = .ok (.aload_n 0, 1) := by decide +kernel
theorem dX1_kindsOf_31 : decode cX1_kindsOf 31 = .ok (.invokevirtual 49, 3) := by decide +kernel
theorem dX1_kindsOf_34 : decode cX1_kindsOf 34 = .ok (.ifCond .eq 10, 3) := by decide +kernel
theorem dX1_kindsOf_37 : decode cX1_kindsOf 37 = .ok (.iload_n 3, 1) := by decide +kernel
theorem dX1_kindsOf_38 : decode cX1_kindsOf 38 = .ok (.iconst 1, 1) := by decide +kernel
theorem dX1_kindsOf_39 : decode cX1_kindsOf 39 = .ok (.iload 4, 2) := by decide +kernel
theorem dX1_kindsOf_41 : decode cX1_kindsOf 41 = .ok (.ishl, 1) := by decide +kernel
theorem dX1_kindsOf_42 : decode cX1_kindsOf 42 = .ok (.ior, 1) := by decide +kernel
theorem dX1_kindsOf_43 : decode cX1_kindsOf 43 = .ok (.istore_n 3, 1) := by decide +kernel
theorem dX1_kindsOf_44 : decode cX1_kindsOf 44 = .ok (.iinc 4 1, 3) := by decide +kernel
theorem dX1_kindsOf_47 : decode cX1_kindsOf 47 = .ok (.goto (-34), 3) := by decide +kernel
theorem dX1_kindsOf_50 : decode cX1_kindsOf 50 = .ok (.iload_n 3, 1) := by decide +kernel
theorem dX1_kindsOf_51 : decode cX1_kindsOf 51 = .ok (.ireturn, 1) := by decide +kernel
set_option maxRecDepth 20000 in
theorem ggX1_seenOf_X4_becomeLike : GoodIn wsX1_seenOf wsX4_becomeLike := goodIn_r _ [6, 7, 8, 9, 10, 11, 12, 44, 45, 46, 47, 48, 49] (by decide +kernel) (by decide +kernel)
set_option maxRecDepth 20000 in
theorem gX1_seenOf_X4_becomeLike : GoodIn wsX1_seenOf (wsV RX1 33 RX4 yX4_becomeLike wsX4_becomeLike) := goodIn_app (goodIn_of _ (by decide +kernel)) ggX1_seenOf_X4_becomeLike
set_option maxRecDepth 20000 in
theorem ggX1_seenOf_X1_allAreSo : GoodIn wsX1_seenOf wsX1_allAreSo := goodIn_r _ [17, 18, 1, 19, 20, 21, 22, 23, 5, 24, 12, 25, 26, 27, 28, 7, 29, 30, 31, 32, 8, 33, 34, 35, 36, 9, 10, 37, 38, 39, 40, 41, 42, 43, 44, 45, 46, 47, 48, 49] (by decide +kernel) (by decide +kernel)
set_option maxRecDepth 20000 in
theorem gX1_seenOf_X1_allAreSo : GoodIn wsX1_seenOf (wsV RX1 49 RX1 yX1_allAreSo wsX1_allAreSo) := goodIn_app (goodIn_of _ (by decide +kernel)) ggX1_seenOf_X1_allAreSo
theorem dX1_seenOf_0 : decode cX1_seenOf 0 = .ok (.aload_n 0, 1) := by decide +kernel
theorem dX1_seenOf_1 : decode cX1_seenOf 1 = .ok (.getfield 21, 3) := by decide +kernel
theorem dX1_seenOf_4 : decode cX1_seenOf 4 = .ok (.aload_n 1, 1) := by decide +kernel
theorem dX1_seenOf_5 : decode cX1_seenOf 5 = .ok (.invokevirtual 33, 3) := by decide +kernel
theorem dX1_seenOf_8 : decode cX1_seenOf 8 = .ok (.iconst 0, 1) := by decide +kernel
theorem dX1_seenOf_9 : decode cX1_seenOf 9 = .ok (.istore_n 3, 1) := by decide +kernel
theorem dX1_seenOf_10 : decode cX1_seenOf 10 = .ok (.iconst 0, 1) := by decide +kernel
theorem dX1_seenOf_11 : decode cX1_seenOf 11 = .ok (.istore 4, 2) := by decide +kernel
theorem dX1_seenOf_13 : decode cX1_seenOf 13 = .ok (.iload 4, 2) := by decide +kernel
theorem dX1_seenOf_15 : decode cX1_seenOf 15 = .ok (.aload_n 0, 1) := by decide +kernel
theorem dX1_seenOf_16 : decode cX1_seenOf 16 = .ok (.getfield 21, 3) := by decide +kernel
theorem dX1_seenOf_19 : decode cX1_seenOf 19 = .ok (.getfield 56, 3) := by decide +kernel
theorem dX1_seenOf_22 : decode cX1_seenOf 22 = .ok (.if_icmp .ge 34, 3) := by decide +kernel
theorem dX1_seenOf_25 : decode cX1_seenOf 25 = .ok (.aload_n 0, 1) := by decide +kernel
theorem dX1_seenOf_26 : decode cX1_seenOf 26 = .ok (.getfield 21, 3) := by decide +kernel
theorem dX1_seenOf_29 : decode cX1_seenOf 29 = .ok (.getfield 57, 3) := by decide +kernel
theorem dX1_seenOf_32 : decode cX1_seenOf 32 = .ok (.iload_n 2, 1) := by decide +kernel
theorem dX1_seenOf_33 : decode cX1_seenOf 33 = .ok (.iload 4, 2) := by decide +kernel
theorem dX1_seenOf_35 : decode cX1_seenOf 35 = .ok (.iastore, 1) := by decide +kernel
theorem dX1_seenOf_36 : decode cX1_seenOf 36 = .ok (.aload_n 0, 1) := by decide +kernel
theorem dX1_seenOf_37 : decode cX1_seenOf 37 = .ok (.invokevirtual 49, 3) := by decide +kernel
theorem dX1_seenOf_40 : decode cX1_seenOf 40 = .ok (.ifCond .eq 10, 3) := by decide +kernel
theorem dX1_seenOf_43 : decode cX1_seenOf 43 = .ok (.iload_n 3, 1) := by decide +kernel
theorem dX1_seenOf_44 : decode cX1_seenOf 44 = .ok (.iconst 1, 1) := by decide +kernel
theorem dX1_seenOf_45 : decode cX1_seenOf 45 = .ok (.iload 4, 2) := by decide +kernel
theorem dX1_seenOf_47 : decode cX1_seenOf 47 = .ok (.ishl, 1) := by decide +kernel
theorem dX1_seenOf_48 : decode cX1_seenOf 48 = .ok (.ior, 1) := by decide +kernel
theorem dX1_seenOf_49 : decode cX1_seenOf 49 = .ok (.istore_n 3, 1) := by decide +kernel
theorem dX1_seenOf_50 : decode cX1_seenOf 50 = .ok (.iinc 4 1, 3) := by decide +kernel
theorem dX1_seenOf_53 : decode cX1_seenOf 53 = .ok (.goto (-40), 3) := by decide +kernel
theorem dX1_seenOf_56 : decode cX1_seenOf 56 = .ok (.aload_n 0, 1) := by decide +kernel
theorem dX1_seenOf_57 : decode cX1_seenOf 57 = .ok (.getfield 21, 3) := by decide +kernel
theorem dX1_seenOf_60 : decode cX1_seenOf 60 = .ok (.getfield 57, 3) := by decide +kernel
theorem dX1_seenOf_63 : decode cX1_seenOf 63 = .ok (.iload_n 2, 1) := by decide +kernel
theorem dX1_seenOf_64 : decode cX1_seenOf 64 = .ok (.bipush (-9), 2) := by decide +kernel
theorem dX1_seenOf_66 : decode cX1_seenOf 66 = .ok (.iastore, 1) := by decide +kernel
theorem dX1_seenOf_67 : decode cX1_seenOf 67 = .ok (.aload_n 0, 1) := by decide +kernel
theorem dX1_seenOf_68 : decode cX1_seenOf 68 = .ok (.invokevirtual 49, 3) := by decide +kernel
theorem dX1_seenOf_71 : decode cX1_seenOf 71 = .ok (.ifCond .eq 11, 3) := by decide +kernel
theorem dX1_seenOf_74 : decode cX1_seenOf 74 = .ok (.iload_n 3, 1) := by decide +kernel
theorem dX1_seenOf_75 : decode cX1_seenOf 75 = .ok (.sipush 128, 3) := by decide +kernel
theorem dX1_seenOf_78 : decode cX1_seenOf 78 = .ok (.ior, 1) := by decide +kernel
theorem dX1_seenOf_79 : decode cX1_seenOf 79 = .ok (.goto 4, 3) := by decide +kernel
theorem dX1_seenOf_82 : decode cX1_seenOf 82 = .ok (.iload_n 3, 1) := by decide +kernel
theorem dX1_seenOf_83 : decode cX1_seenOf 83 = .ok (.ireturn, 1) := by decide +kernel
theorem dX2_init_0 : decode cX2_init 0 = .ok (.aload_n 0, 1) := by decide +kernel
theorem dX2_init_1 : decode cX2_init 1 = .ok (.invokespecial 3, 3) := by decide +kernel
theorem dX2_init_4 : decode cX2_init 4 = .ok (.aload_n 0, 1) := by decide +kernel
theorem dX2_init_5 : decode cX2_init 5 = .ok (.bipush 60, 2) := by decide +kernel
theorem dX2_init_7 : decode cX2_init 7 = .ok (.newarray .int, 2) := by decide +kernel
theorem dX2_init_9 : decode cX2_init 9 = .ok (.putfield 9, 3) := by decide +kernel
theorem dX2_init_12 : decode cX2_init 12 = .ok (.return_, 1) := by decide +kernel
theorem dX2_renew_0 : decode cX2_renew 0 = .ok (.iconst 0, 1) := by decide +kernel
theorem dX2_renew_1 : decode cX2_renew 1 = .ok (.istore_n 3, 1) := by decide +kernel
theorem dX2_renew_2 : decode cX2_renew 2 = .ok (.iload_n 3, 1) := by decide +kernel
theorem dX2_renew_3 : decode cX2_renew 3 = .ok (.bipush 60, 2) := by decide +kernel
theorem dX2_renew_5 : decode cX2_renew 5 = .ok (.if_icmp .ge 16, 3) := by decide +kernel
theorem dX2_renew_8 : decode cX2_renew 8 = .ok (.aload_n 0, 1) := by decide +kernel
theorem dX2_renew_9 : decode cX2_renew 9 = .ok (.getfield 9, 3) := by decide +kernel
theorem dX2_renew_12 : decode cX2_renew 12 = .ok (.iload_n 3, 1) := by decide +kernel
theorem dX2_renew_13 : decode cX2_renew 13 = .ok (.iconst 0, 1) := by decide +kernel
theorem dX2_renew_14 : decode cX2_renew 14 = .ok (.iastore, 1) := by decide +kernel
theorem dX2_renew_15 : decode cX2_renew 15 = .ok (.iinc 3 1, 3) := by decide +kernel
theorem dX2_renew_18 : decode cX2_renew 18 = .ok (.goto (-16), 3) := by decide +kernel
theorem dX2_renew_21 : decode cX2_renew 21 = .ok (.aload_n 0, 1) := by decide +kernel
theorem dX2_renew_22 : decode cX2_renew 22 = .ok (.iconst 1, 1) := by decide +kernel
theorem dX2_renew_23 : decode cX2_renew 23 = .ok (.putfield 15, 3) := by decide +kernel
theorem dX2_renew_26 : decode cX2_renew 26 = .ok (.aload_n 0, 1) := by decide +kernel
theorem dX2_renew_27 : decode cX2_renew 27 = .ok (.iload_n 1, 1) := by decide +kernel
theorem dX2_renew_28 : decode cX2_renew 28 = .ok (.putfield 19, 3) := by decide +kernel
theorem dX2_renew_31 : decode cX2_renew 31 = .ok (.aload_n 0, 1) := by decide +kernel
theorem dX2_renew_32 : decode cX2_renew 32 = .ok (.iload_n 2, 1) := by decide +kernel
theorem dX2_renew_33 : decode cX2_renew 33 = .ok (.putfield 23, 3) := by decide +kernel
theorem dX2_renew_36 : decode cX2_renew 36 = .ok (.return_, 1) := by decide +kernel
theorem dX2_holds_0 : decode cX2_holds 0 = .ok (.iload_n 1, 1) := by decide +kernel
theorem dX2_holds_1 : decode cX2_holds 1 = .ok (.ifCond .lt 25, 3) := by decide +kernel
theorem dX2_holds_4 : decode cX2_holds 4 = .ok (.iload_n 1, 1) := by decide +kernel
theorem dX2_holds_5 : decode cX2_holds 5 = .ok (.aload_n 0, 1) := by decide +kernel
theorem dX2_holds_6 : decode cX2_holds 6 = .ok (.getfield 23, 3) := by decide +kernel
theorem dX2_holds_9 : decode cX2_holds 9 = .ok (.if_icmp .gt 17, 3) := by decide +kernel
theorem dX2_holds_12 : decode cX2_holds 12 = .ok (.iload_n 2, 1) := by decide +kernel
theorem dX2_holds_13 : decode cX2_holds 13 = .ok (.aload_n 0, 1) := by decide +kernel
theorem dX2_holds_14 : decode cX2_holds 14 = .ok (.getfield 23, 3) := by decide +kernel
theorem dX2_holds_17 : decode cX2_holds 17 = .ok (.iload_n 1, 1) := by decide +kernel
theorem dX2_holds_18 : decode cX2_holds 18 = .ok (.isub, 1) := by decide +kernel
theorem dX2_holds_19 : decode cX2_holds 19 = .ok (.if_icmp .gt 7, 3) := by decide +kernel
theorem dX2_holds_22 : decode cX2_holds 22 = .ok (.iconst 1, 1) := by decide +kernel
theorem dX2_holds_23 : decode cX2_holds 23 = .ok (.goto 4, 3) := by decide +kernel
theorem dX2_holds_26 : decode cX2_holds 26 = .ok (.iconst 0, 1) := by decide +kernel
theorem dX2_holds_27 : decode cX2_holds 27 = .ok (.ireturn, 1) := by decide +kernel
set_option maxRecDepth 20000 in
theorem ggX2_faultAsLane_X2_holds : GoodIn wsX2_faultAsLane wsX2_holds := goodIn_r _ [7, 8, 9, 10, 11, 12] (by decide +kernel) (by decide +kernel)
set_option maxRecDepth 20000 in
theorem gX2_faultAsLane_X2_holds : GoodIn wsX2_faultAsLane (wsV RX2 26 RX2 yX2_holds wsX2_holds) := goodIn_app (goodIn_of _ (by decide +kernel)) ggX2_faultAsLane_X2_holds
theorem dX2_faultAsLane_0 : decode cX2_faultAsLane 0 = .ok (.aload_n 0, 1) := by decide +kernel
theorem dX2_faultAsLane_1 : decode cX2_faultAsLane 1 = .ok (.getfield 15, 3) := by decide +kernel
theorem dX2_faultAsLane_4 : decode cX2_faultAsLane 4 = .ok (.ifCond .eq 13, 3) := by decide +kernel
theorem dX2_faultAsLane_7 : decode cX2_faultAsLane 7 = .ok (.aload_n 0, 1) := by decide +kernel
theorem dX2_faultAsLane_8 : decode cX2_faultAsLane 8 = .ok (.getfield 19, 3) := by decide +kernel
theorem dX2_faultAsLane_11 : decode cX2_faultAsLane 11 = .ok (.iload_n 1, 1) := by decide +kernel
theorem dX2_faultAsLane_12 : decode cX2_faultAsLane 12 = .ok (.if_icmp .eq 5, 3) := by decide +kernel
theorem dX2_faultAsLane_15 : decode cX2_faultAsLane 15 = .ok (.iconst 2, 1) := by decide +kernel
theorem dX2_faultAsLane_16 : decode cX2_faultAsLane 16 = .ok (.ireturn, 1) := by decide +kernel
theorem dX2_faultAsLane_17 : decode cX2_faultAsLane 17 = .ok (.aload_n 0, 1) := by decide +kernel
theorem dX2_faultAsLane_18 : decode cX2_faultAsLane 18 = .ok (.getfield 15, 3) := by decide +kernel
theorem dX2_faultAsLane_21 : decode cX2_faultAsLane 21 = .ok (.ifCond .ne 5, 3) := by decide +kernel
theorem dX2_faultAsLane_24 : decode cX2_faultAsLane 24 = .ok (.iconst 1, 1) := by decide +kernel
theorem dX2_faultAsLane_25 : decode cX2_faultAsLane 25 = .ok (.ireturn, 1) := by decide +kernel
theorem dX2_faultAsLane_26 : decode cX2_faultAsLane 26 = .ok (.iload_n 3, 1) := by decide +kernel
theorem dX2_faultAsLane_27 : decode cX2_faultAsLane 27 = .ok (.ifCond .ge 5, 3) := by decide +kernel
theorem dX2_faultAsLane_30 : decode cX2_faultAsLane 30 = .ok (.iconst 4, 1) := by decide +kernel
theorem dX2_faultAsLane_31 : decode cX2_faultAsLane 31 = .ok (.ireturn, 1) := by decide +kernel
theorem dX2_faultAsLane_32 : decode cX2_faultAsLane 32 = .ok (.aload_n 0, 1) := by decide +kernel
theorem dX2_faultAsLane_33 : decode cX2_faultAsLane 33 = .ok (.iload_n 2, 1) := by decide +kernel
theorem dX2_faultAsLane_34 : decode cX2_faultAsLane 34 = .ok (.iload_n 3, 1) := by decide +kernel
theorem dX2_faultAsLane_35 : decode cX2_faultAsLane 35 = .ok (.invokevirtual 26, 3) := by decide +kernel
theorem dX2_faultAsLane_38 : decode cX2_faultAsLane 38 = .ok (.ifCond .eq 7, 3) := by decide +kernel
theorem dX2_faultAsLane_41 : decode cX2_faultAsLane 41 = .ok (.iconst 0, 1) := by decide +kernel
theorem dX2_faultAsLane_42 : decode cX2_faultAsLane 42 = .ok (.goto 4, 3) := by decide +kernel
theorem dX2_faultAsLane_45 : decode cX2_faultAsLane 45 = .ok (.iconst 3, 1) := by decide +kernel
theorem dX2_faultAsLane_46 : decode cX2_faultAsLane 46 = .ok (.ireturn, 1) := by decide +kernel
theorem dX3_init_0 : decode cX3_init 0 = .ok (.aload_n 0, 1) := by decide +kernel
theorem dX3_init_1 : decode cX3_init 1 = .ok (.invokespecial 3, 3) := by decide +kernel
theorem dX3_init_4 : decode cX3_init 4 = .ok (.aload_n 0, 1) := by decide +kernel
theorem dX3_init_5 : decode cX3_init 5 = .ok (.bipush 7, 2) := by decide +kernel
theorem dX3_init_7 : decode cX3_init 7 = .ok (.newarray .int, 2) := by decide +kernel
theorem dX3_init_9 : decode cX3_init 9 = .ok (.putfield 9, 3) := by decide +kernel
theorem dX3_init_12 : decode cX3_init 12 = .ok (.aload_n 0, 1) := by decide +kernel
theorem dX3_init_13 : decode cX3_init 13 = .ok (.bipush 8, 2) := by decide +kernel
theorem dX3_init_15 : decode cX3_init 15 = .ok (.newarray .int, 2) := by decide +kernel
theorem dX3_init_17 : decode cX3_init 17 = .ok (.putfield 15, 3) := by decide +kernel
theorem dX3_init_20 : decode cX3_init 20 = .ok (.aload_n 0, 1) := by decide +kernel
theorem dX3_init_21 : decode cX3_init 21 = .ok (.bipush 64, 2) := by decide +kernel
theorem dX3_init_23 : decode cX3_init 23 = .ok (.newarray .int, 2) := by decide +kernel
theorem dX3_init_25 : decode cX3_init 25 = .ok (.putfield 18, 3) := by decide +kernel
theorem dX3_init_28 : decode cX3_init 28 = .ok (.aload_n 0, 1) := by decide +kernel
theorem dX3_init_29 : decode cX3_init 29 = .ok (.bipush 64, 2) := by decide +kernel
theorem dX3_init_31 : decode cX3_init 31 = .ok (.newarray .int, 2) := by decide +kernel
theorem dX3_init_33 : decode cX3_init 33 = .ok (.putfield 21, 3) := by decide +kernel
theorem dX3_init_36 : decode cX3_init 36 = .ok (.return_, 1) := by decide +kernel
set_option maxRecDepth 20000 in
theorem ggX3_grow_X4_isWet : GoodIn wsX3_grow wsX4_isWet := goodIn_r _ [8, 9, 26, 27, 28, 29, 30, 31] (by decide +kernel) (by decide +kernel)
set_option maxRecDepth 20000 in
theorem gX3_grow_X4_isWet : GoodIn wsX3_grow (wsV RX3 33 RX4 yX4_isWet wsX4_isWet) := goodIn_app (goodIn_of _ (by decide +kernel)) ggX3_grow_X4_isWet
set_option maxRecDepth 20000 in
theorem ggX3_grow_X3_chooseRoot : GoodIn wsX3_grow wsX3_chooseRoot := goodIn_r _ [14, 15, 16, 17, 3, 18, 19, 13, 20, 21, 22, 23, 24, 25] (by decide +kernel) (by decide +kernel)
set_option maxRecDepth 20000 in
theorem gX3_grow_X3_chooseRoot : GoodIn wsX3_grow (wsV RX3 40 RX3 yX3_chooseRoot wsX3_chooseRoot) := goodIn_app (goodIn_of _ (by decide +kernel)) ggX3_grow_X3_chooseRoot
theorem dX3_grow_0 : decode cX3_grow 0 = .ok (.aload_n 0, 1) := by decide +kernel
theorem dX3_grow_1 : decode cX3_grow 1 = .ok (.iconst 0, 1) := by decide +kernel
theorem dX3_grow_2 : decode cX3_grow 2 = .ok (.putfield 24, 3) := by decide +kernel
theorem dX3_grow_5 : decode cX3_grow 5 = .ok (.iconst 0, 1) := by decide +kernel
theorem dX3_grow_6 : decode cX3_grow 6 = .ok (.istore_n 2, 1) := by decide +kernel
theorem dX3_grow_7 : decode cX3_grow 7 = .ok (.iload_n 2, 1) := by decide +kernel
theorem dX3_grow_8 : decode cX3_grow 8 = .ok (.aload_n 1, 1) := by decide +kernel
theorem dX3_grow_9 : decode cX3_grow 9 = .ok (.getfield 28, 3) := by decide +kernel
theorem dX3_grow_12 : decode cX3_grow 12 = .ok (.if_icmp .ge 64, 3) := by decide +kernel
theorem dX3_grow_15 : decode cX3_grow 15 = .ok (.aload_n 1, 1) := by decide +kernel
theorem dX3_grow_16 : decode cX3_grow 16 = .ok (.iload_n 2, 1) := by decide +kernel
theorem dX3_grow_17 : decode cX3_grow 17 = .ok (.invokevirtual 33, 3) := by decide +kernel
theorem dX3_grow_20 : decode cX3_grow 20 = .ok (.ifCond .ne 50, 3) := by decide +kernel
theorem dX3_grow_23 : decode cX3_grow 23 = .ok (.aload_n 0, 1) := by decide +kernel
theorem dX3_grow_24 : decode cX3_grow 24 = .ok (.getfield 9, 3) := by decide +kernel
theorem dX3_grow_27 : decode cX3_grow 27 = .ok (.aload_n 0, 1) := by decide +kernel
theorem dX3_grow_28 : decode cX3_grow 28 = .ok (.getfield 24, 3) := by decide +kernel
theorem dX3_grow_31 : decode cX3_grow 31 = .ok (.iload_n 2, 1) := by decide +kernel
theorem dX3_grow_32 : decode cX3_grow 32 = .ok (.iastore, 1) := by decide +kernel
theorem dX3_grow_33 : decode cX3_grow 33 = .ok (.aload_n 0, 1) := by decide +kernel
theorem dX3_grow_34 : decode cX3_grow 34 = .ok (.getfield 15, 3) := by decide +kernel
theorem dX3_grow_37 : decode cX3_grow 37 = .ok (.aload_n 0, 1) := by decide +kernel
theorem dX3_grow_38 : decode cX3_grow 38 = .ok (.getfield 24, 3) := by decide +kernel
theorem dX3_grow_41 : decode cX3_grow 41 = .ok (.iconst 1, 1) := by decide +kernel
theorem dX3_grow_42 : decode cX3_grow 42 = .ok (.iadd, 1) := by decide +kernel
theorem dX3_grow_43 : decode cX3_grow 43 = .ok (.aload_n 0, 1) := by decide +kernel
theorem dX3_grow_44 : decode cX3_grow 44 = .ok (.getfield 15, 3) := by decide +kernel
theorem dX3_grow_47 : decode cX3_grow 47 = .ok (.aload_n 0, 1) := by decide +kernel
theorem dX3_grow_48 : decode cX3_grow 48 = .ok (.getfield 24, 3) := by decide +kernel
theorem dX3_grow_51 : decode cX3_grow 51 = .ok (.iaload, 1) := by decide +kernel
theorem dX3_grow_52 : decode cX3_grow 52 = .ok (.aload_n 1, 1) := by decide +kernel
theorem dX3_grow_53 : decode cX3_grow 53 = .ok (.getfield 37, 3) := by decide +kernel
theorem dX3_grow_56 : decode cX3_grow 56 = .ok (.iload_n 2, 1) := by decide +kernel
theorem dX3_grow_57 : decode cX3_grow 57 = .ok (.iaload, 1) := by decide +kernel
theorem dX3_grow_58 : decode cX3_grow 58 = .ok (.iadd, 1) := by decide +kernel
theorem dX3_grow_59 : decode cX3_grow 59 = .ok (.iastore, 1) := by decide +kernel
theorem dX3_grow_60 : decode cX3_grow 60 = .ok (.aload_n 0, 1) := by decide +kernel
theorem dX3_grow_61 : decode cX3_grow 61 = .ok (.dup, 1) := by decide +kernel
theorem dX3_grow_62 : decode cX3_grow 62 = .ok (.getfield 24, 3) := by decide +kernel
theorem dX3_grow_65 : decode cX3_grow 65 = .ok (.iconst 1, 1) := by decide +kernel
theorem dX3_grow_66 : decode cX3_grow 66 = .ok (.iadd, 1) := by decide +kernel
theorem dX3_grow_67 : decode cX3_grow 67 = .ok (.putfield 24, 3) := by decide +kernel
theorem dX3_grow_70 : decode cX3_grow 70 = .ok (.iinc 2 1, 3) := by decide +kernel
theorem dX3_grow_73 : decode cX3_grow 73 = .ok (.goto (-66), 3) := by decide +kernel
theorem dX3_grow_76 : decode cX3_grow 76 = .ok (.iconst 1, 1) := by decide +kernel
theorem dX3_grow_77 : decode cX3_grow 77 = .ok (.istore_n 2, 1) := by decide +kernel
theorem dX3_grow_78 : decode cX3_grow 78 = .ok (.iload_n 2, 1) := by decide +kernel
theorem dX3_grow_79 : decode cX3_grow 79 = .ok (.aload_n 0, 1) := by decide +kernel
theorem dX3_grow_80 : decode cX3_grow 80 = .ok (.getfield 24, 3) := by decide +kernel
theorem dX3_grow_83 : decode cX3_grow 83 = .ok (.if_icmp .gt 35, 3) := by decide +kernel
theorem dX3_grow_86 : decode cX3_grow 86 = .ok (.iconst 0, 1) := by decide +kernel
theorem dX3_grow_87 : decode cX3_grow 87 = .ok (.istore_n 3, 1) := by decide +kernel
theorem dX3_grow_88 : decode cX3_grow 88 = .ok (.iload_n 3, 1) := by decide +kernel
theorem dX3_grow_89 : decode cX3_grow 89 = .ok (.iload_n 2, 1) := by decide +kernel
theorem dX3_grow_90 : decode cX3_grow 90 = .ok (.iadd, 1) := by decide +kernel
theorem dX3_grow_91 : decode cX3_grow 91 = .ok (.aload_n 0, 1) := by decide +kernel
theorem dX3_grow_92 : decode cX3_grow 92 = .ok (.getfield 24, 3) := by decide +kernel
theorem dX3_grow_95 : decode cX3_grow 95 = .ok (.if_icmp .gt 17, 3) := by decide +kernel
theorem dX3_grow_98 : decode cX3_grow 98 = .ok (.aload_n 0, 1) := by decide +kernel
theorem dX3_grow_99 : decode cX3_grow 99 = .ok (.iload_n 3, 1) := by decide +kernel
theorem dX3_grow_100 : decode cX3_grow 100 = .ok (.iload_n 3, 1) := by decide +kernel
theorem dX3_grow_101 : decode cX3_grow 101 = .ok (.iload_n 2, 1) := by decide +kernel
theorem dX3_grow_102 : decode cX3_grow 102 = .ok (.iadd, 1) := by decide +kernel
theorem dX3_grow_103 : decode cX3_grow 103 = .ok (.invokevirtual 40, 3) := by decide +kernel
theorem dX3_grow_106 : decode cX3_grow 106 = .ok (.iinc 3 1, 3) := by decide +kernel
theorem dX3_grow_109 : decode cX3_grow 109 = .ok (.goto (-21), 3) := by decide +kernel
theorem dX3_grow_112 : decode cX3_grow 112 = .ok (.iinc 2 1, 3) := by decide +kernel
theorem dX3_grow_115 : decode cX3_grow 115 = .ok (.goto (-37), 3) := by decide +kernel
theorem dX3_grow_118 : decode cX3_grow 118 = .ok (.return_, 1) := by decide +kernel
set_option maxRecDepth 20000 in
theorem ggX3_chooseRoot_X3_partOf : GoodIn wsX3_chooseRoot wsX3_partOf := goodIn_r _ [8] (by decide +kernel) (by decide +kernel)
set_option maxRecDepth 20000 in
theorem gX3_chooseRoot_X3_partOf : GoodIn wsX3_chooseRoot (va_wsS RX3 47 yX3_partOf wsX3_partOf) := goodIn_app (goodIn_of _ (by decide +kernel)) ggX3_chooseRoot_X3_partOf
theorem dX3_chooseRoot_0 : decode cX3_chooseRoot 0 = .ok (.iload_n 1, 1) := by decide +kernel
theorem dX3_chooseRoot_1 : decode cX3_chooseRoot 1 = .ok (.istore_n 3, 1) := by decide +kernel
theorem dX3_chooseRoot_2 : decode cX3_chooseRoot 2 = .ok (.ldc 46, 2) := by decide +kernel
theorem dX3_chooseRoot_4 : decode cX3_chooseRoot 4 = .ok (.istore 4, 2) := by decide +kernel
theorem dX3_chooseRoot_6 : decode cX3_chooseRoot 6 = .ok (.iload_n 1, 1) := by decide +kernel
theorem dX3_chooseRoot_7 : decode cX3_chooseRoot 7 = .ok (.istore 5, 2) := by decide +kernel
theorem dX3_chooseRoot_9 : decode cX3_chooseRoot 9 = .ok (.iload 5, 2) := by decide +kernel
theorem dX3_chooseRoot_11 : decode cX3_chooseRoot 11 = .ok (.iload_n 2, 1) := by decide +kernel
theorem dX3_chooseRoot_12 : decode cX3_chooseRoot 12 = .ok (.if_icmp .ge 50, 3) := by decide +kernel
theorem dX3_chooseRoot_15 : decode cX3_chooseRoot 15 = .ok (.aload_n 0, 1) := by decide +kernel
theorem dX3_chooseRoot_16 : decode cX3_chooseRoot 16 = .ok (.getfield 18, 3) := by decide +kernel
theorem dX3_chooseRoot_19 : decode cX3_chooseRoot 19 = .ok (.iload_n 1, 1) := by decide +kernel
theorem dX3_chooseRoot_20 : decode cX3_chooseRoot 20 = .ok (.iload 5, 2) := by decide +kernel
theorem dX3_chooseRoot_22 : decode cX3_chooseRoot 22 = .ok (.invokestatic 47, 3) := by decide +kernel
theorem dX3_chooseRoot_25 : decode cX3_chooseRoot 25 = .ok (.iaload, 1) := by decide +kernel
theorem dX3_chooseRoot_26 : decode cX3_chooseRoot 26 = .ok (.aload_n 0, 1) := by decide +kernel
theorem dX3_chooseRoot_27 : decode cX3_chooseRoot 27 = .ok (.getfield 18, 3) := by decide +kernel
theorem dX3_chooseRoot_30 : decode cX3_chooseRoot 30 = .ok (.iload 5, 2) := by decide +kernel
theorem dX3_chooseRoot_32 : decode cX3_chooseRoot 32 = .ok (.iconst 1, 1) := by decide +kernel
theorem dX3_chooseRoot_33 : decode cX3_chooseRoot 33 = .ok (.iadd, 1) := by decide +kernel
theorem dX3_chooseRoot_34 : decode cX3_chooseRoot 34 = .ok (.iload_n 2, 1) := by decide +kernel
theorem dX3_chooseRoot_35 : decode cX3_chooseRoot 35 = .ok (.invokestatic 47, 3) := by decide +kernel
theorem dX3_chooseRoot_38 : decode cX3_chooseRoot 38 = .ok (.iaload, 1) := by decide +kernel
theorem dX3_chooseRoot_39 : decode cX3_chooseRoot 39 = .ok (.iadd, 1) := by decide +kernel
theorem dX3_chooseRoot_40 : decode cX3_chooseRoot 40 = .ok (.istore 6, 2) := by decide +kernel
theorem dX3_chooseRoot_42 : decode cX3_chooseRoot 42 = .ok (.iload 6, 2) := by decide +kernel
theorem dX3_chooseRoot_44 : decode cX3_chooseRoot 44 = .ok (.iload 4, 2) := by decide +kernel
theorem dX3_chooseRoot_46 : decode cX3_chooseRoot 46 = .ok (.if_icmp .ge 10, 3) := by decide +kernel
theorem dX3_chooseRoot_49 : decode cX3_chooseRoot 49 = .ok (.iload 6, 2) := by decide +kernel
theorem dX3_chooseRoot_51 : decode cX3_chooseRoot 51 = .ok (.istore 4, 2) := by decide +kernel
theorem dX3_chooseRoot_53 : decode cX3_chooseRoot 53 = .ok (.iload 5, 2) := by decide +kernel
theorem dX3_chooseRoot_55 : decode cX3_chooseRoot 55 = .ok (.istore_n 3, 1) := by decide +kernel
theorem dX3_chooseRoot_56 : decode cX3_chooseRoot 56 = .ok (.iinc 5 1, 3) := by decide +kernel
theorem dX3_chooseRoot_59 : decode cX3_chooseRoot 59 = .ok (.goto (-50), 3) := by decide +kernel
theorem dX3_chooseRoot_62 : decode cX3_chooseRoot 62 = .ok (.aload_n 0, 1) := by decide +kernel
theorem dX3_chooseRoot_63 : decode cX3_chooseRoot 63 = .ok (.getfield 21, 3) := by decide +kernel
theorem dX3_chooseRoot_66 : decode cX3_chooseRoot 66 = .ok (.iload_n 1, 1) := by decide +kernel
theorem dX3_chooseRoot_67 : decode cX3_chooseRoot 67 = .ok (.iload_n 2, 1) := by decide +kernel
theorem dX3_chooseRoot_68 : decode cX3_chooseRoot 68 = .ok (.invokestatic 47, 3) := by decide +kernel
theorem dX3_chooseRoot_71 : decode cX3_chooseRoot 71 = .ok (.iload_n 3, 1) := by decide +kernel
theorem dX3_chooseRoot_72 : decode cX3_chooseRoot 72 = .ok (.iastore, 1) := by decide +kernel
theorem dX3_chooseRoot_73 : decode cX3_chooseRoot 73 = .ok (.aload_n 0, 1) := by decide +kernel
theorem dX3_chooseRoot_74 : decode cX3_chooseRoot 74 = .ok (.getfield 18, 3) := by decide +kernel
theorem dX3_chooseRoot_77 : decode cX3_chooseRoot 77 = .ok (.iload_n 1, 1) := by decide +kernel
theorem dX3_chooseRoot_78 : decode cX3_chooseRoot 78 = .ok (.iload_n 2, 1) := by decide +kernel
theorem dX3_chooseRoot_79 : decode cX3_chooseRoot 79 = .ok (.invokestatic 47, 3) := by decide +kernel
theorem dX3_chooseRoot_82 : decode cX3_chooseRoot 82 = .ok (.iload 4, 2) := by decide +kernel
theorem dX3_chooseRoot_84 : decode cX3_chooseRoot 84 = .ok (.aload_n 0, 1) := by decide +kernel
theorem dX3_chooseRoot_85 : decode cX3_chooseRoot 85 = .ok (.getfield 15, 3) := by decide +kernel
theorem dX3_chooseRoot_88 : decode cX3_chooseRoot 88 = .ok (.iload_n 2, 1) := by decide +kernel
theorem dX3_chooseRoot_89 : decode cX3_chooseRoot 89 = .ok (.iaload, 1) := by decide +kernel
theorem dX3_chooseRoot_90 : decode cX3_chooseRoot 90 = .ok (.iadd, 1) := by decide +kernel
theorem dX3_chooseRoot_91 : decode cX3_chooseRoot 91 = .ok (.aload_n 0, 1) := by decide +kernel
theorem dX3_chooseRoot_92 : decode cX3_chooseRoot 92 = .ok (.getfield 15, 3) := by decide +kernel
theorem dX3_chooseRoot_95 : decode cX3_chooseRoot 95 = .ok (.iload_n 1, 1) := by decide +kernel
theorem dX3_chooseRoot_96 : decode cX3_chooseRoot 96 = .ok (.iaload, 1) := by decide +kernel
theorem dX3_chooseRoot_97 : decode cX3_chooseRoot 97 = .ok (.isub, 1) := by decide +kernel
theorem dX3_chooseRoot_98 : decode cX3_chooseRoot 98 = .ok (.iastore, 1) := by decide +kernel
theorem dX3_chooseRoot_99 : decode cX3_chooseRoot 99 = .ok (.return_, 1) := by decide +kernel
theorem dX3_partOf_0 : decode cX3_partOf 0 = .ok (.iload_n 0, 1) := by decide +kernel
theorem dX3_partOf_1 : decode cX3_partOf 1 = .ok (.bipush 8, 2) := by decide +kernel
theorem dX3_partOf_3 : decode cX3_partOf 3 = .ok (.imul, 1) := by decide +kernel
theorem dX3_partOf_4 : decode cX3_partOf 4 = .ok (.iload_n 1, 1) := by decide +kernel
theorem dX3_partOf_5 : decode cX3_partOf 5 = .ok (.iadd, 1) := by decide +kernel
theorem dX3_partOf_6 : decode cX3_partOf 6 = .ok (.ireturn, 1) := by decide +kernel
set_option maxRecDepth 20000 in
theorem ggX3_leastCost_X3_partOf : GoodIn wsX3_leastCost wsX3_partOf := goodIn_r _ [6] (by decide +kernel) (by decide +kernel)
set_option maxRecDepth 20000 in
theorem gX3_leastCost_X3_partOf : GoodIn wsX3_leastCost (va_wsS RX3 47 yX3_partOf wsX3_partOf) := goodIn_app (goodIn_of _ (by decide +kernel)) ggX3_leastCost_X3_partOf
theorem dX3_leastCost_0 : decode cX3_leastCost 0 = .ok (.aload_n 0, 1) := by decide +kernel
theorem dX3_leastCost_1 : decode cX3_leastCost 1 = .ok (.getfield 18, 3) := by decide +kernel
theorem dX3_leastCost_4 : decode cX3_leastCost 4 = .ok (.iconst 0, 1) := by decide +kernel
theorem dX3_leastCost_5 : decode cX3_leastCost 5 = .ok (.aload_n 0, 1) := by decide +kernel
theorem dX3_leastCost_6 : decode cX3_leastCost 6 = .ok (.getfield 24, 3) := by decide +kernel
theorem dX3_leastCost_9 : decode cX3_leastCost 9 = .ok (.invokestatic 47, 3) := by decide +kernel
theorem dX3_leastCost_12 : decode cX3_leastCost 12 = .ok (.iaload, 1) := by decide +kernel
theorem dX3_leastCost_13 : decode cX3_leastCost 13 = .ok (.ireturn, 1) := by decide +kernel
set_option maxRecDepth 20000 in
theorem ggX3_depthOf_X3_partOf : GoodIn wsX3_depthOf wsX3_partOf := goodIn_r _ [7] (by decide +kernel) (by decide +kernel)
set_option maxRecDepth 20000 in
theorem gX3_depthOf_X3_partOf : GoodIn wsX3_depthOf (va_wsS RX3 47 yX3_partOf wsX3_partOf) := goodIn_app (goodIn_of _ (by decide +kernel)) ggX3_depthOf_X3_partOf
theorem dX3_depthOf_0 : decode cX3_depthOf 0 = .ok (.iconst 0, 1) := by decide +kernel
theorem dX3_depthOf_1 : decode cX3_depthOf 1 = .ok (.istore_n 2, 1) := by decide +kernel
theorem dX3_depthOf_2 : decode cX3_depthOf 2 = .ok (.aload_n 0, 1) := by decide +kernel
theorem dX3_depthOf_3 : decode cX3_depthOf 3 = .ok (.getfield 24, 3) := by decide +kernel
theorem dX3_depthOf_6 : decode cX3_depthOf 6 = .ok (.istore_n 3, 1) := by decide +kernel
theorem dX3_depthOf_7 : decode cX3_depthOf 7 = .ok (.iconst 1, 1) := by decide +kernel
theorem dX3_depthOf_8 : decode cX3_depthOf 8 = .ok (.istore 4, 2) := by decide +kernel
theorem dX3_depthOf_10 : decode cX3_depthOf 10 = .ok (.iload 4, 2) := by decide +kernel
theorem dX3_depthOf_12 : decode cX3_depthOf 12 = .ok (.aload_n 0, 1) := by decide +kernel
theorem dX3_depthOf_13 : decode cX3_depthOf 13 = .ok (.getfield 24, 3) := by decide +kernel
theorem dX3_depthOf_16 : decode cX3_depthOf 16 = .ok (.if_icmp .gt 62, 3) := by decide +kernel
theorem dX3_depthOf_19 : decode cX3_depthOf 19 = .ok (.iload_n 2, 1) := by decide +kernel
theorem dX3_depthOf_20 : decode cX3_depthOf 20 = .ok (.iload_n 3, 1) := by decide +kernel
theorem dX3_depthOf_21 : decode cX3_depthOf 21 = .ok (.if_icmp .ge 57, 3) := by decide +kernel
theorem dX3_depthOf_24 : decode cX3_depthOf 24 = .ok (.aload_n 0, 1) := by decide +kernel
theorem dX3_depthOf_25 : decode cX3_depthOf 25 = .ok (.getfield 21, 3) := by decide +kernel
theorem dX3_depthOf_28 : decode cX3_depthOf 28 = .ok (.iload_n 2, 1) := by decide +kernel
theorem dX3_depthOf_29 : decode cX3_depthOf 29 = .ok (.iload_n 3, 1) := by decide +kernel
theorem dX3_depthOf_30 : decode cX3_depthOf 30 = .ok (.invokestatic 47, 3) := by decide +kernel
theorem dX3_depthOf_33 : decode cX3_depthOf 33 = .ok (.iaload, 1) := by decide +kernel
theorem dX3_depthOf_34 : decode cX3_depthOf 34 = .ok (.istore 5, 2) := by decide +kernel
theorem dX3_depthOf_36 : decode cX3_depthOf 36 = .ok (.aload_n 0, 1) := by decide +kernel
theorem dX3_depthOf_37 : decode cX3_depthOf 37 = .ok (.getfield 9, 3) := by decide +kernel
theorem dX3_depthOf_40 : decode cX3_depthOf 40 = .ok (.iload 5, 2) := by decide +kernel
theorem dX3_depthOf_42 : decode cX3_depthOf 42 = .ok (.iaload, 1) := by decide +kernel
theorem dX3_depthOf_43 : decode cX3_depthOf 43 = .ok (.iload_n 1, 1) := by decide +kernel
theorem dX3_depthOf_44 : decode cX3_depthOf 44 = .ok (.if_icmp .ne 6, 3) := by decide +kernel
theorem dX3_depthOf_47 : decode cX3_depthOf 47 = .ok (.iload 4, 2) := by decide +kernel
theorem dX3_depthOf_49 : decode cX3_depthOf 49 = .ok (.ireturn, 1) := by decide +kernel
theorem dX3_depthOf_50 : decode cX3_depthOf 50 = .ok (.iload_n 1, 1) := by decide +kernel
theorem dX3_depthOf_51 : decode cX3_depthOf 51 = .ok (.aload_n 0, 1) := by decide +kernel
theorem dX3_depthOf_52 : decode cX3_depthOf 52 = .ok (.getfield 9, 3) := by decide +kernel
theorem dX3_depthOf_55 : decode cX3_depthOf 55 = .ok (.iload 5, 2) := by decide +kernel
theorem dX3_depthOf_57 : decode cX3_depthOf 57 = .ok (.iaload, 1) := by decide +kernel
theorem dX3_depthOf_58 : decode cX3_depthOf 58 = .ok (.if_icmp .ge 9, 3) := by decide +kernel
theorem dX3_depthOf_61 : decode cX3_depthOf 61 = .ok (.iload 5, 2) := by decide +kernel
theorem dX3_depthOf_63 : decode cX3_depthOf 63 = .ok (.istore_n 3, 1) := by decide +kernel
theorem dX3_depthOf_64 : decode cX3_depthOf 64 = .ok (.goto 8, 3) := by decide +kernel
theorem dX3_depthOf_67 : decode cX3_depthOf 67 = .ok (.iload 5, 2) := by decide +kernel
theorem dX3_depthOf_69 : decode cX3_depthOf 69 = .ok (.iconst 1, 1) := by decide +kernel
theorem dX3_depthOf_70 : decode cX3_depthOf 70 = .ok (.iadd, 1) := by decide +kernel
theorem dX3_depthOf_71 : decode cX3_depthOf 71 = .ok (.istore_n 2, 1) := by decide +kernel
theorem dX3_depthOf_72 : decode cX3_depthOf 72 = .ok (.iinc 4 1, 3) := by decide +kernel
theorem dX3_depthOf_75 : decode cX3_depthOf 75 = .ok (.goto (-65), 3) := by decide +kernel
theorem dX3_depthOf_78 : decode cX3_depthOf 78 = .ok (.bipush (-9), 2) := by decide +kernel
theorem dX3_depthOf_80 : decode cX3_depthOf 80 = .ok (.ireturn, 1) := by decide +kernel
theorem dX4_init_0 : decode cX4_init 0 = .ok (.aload_n 0, 1) := by decide +kernel
theorem dX4_init_1 : decode cX4_init 1 = .ok (.invokespecial 3, 3) := by decide +kernel
theorem dX4_init_4 : decode cX4_init 4 = .ok (.aload_n 0, 1) := by decide +kernel
theorem dX4_init_5 : decode cX4_init 5 = .ok (.bipush 7, 2) := by decide +kernel
theorem dX4_init_7 : decode cX4_init 7 = .ok (.newarray .int, 2) := by decide +kernel
theorem dX4_init_9 : decode cX4_init 9 = .ok (.putfield 9, 3) := by decide +kernel
theorem dX4_init_12 : decode cX4_init 12 = .ok (.aload_n 0, 1) := by decide +kernel
theorem dX4_init_13 : decode cX4_init 13 = .ok (.bipush 7, 2) := by decide +kernel
theorem dX4_init_15 : decode cX4_init 15 = .ok (.newarray .int, 2) := by decide +kernel
theorem dX4_init_17 : decode cX4_init 17 = .ok (.putfield 15, 3) := by decide +kernel
theorem dX4_init_20 : decode cX4_init 20 = .ok (.aload_n 0, 1) := by decide +kernel
theorem dX4_init_21 : decode cX4_init 21 = .ok (.bipush 7, 2) := by decide +kernel
theorem dX4_init_23 : decode cX4_init 23 = .ok (.newarray .int, 2) := by decide +kernel
theorem dX4_init_25 : decode cX4_init 25 = .ok (.putfield 18, 3) := by decide +kernel
theorem dX4_init_28 : decode cX4_init 28 = .ok (.aload_n 0, 1) := by decide +kernel
theorem dX4_init_29 : decode cX4_init 29 = .ok (.bipush 7, 2) := by decide +kernel
theorem dX4_init_31 : decode cX4_init 31 = .ok (.newarray .int, 2) := by decide +kernel
theorem dX4_init_33 : decode cX4_init 33 = .ok (.putfield 21, 3) := by decide +kernel
theorem dX4_init_36 : decode cX4_init 36 = .ok (.return_, 1) := by decide +kernel
theorem dX4_has_0 : decode cX4_has 0 = .ok (.iload_n 1, 1) := by decide +kernel
theorem dX4_has_1 : decode cX4_has 1 = .ok (.ifCond .lt 15, 3) := by decide +kernel
theorem dX4_has_4 : decode cX4_has 4 = .ok (.iload_n 1, 1) := by decide +kernel
theorem dX4_has_5 : decode cX4_has 5 = .ok (.aload_n 0, 1) := by decide +kernel
theorem dX4_has_6 : decode cX4_has 6 = .ok (.getfield 24, 3) := by decide +kernel
theorem dX4_has_9 : decode cX4_has 9 = .ok (.if_icmp .ge 7, 3) := by decide +kernel
theorem dX4_has_12 : decode cX4_has 12 = .ok (.iconst 1, 1) := by decide +kernel
theorem dX4_has_13 : decode cX4_has 13 = .ok (.goto 4, 3) := by decide +kernel
theorem dX4_has_16 : decode cX4_has 16 = .ok (.iconst 0, 1) := by decide +kernel
theorem dX4_has_17 : decode cX4_has 17 = .ok (.ireturn, 1) := by decide +kernel
set_option maxRecDepth 20000 in
theorem ggX4_fill_X5_slipsIn : GoodIn wsX4_fill wsX5_slipsIn := goodIn_r _ [9] (by decide +kernel) (by decide +kernel)
set_option maxRecDepth 20000 in
theorem gX4_fill_X5_slipsIn : GoodIn wsX4_fill (va_wsS RX4 28 yX5_slipsIn wsX5_slipsIn) := goodIn_app (goodIn_of _ (by decide +kernel)) ggX4_fill_X5_slipsIn
set_option maxRecDepth 20000 in
theorem ggX4_fill_X5_kindOf : GoodIn wsX4_fill wsX5_kindOf := goodIn_r _ [12] (by decide +kernel) (by decide +kernel)
set_option maxRecDepth 20000 in
theorem gX4_fill_X5_kindOf : GoodIn wsX4_fill (va_wsS RX4 42 yX5_kindOf wsX5_kindOf) := goodIn_app (goodIn_of _ (by decide +kernel)) ggX4_fill_X5_kindOf
set_option maxRecDepth 20000 in
theorem ggX4_fill_X4_send : GoodIn wsX4_fill wsX4_send := goodIn_r _ [17, 18, 19, 20, 21, 16, 22, 1, 23, 24, 25, 26, 27, 28] (by decide +kernel) (by decide +kernel)
set_option maxRecDepth 20000 in
theorem gX4_fill_X4_send : GoodIn wsX4_fill (wsV RX4 45 RX4 yX4_send wsX4_send) := goodIn_app (goodIn_of _ (by decide +kernel)) ggX4_fill_X4_send
theorem dX4_fill_0 : decode cX4_fill 0 = .ok (.aload_n 0, 1) := by decide +kernel
theorem dX4_fill_1 : decode cX4_fill 1 = .ok (.iload_n 3, 1) := by decide +kernel
theorem dX4_fill_2 : decode cX4_fill 2 = .ok (.invokestatic 28, 3) := by decide +kernel
theorem dX4_fill_5 : decode cX4_fill 5 = .ok (.putfield 24, 3) := by decide +kernel
theorem dX4_fill_8 : decode cX4_fill 8 = .ok (.aload_n 0, 1) := by decide +kernel
theorem dX4_fill_9 : decode cX4_fill 9 = .ok (.iconst 0, 1) := by decide +kernel
theorem dX4_fill_10 : decode cX4_fill 10 = .ok (.putfield 34, 3) := by decide +kernel
theorem dX4_fill_13 : decode cX4_fill 13 = .ok (.iconst 0, 1) := by decide +kernel
theorem dX4_fill_14 : decode cX4_fill 14 = .ok (.istore 4, 2) := by decide +kernel
theorem dX4_fill_16 : decode cX4_fill 16 = .ok (.iload 4, 2) := by decide +kernel
theorem dX4_fill_18 : decode cX4_fill 18 = .ok (.aload_n 0, 1) := by decide +kernel
theorem dX4_fill_19 : decode cX4_fill 19 = .ok (.getfield 24, 3) := by decide +kernel
theorem dX4_fill_22 : decode cX4_fill 22 = .ok (.if_icmp .ge 109, 3) := by decide +kernel
theorem dX4_fill_25 : decode cX4_fill 25 = .ok (.iload_n 2, 1) := by decide +kernel
theorem dX4_fill_26 : decode cX4_fill 26 = .ok (.iconst 2, 1) := by decide +kernel
theorem dX4_fill_27 : decode cX4_fill 27 = .ok (.iadd, 1) := by decide +kernel
theorem dX4_fill_28 : decode cX4_fill 28 = .ok (.iload 4, 2) := by decide +kernel
theorem dX4_fill_30 : decode cX4_fill 30 = .ok (.bipush 6, 2) := by decide +kernel
theorem dX4_fill_32 : decode cX4_fill 32 = .ok (.imul, 1) := by decide +kernel
theorem dX4_fill_33 : decode cX4_fill 33 = .ok (.iadd, 1) := by decide +kernel
theorem dX4_fill_34 : decode cX4_fill 34 = .ok (.istore 5, 2) := by decide +kernel
theorem dX4_fill_36 : decode cX4_fill 36 = .ok (.aload_n 0, 1) := by decide +kernel
theorem dX4_fill_37 : decode cX4_fill 37 = .ok (.getfield 9, 3) := by decide +kernel
theorem dX4_fill_40 : decode cX4_fill 40 = .ok (.iload 4, 2) := by decide +kernel
theorem dX4_fill_42 : decode cX4_fill 42 = .ok (.aload_n 1, 1) := by decide +kernel
theorem dX4_fill_43 : decode cX4_fill 43 = .ok (.getfield 37, 3) := by decide +kernel
theorem dX4_fill_46 : decode cX4_fill 46 = .ok (.iload 5, 2) := by decide +kernel
theorem dX4_fill_48 : decode cX4_fill 48 = .ok (.iaload, 1) := by decide +kernel
theorem dX4_fill_49 : decode cX4_fill 49 = .ok (.invokestatic 42, 3) := by decide +kernel
theorem dX4_fill_52 : decode cX4_fill 52 = .ok (.iastore, 1) := by decide +kernel
theorem dX4_fill_53 : decode cX4_fill 53 = .ok (.aload_n 0, 1) := by decide +kernel
theorem dX4_fill_54 : decode cX4_fill 54 = .ok (.getfield 15, 3) := by decide +kernel
theorem dX4_fill_57 : decode cX4_fill 57 = .ok (.iload 4, 2) := by decide +kernel
theorem dX4_fill_59 : decode cX4_fill 59 = .ok (.bipush 10, 2) := by decide +kernel
theorem dX4_fill_61 : decode cX4_fill 61 = .ok (.aload_n 1, 1) := by decide +kernel
theorem dX4_fill_62 : decode cX4_fill 62 = .ok (.getfield 37, 3) := by decide +kernel
theorem dX4_fill_65 : decode cX4_fill 65 = .ok (.iload 5, 2) := by decide +kernel
theorem dX4_fill_67 : decode cX4_fill 67 = .ok (.iconst 1, 1) := by decide +kernel
theorem dX4_fill_68 : decode cX4_fill 68 = .ok (.iadd, 1) := by decide +kernel
theorem dX4_fill_69 : decode cX4_fill 69 = .ok (.iaload, 1) := by decide +kernel
theorem dX4_fill_70 : decode cX4_fill 70 = .ok (.bipush 48, 2) := by decide +kernel
theorem dX4_fill_72 : decode cX4_fill 72 = .ok (.isub, 1) := by decide +kernel
theorem dX4_fill_73 : decode cX4_fill 73 = .ok (.imul, 1) := by decide +kernel
theorem dX4_fill_74 : decode cX4_fill 74 = .ok (.aload_n 1, 1) := by decide +kernel
theorem dX4_fill_75 : decode cX4_fill 75 = .ok (.getfield 37, 3) := by decide +kernel
theorem dX4_fill_78 : decode cX4_fill 78 = .ok (.iload 5, 2) := by decide +kernel
theorem dX4_fill_80 : decode cX4_fill 80 = .ok (.iconst 2, 1) := by decide +kernel
theorem dX4_fill_81 : decode cX4_fill 81 = .ok (.iadd, 1) := by decide +kernel
theorem dX4_fill_82 : decode cX4_fill 82 = .ok (.iaload, 1) := by decide +kernel
theorem dX4_fill_83 : decode cX4_fill 83 = .ok (.iadd, 1) := by decide +kernel
theorem dX4_fill_84 : decode cX4_fill 84 = .ok (.bipush 48, 2) := by decide +kernel
theorem dX4_fill_86 : decode cX4_fill 86 = .ok (.isub, 1) := by decide +kernel
theorem dX4_fill_87 : decode cX4_fill 87 = .ok (.iastore, 1) := by decide +kernel
theorem dX4_fill_88 : decode cX4_fill 88 = .ok (.aload_n 0, 1) := by decide +kernel
theorem dX4_fill_89 : decode cX4_fill 89 = .ok (.getfield 18, 3) := by decide +kernel
theorem dX4_fill_92 : decode cX4_fill 92 = .ok (.iload 4, 2) := by decide +kernel
theorem dX4_fill_94 : decode cX4_fill 94 = .ok (.aload_n 1, 1) := by decide +kernel
theorem dX4_fill_95 : decode cX4_fill 95 = .ok (.getfield 37, 3) := by decide +kernel
theorem dX4_fill_98 : decode cX4_fill 98 = .ok (.iload 5, 2) := by decide +kernel
theorem dX4_fill_100 : decode cX4_fill 100 = .ok (.iconst 3, 1) := by decide +kernel
theorem dX4_fill_101 : decode cX4_fill 101 = .ok (.iadd, 1) := by decide +kernel
theorem dX4_fill_102 : decode cX4_fill 102 = .ok (.iaload, 1) := by decide +kernel
theorem dX4_fill_103 : decode cX4_fill 103 = .ok (.bipush 48, 2) := by decide +kernel
theorem dX4_fill_105 : decode cX4_fill 105 = .ok (.isub, 1) := by decide +kernel
theorem dX4_fill_106 : decode cX4_fill 106 = .ok (.iastore, 1) := by decide +kernel
theorem dX4_fill_107 : decode cX4_fill 107 = .ok (.aload_n 0, 1) := by decide +kernel
theorem dX4_fill_108 : decode cX4_fill 108 = .ok (.iload 4, 2) := by decide +kernel
theorem dX4_fill_110 : decode cX4_fill 110 = .ok (.aload_n 1, 1) := by decide +kernel
theorem dX4_fill_111 : decode cX4_fill 111 = .ok (.getfield 37, 3) := by decide +kernel
theorem dX4_fill_114 : decode cX4_fill 114 = .ok (.iload 5, 2) := by decide +kernel
theorem dX4_fill_116 : decode cX4_fill 116 = .ok (.iconst 4, 1) := by decide +kernel
theorem dX4_fill_117 : decode cX4_fill 117 = .ok (.iadd, 1) := by decide +kernel
theorem dX4_fill_118 : decode cX4_fill 118 = .ok (.iaload, 1) := by decide +kernel
theorem dX4_fill_119 : decode cX4_fill 119 = .ok (.bipush 48, 2) := by decide +kernel
theorem dX4_fill_121 : decode cX4_fill 121 = .ok (.isub, 1) := by decide +kernel
theorem dX4_fill_122 : decode cX4_fill 122 = .ok (.invokevirtual 45, 3) := by decide +kernel
theorem dX4_fill_125 : decode cX4_fill 125 = .ok (.iinc 4 1, 3) := by decide +kernel
theorem dX4_fill_128 : decode cX4_fill 128 = .ok (.goto (-112), 3) := by decide +kernel
theorem dX4_fill_131 : decode cX4_fill 131 = .ok (.return_, 1) := by decide +kernel
theorem dX4_becomeLike_0 : decode cX4_becomeLike 0 = .ok (.aload_n 0, 1) := by decide +kernel
theorem dX4_becomeLike_1 : decode cX4_becomeLike 1 = .ok (.aload_n 1, 1) := by decide +kernel
theorem dX4_becomeLike_2 : decode cX4_becomeLike 2 = .ok (.getfield 24, 3) := by decide +kernel
theorem dX4_becomeLike_5 : decode cX4_becomeLike 5 = .ok (.putfield 24, 3) := by decide +kernel
theorem dX4_becomeLike_8 : decode cX4_becomeLike 8 = .ok (.aload_n 0, 1) := by decide +kernel
theorem dX4_becomeLike_9 : decode cX4_becomeLike 9 = .ok (.aload_n 1, 1) := by decide +kernel
theorem dX4_becomeLike_10 : decode cX4_becomeLike 10 = .ok (.getfield 34, 3) := by decide +kernel
theorem dX4_becomeLike_13 : decode cX4_becomeLike 13 = .ok (.putfield 34, 3) := by decide +kernel
theorem dX4_becomeLike_16 : decode cX4_becomeLike 16 = .ok (.iconst 0, 1) := by decide +kernel
theorem dX4_becomeLike_17 : decode cX4_becomeLike 17 = .ok (.istore_n 2, 1) := by decide +kernel
theorem dX4_becomeLike_18 : decode cX4_becomeLike 18 = .ok (.iload_n 2, 1) := by decide +kernel
theorem dX4_becomeLike_19 : decode cX4_becomeLike 19 = .ok (.bipush 7, 2) := by decide +kernel
theorem dX4_becomeLike_21 : decode cX4_becomeLike 21 = .ok (.if_icmp .ge 57, 3) := by decide +kernel
theorem dX4_becomeLike_24 : decode cX4_becomeLike 24 = .ok (.aload_n 0, 1) := by decide +kernel
theorem dX4_becomeLike_25 : decode cX4_becomeLike 25 = .ok (.getfield 9, 3) := by decide +kernel
theorem dX4_becomeLike_28 : decode cX4_becomeLike 28 = .ok (.iload_n 2, 1) := by decide +kernel
theorem dX4_becomeLike_29 : decode cX4_becomeLike 29 = .ok (.aload_n 1, 1) := by decide +kernel
theorem dX4_becomeLike_30 : decode cX4_becomeLike 30 = .ok (.getfield 9, 3) := by decide +kernel
theorem dX4_becomeLike_33 : decode cX4_becomeLike 33 = .ok (.iload_n 2, 1) := by decide +kernel
theorem dX4_becomeLike_34 : decode cX4_becomeLike 34 = .ok (.iaload, 1) := by decide +kernel
theorem dX4_becomeLike_35 : decode cX4_becomeLike 35 = .ok (.iastore, 1) := by decide +kernel
theorem dX4_becomeLike_36 : decode cX4_becomeLike 36 = .ok (.aload_n 0, 1) := by decide +kernel
theorem dX4_becomeLike_37 : decode cX4_becomeLike 37 = .ok (.getfield 15, 3) := by decide +kernel
theorem dX4_becomeLike_40 : decode cX4_becomeLike 40 = .ok (.iload_n 2, 1) := by decide +kernel
theorem dX4_becomeLike_41 : decode cX4_becomeLike 41 = .ok (.aload_n 1, 1) := by decide +kernel
theorem dX4_becomeLike_42 : decode cX4_becomeLike 42 = .ok (.getfield 15, 3) := by decide +kernel
theorem dX4_becomeLike_45 : decode cX4_becomeLike 45 = .ok (.iload_n 2, 1) := by decide +kernel
theorem dX4_becomeLike_46 : decode cX4_becomeLike 46 = .ok (.iaload, 1) := by decide +kernel
theorem dX4_becomeLike_47 : decode cX4_becomeLike 47 = .ok (.iastore, 1) := by decide +kernel
theorem dX4_becomeLike_48 : decode cX4_becomeLike 48 = .ok (.aload_n 0, 1) := by decide +kernel
theorem dX4_becomeLike_49 : decode cX4_becomeLike 49 = .ok (.getfield 18, 3) := by decide +kernel
theorem dX4_becomeLike_52 : decode cX4_becomeLike 52 = .ok (.iload_n 2, 1) := by decide +kernel
theorem dX4_becomeLike_53 : decode cX4_becomeLike 53 = .ok (.aload_n 1, 1) := by decide +kernel
theorem dX4_becomeLike_54 : decode cX4_becomeLike 54 = .ok (.getfield 18, 3) := by decide +kernel
theorem dX4_becomeLike_57 : decode cX4_becomeLike 57 = .ok (.iload_n 2, 1) := by decide +kernel
theorem dX4_becomeLike_58 : decode cX4_becomeLike 58 = .ok (.iaload, 1) := by decide +kernel
theorem dX4_becomeLike_59 : decode cX4_becomeLike 59 = .ok (.iastore, 1) := by decide +kernel
theorem dX4_becomeLike_60 : decode cX4_becomeLike 60 = .ok (.aload_n 0, 1) := by decide +kernel
theorem dX4_becomeLike_61 : decode cX4_becomeLike 61 = .ok (.getfield 21, 3) := by decide +kernel
theorem dX4_becomeLike_64 : decode cX4_becomeLike 64 = .ok (.iload_n 2, 1) := by decide +kernel
theorem dX4_becomeLike_65 : decode cX4_becomeLike 65 = .ok (.aload_n 1, 1) := by decide +kernel
theorem dX4_becomeLike_66 : decode cX4_becomeLike 66 = .ok (.getfield 21, 3) := by decide +kernel
theorem dX4_becomeLike_69 : decode cX4_becomeLike 69 = .ok (.iload_n 2, 1) := by decide +kernel
theorem dX4_becomeLike_70 : decode cX4_becomeLike 70 = .ok (.iaload, 1) := by decide +kernel
theorem dX4_becomeLike_71 : decode cX4_becomeLike 71 = .ok (.iastore, 1) := by decide +kernel
theorem dX4_becomeLike_72 : decode cX4_becomeLike 72 = .ok (.iinc 2 1, 3) := by decide +kernel
theorem dX4_becomeLike_75 : decode cX4_becomeLike 75 = .ok (.goto (-57), 3) := by decide +kernel
theorem dX4_becomeLike_78 : decode cX4_becomeLike 78 = .ok (.return_, 1) := by decide +kernel
set_option maxRecDepth 20000 in
theorem ggX4_send_X4_has : GoodIn wsX4_send wsX4_has := goodIn_r _ [6, 7, 8, 9, 10, 11, 12, 13] (by decide +kernel) (by decide +kernel)
set_option maxRecDepth 20000 in
theorem gX4_send_X4_has : GoodIn wsX4_send (wsV RX4 49 RX4 yX4_has wsX4_has) := goodIn_app (goodIn_of _ (by decide +kernel)) ggX4_send_X4_has
theorem dX4_send_0 : decode cX4_send 0 = .ok (.aload_n 0, 1) := by decide +kernel
theorem dX4_send_1 : decode cX4_send 1 = .ok (.getfield 21, 3) := by decide +kernel
theorem dX4_send_4 : decode cX4_send 4 = .ok (.iload_n 1, 1) := by decide +kernel
theorem dX4_send_5 : decode cX4_send 5 = .ok (.aload_n 0, 1) := by decide +kernel
theorem dX4_send_6 : decode cX4_send 6 = .ok (.iload_n 2, 1) := by decide +kernel
theorem dX4_send_7 : decode cX4_send 7 = .ok (.invokevirtual 49, 3) := by decide +kernel
theorem dX4_send_10 : decode cX4_send 10 = .ok (.ifCond .eq 7, 3) := by decide +kernel
theorem dX4_send_13 : decode cX4_send 13 = .ok (.iload_n 2, 1) := by decide +kernel
theorem dX4_send_14 : decode cX4_send 14 = .ok (.goto 5, 3) := by decide +kernel
theorem dX4_send_17 : decode cX4_send 17 = .ok (.bipush (-9), 2) := by decide +kernel
theorem dX4_send_19 : decode cX4_send 19 = .ok (.iastore, 1) := by decide +kernel
theorem dX4_send_20 : decode cX4_send 20 = .ok (.return_, 1) := by decide +kernel
theorem dX4_isWet_0 : decode cX4_isWet 0 = .ok (.aload_n 0, 1) := by decide +kernel
theorem dX4_isWet_1 : decode cX4_isWet 1 = .ok (.getfield 34, 3) := by decide +kernel
theorem dX4_isWet_4 : decode cX4_isWet 4 = .ok (.iload_n 1, 1) := by decide +kernel
theorem dX4_isWet_5 : decode cX4_isWet 5 = .ok (.ishr, 1) := by decide +kernel
theorem dX4_isWet_6 : decode cX4_isWet 6 = .ok (.iconst 1, 1) := by decide +kernel
theorem dX4_isWet_7 : decode cX4_isWet 7 = .ok (.iand, 1) := by decide +kernel
theorem dX4_isWet_8 : decode cX4_isWet 8 = .ok (.iconst 1, 1) := by decide +kernel
theorem dX4_isWet_9 : decode cX4_isWet 9 = .ok (.if_icmp .ne 7, 3) := by decide +kernel
theorem dX4_isWet_12 : decode cX4_isWet 12 = .ok (.iconst 1, 1) := by decide +kernel
theorem dX4_isWet_13 : decode cX4_isWet 13 = .ok (.goto 4, 3) := by decide +kernel
theorem dX4_isWet_16 : decode cX4_isWet 16 = .ok (.iconst 0, 1) := by decide +kernel
theorem dX4_isWet_17 : decode cX4_isWet 17 = .ok (.ireturn, 1) := by decide +kernel
set_option maxRecDepth 20000 in
theorem ggX4_howManyWet_J6_bitCount_0f7a4 : GoodIn wsX4_howManyWet wsJ6_bitCount_0f7a4 := goodIn_r _ [5, 6, 7, 8] (by decide +kernel) (by decide +kernel)
set_option maxRecDepth 20000 in
theorem gX4_howManyWet_J6_bitCount_0f7a4 : GoodIn wsX4_howManyWet (va_wsS RX4 53 yJ6_bitCount_0f7a4 wsJ6_bitCount_0f7a4) := goodIn_app (goodIn_of _ (by decide +kernel)) ggX4_howManyWet_J6_bitCount_0f7a4
theorem dX4_howManyWet_0 : decode cX4_howManyWet 0 = .ok (.aload_n 0, 1) := by decide +kernel
theorem dX4_howManyWet_1 : decode cX4_howManyWet 1 = .ok (.getfield 34, 3) := by decide +kernel
theorem dX4_howManyWet_4 : decode cX4_howManyWet 4 = .ok (.invokestatic 53, 3) := by decide +kernel
theorem dX4_howManyWet_7 : decode cX4_howManyWet 7 = .ok (.ireturn, 1) := by decide +kernel
set_option maxRecDepth 20000 in
theorem ggX4_soak_X4_isWet : GoodIn wsX4_soak wsX4_isWet := goodIn_r _ [6, 1, 7, 8, 9, 10, 11, 12] (by decide +kernel) (by decide +kernel)
set_option maxRecDepth 20000 in
theorem gX4_soak_X4_isWet : GoodIn wsX4_soak (wsV RX4 58 RX4 yX4_isWet wsX4_isWet) := goodIn_app (goodIn_of _ (by decide +kernel)) ggX4_soak_X4_isWet
theorem dX4_soak_0 : decode cX4_soak 0 = .ok (.aload_n 0, 1) := by decide +kernel
theorem dX4_soak_1 : decode cX4_soak 1 = .ok (.iload_n 1, 1) := by decide +kernel
theorem dX4_soak_2 : decode cX4_soak 2 = .ok (.invokevirtual 58, 3) := by decide +kernel
theorem dX4_soak_5 : decode cX4_soak 5 = .ok (.ifCond .eq 5, 3) := by decide +kernel
theorem dX4_soak_8 : decode cX4_soak 8 = .ok (.iconst 0, 1) := by decide +kernel
theorem dX4_soak_9 : decode cX4_soak 9 = .ok (.ireturn, 1) := by decide +kernel
theorem dX4_soak_10 : decode cX4_soak 10 = .ok (.aload_n 0, 1) := by decide +kernel
theorem dX4_soak_11 : decode cX4_soak 11 = .ok (.dup, 1) := by decide +kernel
theorem dX4_soak_12 : decode cX4_soak 12 = .ok (.getfield 34, 3) := by decide +kernel
theorem dX4_soak_15 : decode cX4_soak 15 = .ok (.iconst 1, 1) := by decide +kernel
theorem dX4_soak_16 : decode cX4_soak 16 = .ok (.iload_n 1, 1) := by decide +kernel
theorem dX4_soak_17 : decode cX4_soak 17 = .ok (.ishl, 1) := by decide +kernel
theorem dX4_soak_18 : decode cX4_soak 18 = .ok (.ior, 1) := by decide +kernel
theorem dX4_soak_19 : decode cX4_soak 19 = .ok (.putfield 34, 3) := by decide +kernel
theorem dX4_soak_22 : decode cX4_soak 22 = .ok (.iconst 1, 1) := by decide +kernel
theorem dX4_soak_23 : decode cX4_soak 23 = .ok (.ireturn, 1) := by decide +kernel
set_option maxRecDepth 20000 in
theorem ggX4_air_X4_isWet : GoodIn wsX4_air wsX4_isWet := goodIn_r _ [6, 1, 7, 8, 9, 10, 11, 12] (by decide +kernel) (by decide +kernel)
set_option maxRecDepth 20000 in
theorem gX4_air_X4_isWet : GoodIn wsX4_air (wsV RX4 58 RX4 yX4_isWet wsX4_isWet) := goodIn_app (goodIn_of _ (by decide +kernel)) ggX4_air_X4_isWet
theorem dX4_air_0 : decode cX4_air 0 = .ok (.aload_n 0, 1) := by decide +kernel
theorem dX4_air_1 : decode cX4_air 1 = .ok (.iload_n 1, 1) := by decide +kernel
theorem dX4_air_2 : decode cX4_air 2 = .ok (.invokevirtual 58, 3) := by decide +kernel
theorem dX4_air_5 : decode cX4_air 5 = .ok (.ifCond .ne 5, 3) := by decide +kernel
theorem dX4_air_8 : decode cX4_air 8 = .ok (.iconst 0, 1) := by decide +kernel
theorem dX4_air_9 : decode cX4_air 9 = .ok (.ireturn, 1) := by decide +kernel
theorem dX4_air_10 : decode cX4_air 10 = .ok (.aload_n 0, 1) := by decide +kernel
theorem dX4_air_11 : decode cX4_air 11 = .ok (.dup, 1) := by decide +kernel
theorem dX4_air_12 : decode cX4_air 12 = .ok (.getfield 34, 3) := by decide +kernel
theorem dX4_air_15 : decode cX4_air 15 = .ok (.iconst 1, 1) := by decide +kernel
theorem dX4_air_16 : decode cX4_air 16 = .ok (.iload_n 1, 1) := by decide +kernel
theorem dX4_air_17 : decode cX4_air 17 = .ok (.ishl, 1) := by decide +kernel
theorem dX4_air_18 : decode cX4_air 18 = .ok (.iconst (-1), 1) := by decide +kernel
theorem dX4_air_19 : decode cX4_air 19 = .ok (.ixor, 1) := by decide +kernel
theorem dX4_air_20 : decode cX4_air 20 = .ok (.iand, 1) := by decide +kernel
theorem dX4_air_21 : decode cX4_air 21 = .ok (.putfield 34, 3) := by decide +kernel
theorem dX4_air_24 : decode cX4_air 24 = .ok (.iconst 1, 1) := by decide +kernel
theorem dX4_air_25 : decode cX4_air 25 = .ok (.ireturn, 1) := by decide +kernel
theorem dX4_pointsTo_0 : decode cX4_pointsTo 0 = .ok (.aload_n 0, 1) := by decide +kernel
theorem dX4_pointsTo_1 : decode cX4_pointsTo 1 = .ok (.getfield 9, 3) := by decide +kernel
theorem dX4_pointsTo_4 : decode cX4_pointsTo 4 = .ok (.iload_n 1, 1) := by decide +kernel
theorem dX4_pointsTo_5 : decode cX4_pointsTo 5 = .ok (.iaload, 1) := by decide +kernel
theorem dX4_pointsTo_6 : decode cX4_pointsTo 6 = .ok (.lookupswitch 44 #[(1, 26), (2, 35)], 26) := by decide +kernel
theorem dX4_pointsTo_32 : decode cX4_pointsTo 32 = .ok (.aload_n 0, 1) := by decide +kernel
theorem dX4_pointsTo_33 : decode cX4_pointsTo 33 = .ok (.getfield 15, 3) := by decide +kernel
theorem dX4_pointsTo_36 : decode cX4_pointsTo 36 = .ok (.iload_n 1, 1) := by decide +kernel
theorem dX4_pointsTo_37 : decode cX4_pointsTo 37 = .ok (.iaload, 1) := by decide +kernel
theorem dX4_pointsTo_38 : decode cX4_pointsTo 38 = .ok (.iconst 1, 1) := by decide +kernel
theorem dX4_pointsTo_39 : decode cX4_pointsTo 39 = .ok (.iadd, 1) := by decide +kernel
theorem dX4_pointsTo_40 : decode cX4_pointsTo 40 = .ok (.ireturn, 1) := by decide +kernel
theorem dX4_pointsTo_41 : decode cX4_pointsTo 41 = .ok (.iconst 2, 1) := by decide +kernel
theorem dX4_pointsTo_42 : decode cX4_pointsTo 42 = .ok (.aload_n 0, 1) := by decide +kernel
theorem dX4_pointsTo_43 : decode cX4_pointsTo 43 = .ok (.getfield 15, 3) := by decide +kernel
theorem dX4_pointsTo_46 : decode cX4_pointsTo 46 = .ok (.iload_n 1, 1) := by decide +kernel
theorem dX4_pointsTo_47 : decode cX4_pointsTo 47 = .ok (.iaload, 1) := by decide +kernel
theorem dX4_pointsTo_48 : decode cX4_pointsTo 48 = .ok (.imul, 1) := by decide +kernel
theorem dX4_pointsTo_49 : decode cX4_pointsTo 49 = .ok (.ireturn, 1) := by decide +kernel
theorem dX4_pointsTo_50 : decode cX4_pointsTo 50 = .ok (.aload_n 0, 1) := by decide +kernel
theorem dX4_pointsTo_51 : decode cX4_pointsTo 51 = .ok (.getfield 15, 3) := by decide +kernel
theorem dX4_pointsTo_54 : decode cX4_pointsTo 54 = .ok (.iload_n 1, 1) := by decide +kernel
theorem dX4_pointsTo_55 : decode cX4_pointsTo 55 = .ok (.iaload, 1) := by decide +kernel
theorem dX4_pointsTo_56 : decode cX4_pointsTo 56 = .ok (.ireturn, 1) := by decide +kernel
set_option maxRecDepth 20000 in
theorem ggX4_looksOf_X4_isWet : GoodIn wsX4_looksOf wsX4_isWet := goodIn_r _ [7, 8, 9, 10, 11, 12, 13, 14] (by decide +kernel) (by decide +kernel)
set_option maxRecDepth 20000 in
theorem gX4_looksOf_X4_isWet : GoodIn wsX4_looksOf (wsV RX4 58 RX4 yX4_isWet wsX4_isWet) := goodIn_app (goodIn_of _ (by decide +kernel)) ggX4_looksOf_X4_isWet
theorem dX4_looksOf_0 : decode cX4_looksOf 0 = .ok (.iload_n 1, 1) := by decide +kernel
theorem dX4_looksOf_1 : decode cX4_looksOf 1 = .ok (.istore_n 2, 1) := by decide +kernel
theorem dX4_looksOf_2 : decode cX4_looksOf 2 = .ok (.iconst 1, 1) := by decide +kernel
theorem dX4_looksOf_3 : decode cX4_looksOf 3 = .ok (.istore_n 3, 1) := by decide +kernel
theorem dX4_looksOf_4 : decode cX4_looksOf 4 = .ok (.iload_n 3, 1) := by decide +kernel
theorem dX4_looksOf_5 : decode cX4_looksOf 5 = .ok (.aload_n 0, 1) := by decide +kernel
theorem dX4_looksOf_6 : decode cX4_looksOf 6 = .ok (.getfield 24, 3) := by decide +kernel
theorem dX4_looksOf_9 : decode cX4_looksOf 9 = .ok (.if_icmp .gt 40, 3) := by decide +kernel
theorem dX4_looksOf_12 : decode cX4_looksOf 12 = .ok (.aload_n 0, 1) := by decide +kernel
theorem dX4_looksOf_13 : decode cX4_looksOf 13 = .ok (.iload_n 2, 1) := by decide +kernel
theorem dX4_looksOf_14 : decode cX4_looksOf 14 = .ok (.invokevirtual 58, 3) := by decide +kernel
theorem dX4_looksOf_17 : decode cX4_looksOf 17 = .ok (.ifCond .eq 6, 3) := by decide +kernel
theorem dX4_looksOf_20 : decode cX4_looksOf 20 = .ok (.bipush (-9), 2) := by decide +kernel
theorem dX4_looksOf_22 : decode cX4_looksOf 22 = .ok (.ireturn, 1) := by decide +kernel
theorem dX4_looksOf_23 : decode cX4_looksOf 23 = .ok (.aload_n 0, 1) := by decide +kernel
theorem dX4_looksOf_24 : decode cX4_looksOf 24 = .ok (.getfield 21, 3) := by decide +kernel
theorem dX4_looksOf_27 : decode cX4_looksOf 27 = .ok (.iload_n 2, 1) := by decide +kernel
theorem dX4_looksOf_28 : decode cX4_looksOf 28 = .ok (.iaload, 1) := by decide +kernel
theorem dX4_looksOf_29 : decode cX4_looksOf 29 = .ok (.bipush (-9), 2) := by decide +kernel
theorem dX4_looksOf_31 : decode cX4_looksOf 31 = .ok (.if_icmp .ne 5, 3) := by decide +kernel
theorem dX4_looksOf_34 : decode cX4_looksOf 34 = .ok (.iload_n 3, 1) := by decide +kernel
theorem dX4_looksOf_35 : decode cX4_looksOf 35 = .ok (.ireturn, 1) := by decide +kernel
theorem dX4_looksOf_36 : decode cX4_looksOf 36 = .ok (.aload_n 0, 1) := by decide +kernel
theorem dX4_looksOf_37 : decode cX4_looksOf 37 = .ok (.getfield 21, 3) := by decide +kernel
theorem dX4_looksOf_40 : decode cX4_looksOf 40 = .ok (.iload_n 2, 1) := by decide +kernel
theorem dX4_looksOf_41 : decode cX4_looksOf 41 = .ok (.iaload, 1) := by decide +kernel
theorem dX4_looksOf_42 : decode cX4_looksOf 42 = .ok (.istore_n 2, 1) := by decide +kernel
theorem dX4_looksOf_43 : decode cX4_looksOf 43 = .ok (.iinc 3 1, 3) := by decide +kernel
theorem dX4_looksOf_46 : decode cX4_looksOf 46 = .ok (.goto (-42), 3) := by decide +kernel
theorem dX4_looksOf_49 : decode cX4_looksOf 49 = .ok (.bipush (-9), 2) := by decide +kernel
theorem dX4_looksOf_51 : decode cX4_looksOf 51 = .ok (.ireturn, 1) := by decide +kernel
set_option maxRecDepth 20000 in
theorem ggX4_leafOf_X4_looksOf : GoodIn wsX4_leafOf wsX4_looksOf := goodIn_r _ [6, 7, 1, 8, 9, 10, 5, 11, 12, 19, 20, 21, 22, 23, 24] (by decide +kernel) (by decide +kernel)
set_option maxRecDepth 20000 in
theorem gX4_leafOf_X4_looksOf : GoodIn wsX4_leafOf (wsV RX4 61 RX4 yX4_looksOf wsX4_looksOf) := goodIn_app (goodIn_of _ (by decide +kernel)) ggX4_leafOf_X4_looksOf
set_option maxRecDepth 20000 in
theorem ggX4_leafOf_X4_pointsTo : GoodIn wsX4_leafOf wsX4_pointsTo := goodIn_r _ [16, 17, 18, 19, 20, 21, 22, 23, 24] (by decide +kernel) (by decide +kernel)
set_option maxRecDepth 20000 in
theorem gX4_leafOf_X4_pointsTo : GoodIn wsX4_leafOf (wsV RX4 64 RX4 yX4_pointsTo wsX4_pointsTo) := goodIn_app (goodIn_of _ (by decide +kernel)) ggX4_leafOf_X4_pointsTo
theorem dX4_leafOf_0 : decode cX4_leafOf 0 = .ok (.aload_n 0, 1) := by decide +kernel
theorem dX4_leafOf_1 : decode cX4_leafOf 1 = .ok (.iload_n 1, 1) := by decide +kernel
theorem dX4_leafOf_2 : decode cX4_leafOf 2 = .ok (.invokevirtual 61, 3) := by decide +kernel
theorem dX4_leafOf_5 : decode cX4_leafOf 5 = .ok (.istore_n 2, 1) := by decide +kernel
theorem dX4_leafOf_6 : decode cX4_leafOf 6 = .ok (.iload_n 2, 1) := by decide +kernel
theorem dX4_leafOf_7 : decode cX4_leafOf 7 = .ok (.bipush (-9), 2) := by decide +kernel
theorem dX4_leafOf_9 : decode cX4_leafOf 9 = .ok (.if_icmp .ne 6, 3) := by decide +kernel
theorem dX4_leafOf_12 : decode cX4_leafOf 12 = .ok (.bipush (-9), 2) := by decide +kernel
theorem dX4_leafOf_14 : decode cX4_leafOf 14 = .ok (.ireturn, 1) := by decide +kernel
theorem dX4_leafOf_15 : decode cX4_leafOf 15 = .ok (.iload_n 1, 1) := by decide +kernel
theorem dX4_leafOf_16 : decode cX4_leafOf 16 = .ok (.istore_n 3, 1) := by decide +kernel
theorem dX4_leafOf_17 : decode cX4_leafOf 17 = .ok (.iconst 1, 1) := by decide +kernel
theorem dX4_leafOf_18 : decode cX4_leafOf 18 = .ok (.istore 4, 2) := by decide +kernel
theorem dX4_leafOf_20 : decode cX4_leafOf 20 = .ok (.iload 4, 2) := by decide +kernel
theorem dX4_leafOf_22 : decode cX4_leafOf 22 = .ok (.iload_n 2, 1) := by decide +kernel
theorem dX4_leafOf_23 : decode cX4_leafOf 23 = .ok (.if_icmp .ge 16, 3) := by decide +kernel
theorem dX4_leafOf_26 : decode cX4_leafOf 26 = .ok (.aload_n 0, 1) := by decide +kernel
theorem dX4_leafOf_27 : decode cX4_leafOf 27 = .ok (.getfield 21, 3) := by decide +kernel
theorem dX4_leafOf_30 : decode cX4_leafOf 30 = .ok (.iload_n 3, 1) := by decide +kernel
theorem dX4_leafOf_31 : decode cX4_leafOf 31 = .ok (.iaload, 1) := by decide +kernel
theorem dX4_leafOf_32 : decode cX4_leafOf 32 = .ok (.istore_n 3, 1) := by decide +kernel
theorem dX4_leafOf_33 : decode cX4_leafOf 33 = .ok (.iinc 4 1, 3) := by decide +kernel
theorem dX4_leafOf_36 : decode cX4_leafOf 36 = .ok (.goto (-16), 3) := by decide +kernel
theorem dX4_leafOf_39 : decode cX4_leafOf 39 = .ok (.aload_n 0, 1) := by decide +kernel
theorem dX4_leafOf_40 : decode cX4_leafOf 40 = .ok (.iload_n 3, 1) := by decide +kernel
theorem dX4_leafOf_41 : decode cX4_leafOf 41 = .ok (.invokevirtual 64, 3) := by decide +kernel
theorem dX4_leafOf_44 : decode cX4_leafOf 44 = .ok (.ireturn, 1) := by decide +kernel
set_option maxRecDepth 20000 in
theorem ggX4_inRings_X4_leastRoundFrom : GoodIn wsX4_inRings wsX4_leastRoundFrom := goodIn_r _ [6, 7, 1, 8, 9, 10, 11, 12, 13, 14, 15, 16, 17] (by decide +kernel) (by decide +kernel)
set_option maxRecDepth 20000 in
theorem gX4_inRings_X4_leastRoundFrom : GoodIn wsX4_inRings (wsV RX4 67 RX4 yX4_leastRoundFrom wsX4_leastRoundFrom) := goodIn_app (goodIn_of _ (by decide +kernel)) ggX4_inRings_X4_leastRoundFrom
theorem dX4_inRings_0 : decode cX4_inRings 0 = .ok (.iconst 0, 1) := by decide +kernel
theorem dX4_inRings_1 : decode cX4_inRings 1 = .ok (.istore_n 1, 1) := by decide +kernel
theorem dX4_inRings_2 : decode cX4_inRings 2 = .ok (.iconst 0, 1) := by decide +kernel
theorem dX4_inRings_3 : decode cX4_inRings 3 = .ok (.istore_n 2, 1) := by decide +kernel
theorem dX4_inRings_4 : decode cX4_inRings 4 = .ok (.iload_n 2, 1) := by decide +kernel
theorem dX4_inRings_5 : decode cX4_inRings 5 = .ok (.aload_n 0, 1) := by decide +kernel
theorem dX4_inRings_6 : decode cX4_inRings 6 = .ok (.getfield 24, 3) := by decide +kernel
theorem dX4_inRings_9 : decode cX4_inRings 9 = .ok (.if_icmp .ge 25, 3) := by decide +kernel
theorem dX4_inRings_12 : decode cX4_inRings 12 = .ok (.aload_n 0, 1) := by decide +kernel
theorem dX4_inRings_13 : decode cX4_inRings 13 = .ok (.iload_n 2, 1) := by decide +kernel
theorem dX4_inRings_14 : decode cX4_inRings 14 = .ok (.invokevirtual 67, 3) := by decide +kernel
theorem dX4_inRings_17 : decode cX4_inRings 17 = .ok (.bipush (-9), 2) := by decide +kernel
theorem dX4_inRings_19 : decode cX4_inRings 19 = .ok (.if_icmp .eq 9, 3) := by decide +kernel
theorem dX4_inRings_22 : decode cX4_inRings 22 = .ok (.iload_n 1, 1) := by decide +kernel
theorem dX4_inRings_23 : decode cX4_inRings 23 = .ok (.iconst 1, 1) := by decide +kernel
theorem dX4_inRings_24 : decode cX4_inRings 24 = .ok (.iload_n 2, 1) := by decide +kernel
theorem dX4_inRings_25 : decode cX4_inRings 25 = .ok (.ishl, 1) := by decide +kernel
theorem dX4_inRings_26 : decode cX4_inRings 26 = .ok (.ior, 1) := by decide +kernel
theorem dX4_inRings_27 : decode cX4_inRings 27 = .ok (.istore_n 1, 1) := by decide +kernel
theorem dX4_inRings_28 : decode cX4_inRings 28 = .ok (.iinc 2 1, 3) := by decide +kernel
theorem dX4_inRings_31 : decode cX4_inRings 31 = .ok (.goto (-27), 3) := by decide +kernel
theorem dX4_inRings_34 : decode cX4_inRings 34 = .ok (.iload_n 1, 1) := by decide +kernel
theorem dX4_inRings_35 : decode cX4_inRings 35 = .ok (.ireturn, 1) := by decide +kernel
set_option maxRecDepth 20000 in
theorem ggX4_leastOfRings_X4_leastRoundFrom : GoodIn wsX4_leastOfRings wsX4_leastRoundFrom := goodIn_r _ [6, 7, 1, 8, 9, 10, 11, 12, 13, 14, 15, 16, 17] (by decide +kernel) (by decide +kernel)
set_option maxRecDepth 20000 in
theorem gX4_leastOfRings_X4_leastRoundFrom : GoodIn wsX4_leastOfRings (wsV RX4 67 RX4 yX4_leastRoundFrom wsX4_leastRoundFrom) := goodIn_app (goodIn_of _ (by decide +kernel)) ggX4_leastOfRings_X4_leastRoundFrom
theorem dX4_leastOfRings_0 : decode cX4_leastOfRings 0 = .ok (.iconst 0, 1) := by decide +kernel
theorem dX4_leastOfRings_1 : decode cX4_leastOfRings 1 = .ok (.istore_n 1, 1) := by decide +kernel
theorem dX4_leastOfRings_2 : decode cX4_leastOfRings 2 = .ok (.iconst 0, 1) := by decide +kernel
theorem dX4_leastOfRings_3 : decode cX4_leastOfRings 3 = .ok (.istore_n 2, 1) := by decide +kernel
theorem dX4_leastOfRings_4 : decode cX4_leastOfRings 4 = .ok (.iload_n 2, 1) := by decide +kernel
theorem dX4_leastOfRings_5 : decode cX4_leastOfRings 5 = .ok (.aload_n 0, 1) := by decide +kernel
theorem dX4_leastOfRings_6 : decode cX4_leastOfRings 6 = .ok (.getfield 24, 3) := by decide +kernel
theorem dX4_leastOfRings_9 : decode cX4_leastOfRings 9 = .ok (.if_icmp .ge 24, 3) := by decide +kernel
theorem dX4_leastOfRings_12 : decode cX4_leastOfRings 12 = .ok (.aload_n 0, 1) := by decide +kernel
theorem dX4_leastOfRings_13 : decode cX4_leastOfRings 13 = .ok (.iload_n 2, 1) := by decide +kernel
theorem dX4_leastOfRings_14 : decode cX4_leastOfRings 14 = .ok (.invokevirtual 67, 3) := by decide +kernel
theorem dX4_leastOfRings_17 : decode cX4_leastOfRings 17 = .ok (.iload_n 2, 1) := by decide +kernel
theorem dX4_leastOfRings_18 : decode cX4_leastOfRings 18 = .ok (.if_icmp .ne 9, 3) := by decide +kernel
theorem dX4_leastOfRings_21 : decode cX4_leastOfRings 21 = .ok (.iload_n 1, 1) := by decide +kernel
theorem dX4_leastOfRings_22 : decode cX4_leastOfRings 22 = .ok (.iconst 1, 1) := by decide +kernel
theorem dX4_leastOfRings_23 : decode cX4_leastOfRings 23 = .ok (.iload_n 2, 1) := by decide +kernel
theorem dX4_leastOfRings_24 : decode cX4_leastOfRings 24 = .ok (.ishl, 1) := by decide +kernel
theorem dX4_leastOfRings_25 : decode cX4_leastOfRings 25 = .ok (.ior, 1) := by decide +kernel
theorem dX4_leastOfRings_26 : decode cX4_leastOfRings 26 = .ok (.istore_n 1, 1) := by decide +kernel
theorem dX4_leastOfRings_27 : decode cX4_leastOfRings 27 = .ok (.iinc 2 1, 3) := by decide +kernel
theorem dX4_leastOfRings_30 : decode cX4_leastOfRings 30 = .ok (.goto (-26), 3) := by decide +kernel
theorem dX4_leastOfRings_33 : decode cX4_leastOfRings 33 = .ok (.iload_n 1, 1) := by decide +kernel
theorem dX4_leastOfRings_34 : decode cX4_leastOfRings 34 = .ok (.ireturn, 1) := by decide +kernel
theorem dX4_leastRoundFrom_0 : decode cX4_leastRoundFrom 0 = .ok (.iload_n 1, 1) := by decide +kernel
theorem dX4_leastRoundFrom_1 : decode cX4_leastRoundFrom 1 = .ok (.istore_n 2, 1) := by decide +kernel
theorem dX4_leastRoundFrom_2 : decode cX4_leastRoundFrom 2 = .ok (.aload_n 0, 1) := by decide +kernel
theorem dX4_leastRoundFrom_3 : decode cX4_leastRoundFrom 3 = .ok (.getfield 21, 3) := by decide +kernel
theorem dX4_leastRoundFrom_6 : decode cX4_leastRoundFrom 6 = .ok (.iload_n 1, 1) := by decide +kernel
theorem dX4_leastRoundFrom_7 : decode cX4_leastRoundFrom 7 = .ok (.iaload, 1) := by decide +kernel
theorem dX4_leastRoundFrom_8 : decode cX4_leastRoundFrom 8 = .ok (.istore_n 3, 1) := by decide +kernel
theorem dX4_leastRoundFrom_9 : decode cX4_leastRoundFrom 9 = .ok (.iconst 0, 1) := by decide +kernel
theorem dX4_leastRoundFrom_10 : decode cX4_leastRoundFrom 10 = .ok (.istore 4, 2) := by decide +kernel
theorem dX4_leastRoundFrom_12 : decode cX4_leastRoundFrom 12 = .ok (.iload 4, 2) := by decide +kernel
theorem dX4_leastRoundFrom_14 : decode cX4_leastRoundFrom 14 = .ok (.aload_n 0, 1) := by decide +kernel
theorem dX4_leastRoundFrom_15 : decode cX4_leastRoundFrom 15 = .ok (.getfield 24, 3) := by decide +kernel
theorem dX4_leastRoundFrom_18 : decode cX4_leastRoundFrom 18 = .ok (.if_icmp .ge 35, 3) := by decide +kernel
theorem dX4_leastRoundFrom_21 : decode cX4_leastRoundFrom 21 = .ok (.iload_n 3, 1) := by decide +kernel
theorem dX4_leastRoundFrom_22 : decode cX4_leastRoundFrom 22 = .ok (.bipush (-9), 2) := by decide +kernel
theorem dX4_leastRoundFrom_24 : decode cX4_leastRoundFrom 24 = .ok (.if_icmp .eq 29, 3) := by decide +kernel
theorem dX4_leastRoundFrom_27 : decode cX4_leastRoundFrom 27 = .ok (.iload_n 3, 1) := by decide +kernel
theorem dX4_leastRoundFrom_28 : decode cX4_leastRoundFrom 28 = .ok (.iload_n 1, 1) := by decide +kernel
theorem dX4_leastRoundFrom_29 : decode cX4_leastRoundFrom 29 = .ok (.if_icmp .ne 5, 3) := by decide +kernel
theorem dX4_leastRoundFrom_32 : decode cX4_leastRoundFrom 32 = .ok (.iload_n 2, 1) := by decide +kernel
theorem dX4_leastRoundFrom_33 : decode cX4_leastRoundFrom 33 = .ok (.ireturn, 1) := by decide +kernel
theorem dX4_leastRoundFrom_34 : decode cX4_leastRoundFrom 34 = .ok (.iload_n 2, 1) := by decide +kernel
theorem dX4_leastRoundFrom_35 : decode cX4_leastRoundFrom 35 = .ok (.iload_n 3, 1) := by decide +kernel
theorem dX4_leastRoundFrom_36 : decode cX4_leastRoundFrom 36 = .ok (.invokestatic 70, 3) := by decide +kernel
theorem dX4_leastRoundFrom_39 : decode cX4_leastRoundFrom 39 = .ok (.istore_n 2, 1) := by decide +kernel
theorem dX4_leastRoundFrom_40 : decode cX4_leastRoundFrom 40 = .ok (.aload_n 0, 1) := by decide +kernel
theorem dX4_leastRoundFrom_41 : decode cX4_leastRoundFrom 41 = .ok (.getfield 21, 3) := by decide +kernel
theorem dX4_leastRoundFrom_44 : decode cX4_leastRoundFrom 44 = .ok (.iload_n 3, 1) := by decide +kernel
theorem dX4_leastRoundFrom_45 : decode cX4_leastRoundFrom 45 = .ok (.iaload, 1) := by decide +kernel
theorem dX4_leastRoundFrom_46 : decode cX4_leastRoundFrom 46 = .ok (.istore_n 3, 1) := by decide +kernel
theorem dX4_leastRoundFrom_47 : decode cX4_leastRoundFrom 47 = .ok (.iinc 4 1, 3) := by decide +kernel
theorem dX4_leastRoundFrom_50 : decode cX4_leastRoundFrom 50 = .ok (.goto (-38), 3) := by decide +kernel
theorem dX4_leastRoundFrom_53 : decode cX4_leastRoundFrom 53 = .ok (.bipush (-9), 2) := by decide +kernel
theorem dX4_leastRoundFrom_55 : decode cX4_leastRoundFrom 55 = .ok (.ireturn, 1) := by decide +kernel
set_option maxRecDepth 20000 in
theorem ggX5_firstFault_X5_goesOn : GoodIn wsX5_firstFault wsX5_goesOn := goodIn_r _ [4] (by decide +kernel) (by decide +kernel)
set_option maxRecDepth 20000 in
theorem gX5_firstFault_X5_goesOn : GoodIn wsX5_firstFault (va_wsS RX5 15 yX5_goesOn wsX5_goesOn) := goodIn_app (goodIn_of _ (by decide +kernel)) ggX5_firstFault_X5_goesOn
set_option maxRecDepth 20000 in
theorem ggX5_firstFault_X5_mayEnd : GoodIn wsX5_firstFault wsX5_mayEnd := goodIn_r _ [7, 8, 9, 3, 10] (by decide +kernel) (by decide +kernel)
set_option maxRecDepth 20000 in
theorem gX5_firstFault_X5_mayEnd : GoodIn wsX5_firstFault (va_wsS RX5 21 yX5_mayEnd wsX5_mayEnd) := goodIn_app (goodIn_of _ (by decide +kernel)) ggX5_firstFault_X5_mayEnd
theorem dX5_firstFault_0 : decode cX5_firstFault 0 = .ok (.iconst 0, 1) := by decide +kernel
theorem dX5_firstFault_1 : decode cX5_firstFault 1 = .ok (.istore_n 3, 1) := by decide +kernel
theorem dX5_firstFault_2 : decode cX5_firstFault 2 = .ok (.iload_n 3, 1) := by decide +kernel
theorem dX5_firstFault_3 : decode cX5_firstFault 3 = .ok (.iload_n 2, 1) := by decide +kernel
theorem dX5_firstFault_4 : decode cX5_firstFault 4 = .ok (.if_icmp .ge 26, 3) := by decide +kernel
theorem dX5_firstFault_7 : decode cX5_firstFault 7 = .ok (.aload_n 0, 1) := by decide +kernel
theorem dX5_firstFault_8 : decode cX5_firstFault 8 = .ok (.getfield 9, 3) := by decide +kernel
theorem dX5_firstFault_11 : decode cX5_firstFault 11 = .ok (.iload_n 1, 1) := by decide +kernel
theorem dX5_firstFault_12 : decode cX5_firstFault 12 = .ok (.iload_n 3, 1) := by decide +kernel
theorem dX5_firstFault_13 : decode cX5_firstFault 13 = .ok (.iadd, 1) := by decide +kernel
theorem dX5_firstFault_14 : decode cX5_firstFault 14 = .ok (.iaload, 1) := by decide +kernel
theorem dX5_firstFault_15 : decode cX5_firstFault 15 = .ok (.iload_n 3, 1) := by decide +kernel
theorem dX5_firstFault_16 : decode cX5_firstFault 16 = .ok (.invokestatic 15, 3) := by decide +kernel
theorem dX5_firstFault_19 : decode cX5_firstFault 19 = .ok (.ifCond .ne 5, 3) := by decide +kernel
theorem dX5_firstFault_22 : decode cX5_firstFault 22 = .ok (.iload_n 3, 1) := by decide +kernel
theorem dX5_firstFault_23 : decode cX5_firstFault 23 = .ok (.ireturn, 1) := by decide +kernel
theorem dX5_firstFault_24 : decode cX5_firstFault 24 = .ok (.iinc 3 1, 3) := by decide +kernel
theorem dX5_firstFault_27 : decode cX5_firstFault 27 = .ok (.goto (-25), 3) := by decide +kernel
theorem dX5_firstFault_30 : decode cX5_firstFault 30 = .ok (.iload_n 2, 1) := by decide +kernel
theorem dX5_firstFault_31 : decode cX5_firstFault 31 = .ok (.invokestatic 21, 3) := by decide +kernel
theorem dX5_firstFault_34 : decode cX5_firstFault 34 = .ok (.ifCond .eq 8, 3) := by decide +kernel
theorem dX5_firstFault_37 : decode cX5_firstFault 37 = .ok (.bipush (-9), 2) := by decide +kernel
theorem dX5_firstFault_39 : decode cX5_firstFault 39 = .ok (.goto 4, 3) := by decide +kernel
theorem dX5_firstFault_42 : decode cX5_firstFault 42 = .ok (.iload_n 2, 1) := by decide +kernel
theorem dX5_firstFault_43 : decode cX5_firstFault 43 = .ok (.ireturn, 1) := by decide +kernel
theorem dX5_goesOn_0 : decode cX5_goesOn 0 = .ok (.iload_n 1, 1) := by decide +kernel
theorem dX5_goesOn_1 : decode cX5_goesOn 1 = .ok (.ifCond .ne 15, 3) := by decide +kernel
theorem dX5_goesOn_4 : decode cX5_goesOn 4 = .ok (.iload_n 0, 1) := by decide +kernel
theorem dX5_goesOn_5 : decode cX5_goesOn 5 = .ok (.bipush 105, 2) := by decide +kernel
theorem dX5_goesOn_7 : decode cX5_goesOn 7 = .ok (.if_icmp .ne 7, 3) := by decide +kernel
theorem dX5_goesOn_10 : decode cX5_goesOn 10 = .ok (.iconst 1, 1) := by decide +kernel
theorem dX5_goesOn_11 : decode cX5_goesOn 11 = .ok (.goto 4, 3) := by decide +kernel
theorem dX5_goesOn_14 : decode cX5_goesOn 14 = .ok (.iconst 0, 1) := by decide +kernel
theorem dX5_goesOn_15 : decode cX5_goesOn 15 = .ok (.ireturn, 1) := by decide +kernel
theorem dX5_goesOn_16 : decode cX5_goesOn 16 = .ok (.iload_n 1, 1) := by decide +kernel
theorem dX5_goesOn_17 : decode cX5_goesOn 17 = .ok (.bipush 42, 2) := by decide +kernel
theorem dX5_goesOn_19 : decode cX5_goesOn 19 = .ok (.if_icmp .le 5, 3) := by decide +kernel
theorem dX5_goesOn_22 : decode cX5_goesOn 22 = .ok (.iconst 0, 1) := by decide +kernel
theorem dX5_goesOn_23 : decode cX5_goesOn 23 = .ok (.ireturn, 1) := by decide +kernel
theorem dX5_goesOn_24 : decode cX5_goesOn 24 = .ok (.iload_n 1, 1) := by decide +kernel
theorem dX5_goesOn_25 : decode cX5_goesOn 25 = .ok (.iconst 1, 1) := by decide +kernel
theorem dX5_goesOn_26 : decode cX5_goesOn 26 = .ok (.isub, 1) := by decide +kernel
theorem dX5_goesOn_27 : decode cX5_goesOn 27 = .ok (.bipush 6, 2) := by decide +kernel
theorem dX5_goesOn_29 : decode cX5_goesOn 29 = .ok (.irem, 1) := by decide +kernel
theorem dX5_goesOn_30 : decode cX5_goesOn 30 = .ok (.tableswitch 80 0 2 #[26, 38, 62], 26) := by decide +kernel
theorem dX5_goesOn_56 : decode cX5_goesOn 56 = .ok (.iload_n 0, 1) := by decide +kernel
theorem dX5_goesOn_57 : decode cX5_goesOn 57 = .ok (.bipush 59, 2) := by decide +kernel
theorem dX5_goesOn_59 : decode cX5_goesOn 59 = .ok (.if_icmp .ne 7, 3) := by decide +kernel
theorem dX5_goesOn_62 : decode cX5_goesOn 62 = .ok (.iconst 1, 1) := by decide +kernel
theorem dX5_goesOn_63 : decode cX5_goesOn 63 = .ok (.goto 4, 3) := by decide +kernel
theorem dX5_goesOn_66 : decode cX5_goesOn 66 = .ok (.iconst 0, 1) := by decide +kernel
theorem dX5_goesOn_67 : decode cX5_goesOn 67 = .ok (.ireturn, 1) := by decide +kernel
theorem dX5_goesOn_68 : decode cX5_goesOn 68 = .ok (.iload_n 0, 1) := by decide +kernel
theorem dX5_goesOn_69 : decode cX5_goesOn 69 = .ok (.bipush 108, 2) := by decide +kernel
theorem dX5_goesOn_71 : decode cX5_goesOn 71 = .ok (.if_icmp .eq 15, 3) := by decide +kernel
theorem dX5_goesOn_74 : decode cX5_goesOn 74 = .ok (.iload_n 0, 1) := by decide +kernel
theorem dX5_goesOn_75 : decode cX5_goesOn 75 = .ok (.bipush 100, 2) := by decide +kernel
theorem dX5_goesOn_77 : decode cX5_goesOn 77 = .ok (.if_icmp .eq 9, 3) := by decide +kernel
theorem dX5_goesOn_80 : decode cX5_goesOn 80 = .ok (.iload_n 0, 1) := by decide +kernel
theorem dX5_goesOn_81 : decode cX5_goesOn 81 = .ok (.bipush 98, 2) := by decide +kernel
theorem dX5_goesOn_83 : decode cX5_goesOn 83 = .ok (.if_icmp .ne 7, 3) := by decide +kernel
theorem dX5_goesOn_86 : decode cX5_goesOn 86 = .ok (.iconst 1, 1) := by decide +kernel
theorem dX5_goesOn_87 : decode cX5_goesOn 87 = .ok (.goto 4, 3) := by decide +kernel
theorem dX5_goesOn_90 : decode cX5_goesOn 90 = .ok (.iconst 0, 1) := by decide +kernel
theorem dX5_goesOn_91 : decode cX5_goesOn 91 = .ok (.ireturn, 1) := by decide +kernel
theorem dX5_goesOn_92 : decode cX5_goesOn 92 = .ok (.iload_n 0, 1) := by decide +kernel
theorem dX5_goesOn_93 : decode cX5_goesOn 93 = .ok (.bipush 48, 2) := by decide +kernel
theorem dX5_goesOn_95 : decode cX5_goesOn 95 = .ok (.if_icmp .lt 13, 3) := by decide +kernel
theorem dX5_goesOn_98 : decode cX5_goesOn 98 = .ok (.iload_n 0, 1) := by decide +kernel
theorem dX5_goesOn_99 : decode cX5_goesOn 99 = .ok (.bipush 52, 2) := by decide +kernel
theorem dX5_goesOn_101 : decode cX5_goesOn 101 = .ok (.if_icmp .gt 7, 3) := by decide +kernel
theorem dX5_goesOn_104 : decode cX5_goesOn 104 = .ok (.iconst 1, 1) := by decide +kernel
theorem dX5_goesOn_105 : decode cX5_goesOn 105 = .ok (.goto 4, 3) := by decide +kernel
theorem dX5_goesOn_108 : decode cX5_goesOn 108 = .ok (.iconst 0, 1) := by decide +kernel
theorem dX5_goesOn_109 : decode cX5_goesOn 109 = .ok (.ireturn, 1) := by decide +kernel
theorem dX5_goesOn_110 : decode cX5_goesOn 110 = .ok (.iload_n 0, 1) := by decide +kernel
theorem dX5_goesOn_111 : decode cX5_goesOn 111 = .ok (.bipush 48, 2) := by decide +kernel
theorem dX5_goesOn_113 : decode cX5_goesOn 113 = .ok (.if_icmp .lt 13, 3) := by decide +kernel
theorem dX5_goesOn_116 : decode cX5_goesOn 116 = .ok (.iload_n 0, 1) := by decide +kernel
theorem dX5_goesOn_117 : decode cX5_goesOn 117 = .ok (.bipush 57, 2) := by decide +kernel
theorem dX5_goesOn_119 : decode cX5_goesOn 119 = .ok (.if_icmp .gt 7, 3) := by decide +kernel
theorem dX5_goesOn_122 : decode cX5_goesOn 122 = .ok (.iconst 1, 1) := by decide +kernel
theorem dX5_goesOn_123 : decode cX5_goesOn 123 = .ok (.goto 4, 3) := by decide +kernel
theorem dX5_goesOn_126 : decode cX5_goesOn 126 = .ok (.iconst 0, 1) := by decide +kernel
theorem dX5_goesOn_127 : decode cX5_goesOn 127 = .ok (.ireturn, 1) := by decide +kernel
set_option maxRecDepth 20000 in
theorem ggX5_mayEnd_X5_slipsIn : GoodIn wsX5_mayEnd wsX5_slipsIn := goodIn_r _ [4] (by decide +kernel) (by decide +kernel)
set_option maxRecDepth 20000 in
theorem gX5_mayEnd_X5_slipsIn : GoodIn wsX5_mayEnd (va_wsS RX5 25 yX5_slipsIn wsX5_slipsIn) := goodIn_app (goodIn_of _ (by decide +kernel)) ggX5_mayEnd_X5_slipsIn
theorem dX5_mayEnd_0 : decode cX5_mayEnd 0 = .ok (.iload_n 0, 1) := by decide +kernel
theorem dX5_mayEnd_1 : decode cX5_mayEnd 1 = .ok (.invokestatic 25, 3) := by decide +kernel
theorem dX5_mayEnd_4 : decode cX5_mayEnd 4 = .ok (.iconst 2, 1) := by decide +kernel
theorem dX5_mayEnd_5 : decode cX5_mayEnd 5 = .ok (.if_icmp .lt 16, 3) := by decide +kernel
theorem dX5_mayEnd_8 : decode cX5_mayEnd 8 = .ok (.iload_n 0, 1) := by decide +kernel
theorem dX5_mayEnd_9 : decode cX5_mayEnd 9 = .ok (.iconst 1, 1) := by decide +kernel
theorem dX5_mayEnd_10 : decode cX5_mayEnd 10 = .ok (.isub, 1) := by decide +kernel
theorem dX5_mayEnd_11 : decode cX5_mayEnd 11 = .ok (.bipush 6, 2) := by decide +kernel
theorem dX5_mayEnd_13 : decode cX5_mayEnd 13 = .ok (.irem, 1) := by decide +kernel
theorem dX5_mayEnd_14 : decode cX5_mayEnd 14 = .ok (.ifCond .ne 7, 3) := by decide +kernel
theorem dX5_mayEnd_17 : decode cX5_mayEnd 17 = .ok (.iconst 1, 1) := by decide +kernel
theorem dX5_mayEnd_18 : decode cX5_mayEnd 18 = .ok (.goto 4, 3) := by decide +kernel
theorem dX5_mayEnd_21 : decode cX5_mayEnd 21 = .ok (.iconst 0, 1) := by decide +kernel
theorem dX5_mayEnd_22 : decode cX5_mayEnd 22 = .ok (.ireturn, 1) := by decide +kernel
theorem dX5_slipsIn_0 : decode cX5_slipsIn 0 = .ok (.iload_n 0, 1) := by decide +kernel
theorem dX5_slipsIn_1 : decode cX5_slipsIn 1 = .ok (.iconst 1, 1) := by decide +kernel
theorem dX5_slipsIn_2 : decode cX5_slipsIn 2 = .ok (.isub, 1) := by decide +kernel
theorem dX5_slipsIn_3 : decode cX5_slipsIn 3 = .ok (.bipush 6, 2) := by decide +kernel
theorem dX5_slipsIn_5 : decode cX5_slipsIn 5 = .ok (.idiv, 1) := by decide +kernel
theorem dX5_slipsIn_6 : decode cX5_slipsIn 6 = .ok (.ireturn, 1) := by decide +kernel
theorem dX5_kindOf_0 : decode cX5_kindOf 0 = .ok (.iload_n 0, 1) := by decide +kernel
theorem dX5_kindOf_1 : decode cX5_kindOf 1 = .ok (.bipush 98, 2) := by decide +kernel
theorem dX5_kindOf_3 : decode cX5_kindOf 3 = .ok (.if_icmp .ne 5, 3) := by decide +kernel
theorem dX5_kindOf_6 : decode cX5_kindOf 6 = .ok (.iconst 2, 1) := by decide +kernel
theorem dX5_kindOf_7 : decode cX5_kindOf 7 = .ok (.ireturn, 1) := by decide +kernel
theorem dX5_kindOf_8 : decode cX5_kindOf 8 = .ok (.iload_n 0, 1) := by decide +kernel
theorem dX5_kindOf_9 : decode cX5_kindOf 9 = .ok (.bipush 100, 2) := by decide +kernel
theorem dX5_kindOf_11 : decode cX5_kindOf 11 = .ok (.if_icmp .ne 7, 3) := by decide +kernel
theorem dX5_kindOf_14 : decode cX5_kindOf 14 = .ok (.iconst 1, 1) := by decide +kernel
theorem dX5_kindOf_15 : decode cX5_kindOf 15 = .ok (.goto 4, 3) := by decide +kernel
theorem dX5_kindOf_18 : decode cX5_kindOf 18 = .ok (.iconst 0, 1) := by decide +kernel
theorem dX5_kindOf_19 : decode cX5_kindOf 19 = .ok (.ireturn, 1) := by decide +kernel
set_option maxRecDepth 20000 in
theorem ggX6_init_X4_init : GoodIn wsX6_init wsX4_init := goodIn_r _ [9, 10, 2, 3, 11, 12, 13, 14, 15, 16, 17, 18, 19, 20, 21] (by decide +kernel) (by decide +kernel)
set_option maxRecDepth 20000 in
theorem gX6_init_X4_init_n11 : GoodIn wsX6_init (wsX4_init) := ggX6_init_X4_init
theorem dX6_init_0 : decode cX6_init 0 = .ok (.aload_n 0, 1) := by decide +kernel
theorem dX6_init_1 : decode cX6_init 1 = .ok (.invokespecial 3, 3) := by decide +kernel
theorem dX6_init_4 : decode cX6_init 4 = .ok (.aload_n 0, 1) := by decide +kernel
theorem dX6_init_5 : decode cX6_init 5 = .ok (.new 9, 3) := by decide +kernel
theorem dX6_init_8 : decode cX6_init 8 = .ok (.dup, 1) := by decide +kernel
theorem dX6_init_9 : decode cX6_init 9 = .ok (.invokespecial 11, 3) := by decide +kernel
theorem dX6_init_12 : decode cX6_init 12 = .ok (.putfield 12, 3) := by decide +kernel
theorem dX6_init_15 : decode cX6_init 15 = .ok (.return_, 1) := by decide +kernel
theorem dX6_answers_0 : decode cX6_answers 0 = .ok (.iload_n 0, 1) := by decide +kernel
theorem dX6_answers_1 : decode cX6_answers 1 = .ok (.ifCond .lt 8, 3) := by decide +kernel
theorem dX6_answers_4 : decode cX6_answers 4 = .ok (.iload_n 0, 1) := by decide +kernel
theorem dX6_answers_5 : decode cX6_answers 5 = .ok (.iconst 3, 1) := by decide +kernel
theorem dX6_answers_6 : decode cX6_answers 6 = .ok (.if_icmp .le 15, 3) := by decide +kernel
theorem dX6_answers_9 : decode cX6_answers 9 = .ok (.iload_n 0, 1) := by decide +kernel
theorem dX6_answers_10 : decode cX6_answers 10 = .ok (.bipush 10, 2) := by decide +kernel
theorem dX6_answers_12 : decode cX6_answers 12 = .ok (.if_icmp .lt 13, 3) := by decide +kernel
theorem dX6_answers_15 : decode cX6_answers 15 = .ok (.iload_n 0, 1) := by decide +kernel
theorem dX6_answers_16 : decode cX6_answers 16 = .ok (.bipush 17, 2) := by decide +kernel
theorem dX6_answers_18 : decode cX6_answers 18 = .ok (.if_icmp .ge 7, 3) := by decide +kernel
theorem dX6_answers_21 : decode cX6_answers 21 = .ok (.iconst 1, 1) := by decide +kernel
theorem dX6_answers_22 : decode cX6_answers 22 = .ok (.goto 4, 3) := by decide +kernel
theorem dX6_answers_25 : decode cX6_answers 25 = .ok (.iconst 0, 1) := by decide +kernel
theorem dX6_answers_26 : decode cX6_answers 26 = .ok (.ireturn, 1) := by decide +kernel
theorem dX6_isDeed_0 : decode cX6_isDeed 0 = .ok (.iload_n 0, 1) := by decide +kernel
theorem dX6_isDeed_1 : decode cX6_isDeed 1 = .ok (.ifCond .lt 8, 3) := by decide +kernel
theorem dX6_isDeed_4 : decode cX6_isDeed 4 = .ok (.iload_n 0, 1) := by decide +kernel
theorem dX6_isDeed_5 : decode cX6_isDeed 5 = .ok (.iconst 2, 1) := by decide +kernel
theorem dX6_isDeed_6 : decode cX6_isDeed 6 = .ok (.if_icmp .le 15, 3) := by decide +kernel
theorem dX6_isDeed_9 : decode cX6_isDeed 9 = .ok (.iload_n 0, 1) := by decide +kernel
theorem dX6_isDeed_10 : decode cX6_isDeed 10 = .ok (.bipush 10, 2) := by decide +kernel
theorem dX6_isDeed_12 : decode cX6_isDeed 12 = .ok (.if_icmp .lt 13, 3) := by decide +kernel
theorem dX6_isDeed_15 : decode cX6_isDeed 15 = .ok (.iload_n 0, 1) := by decide +kernel
theorem dX6_isDeed_16 : decode cX6_isDeed 16 = .ok (.bipush 19, 2) := by decide +kernel
theorem dX6_isDeed_18 : decode cX6_isDeed 18 = .ok (.if_icmp .gt 7, 3) := by decide +kernel
theorem dX6_isDeed_21 : decode cX6_isDeed 21 = .ok (.iconst 1, 1) := by decide +kernel
theorem dX6_isDeed_22 : decode cX6_isDeed 22 = .ok (.goto 4, 3) := by decide +kernel
theorem dX6_isDeed_25 : decode cX6_isDeed 25 = .ok (.iconst 0, 1) := by decide +kernel
theorem dX6_isDeed_26 : decode cX6_isDeed 26 = .ok (.ireturn, 1) := by decide +kernel
set_option maxRecDepth 20000 in
theorem ggX6_goThrough_X4_becomeLike : GoodIn wsX6_goThrough wsX4_becomeLike := goodIn_r _ [9, 10, 11, 12, 13, 14, 15, 65, 66, 67, 68, 69, 70] (by decide +kernel) (by decide +kernel)
set_option maxRecDepth 20000 in
theorem gX6_goThrough_X4_becomeLike : GoodIn wsX6_goThrough (wsV RX6 18 RX4 yX4_becomeLike wsX4_becomeLike) := goodIn_app (goodIn_of _ (by decide +kernel)) ggX6_goThrough_X4_becomeLike
set_option maxRecDepth 20000 in
theorem ggX6_goThrough_X6_happens : GoodIn wsX6_goThrough wsX6_happens := goodIn_r _ [20, 1, 21, 22, 23, 19, 24, 2, 3, 25, 26, 27, 8, 28, 15, 29, 30, 31, 32, 10, 33, 34, 35, 36, 11, 37, 38, 39, 40, 12, 13, 41, 42, 43, 44, 45, 46, 47, 48, 49, 50, 51, 52, 53, 54, 55, 56, 57, 58, 59, 60, 65, 66, 67, 68, 69, 70] (by decide +kernel) (by decide +kernel)
set_option maxRecDepth 20000 in
theorem gX6_goThrough_X6_happens : GoodIn wsX6_goThrough (wsV RX6 38 RX6 yX6_happens wsX6_happens) := goodIn_app (goodIn_of _ (by decide +kernel)) ggX6_goThrough_X6_happens
theorem dX6_goThrough_0 : decode cX6_goThrough 0 = .ok (.aload_n 0, 1) := by decide +kernel
theorem dX6_goThrough_1 : decode cX6_goThrough 1 = .ok (.getfield 12, 3) := by decide +kernel
theorem dX6_goThrough_4 : decode cX6_goThrough 4 = .ok (.aload_n 1, 1) := by decide +kernel
theorem dX6_goThrough_5 : decode cX6_goThrough 5 = .ok (.invokevirtual 18, 3) := by decide +kernel
theorem dX6_goThrough_8 : decode cX6_goThrough 8 = .ok (.aload_n 0, 1) := by decide +kernel
theorem dX6_goThrough_9 : decode cX6_goThrough 9 = .ok (.iconst 0, 1) := by decide +kernel
theorem dX6_goThrough_10 : decode cX6_goThrough 10 = .ok (.putfield 22, 3) := by decide +kernel
theorem dX6_goThrough_13 : decode cX6_goThrough 13 = .ok (.aload_n 0, 1) := by decide +kernel
theorem dX6_goThrough_14 : decode cX6_goThrough 14 = .ok (.iconst 0, 1) := by decide +kernel
theorem dX6_goThrough_15 : decode cX6_goThrough 15 = .ok (.putfield 26, 3) := by decide +kernel
theorem dX6_goThrough_18 : decode cX6_goThrough 18 = .ok (.aload_n 0, 1) := by decide +kernel
theorem dX6_goThrough_19 : decode cX6_goThrough 19 = .ok (.bipush (-9), 2) := by decide +kernel
theorem dX6_goThrough_21 : decode cX6_goThrough 21 = .ok (.putfield 29, 3) := by decide +kernel
theorem dX6_goThrough_24 : decode cX6_goThrough 24 = .ok (.iconst 0, 1) := by decide +kernel
theorem dX6_goThrough_25 : decode cX6_goThrough 25 = .ok (.istore 5, 2) := by decide +kernel
theorem dX6_goThrough_27 : decode cX6_goThrough 27 = .ok (.iload 5, 2) := by decide +kernel
theorem dX6_goThrough_29 : decode cX6_goThrough 29 = .ok (.iload 4, 2) := by decide +kernel
theorem dX6_goThrough_31 : decode cX6_goThrough 31 = .ok (.if_icmp .ge 59, 3) := by decide +kernel
theorem dX6_goThrough_34 : decode cX6_goThrough 34 = .ok (.aload_n 0, 1) := by decide +kernel
theorem dX6_goThrough_35 : decode cX6_goThrough 35 = .ok (.aload_n 2, 1) := by decide +kernel
theorem dX6_goThrough_36 : decode cX6_goThrough 36 = .ok (.getfield 32, 3) := by decide +kernel
theorem dX6_goThrough_39 : decode cX6_goThrough 39 = .ok (.iload_n 3, 1) := by decide +kernel
theorem dX6_goThrough_40 : decode cX6_goThrough 40 = .ok (.iconst 2, 1) := by decide +kernel
theorem dX6_goThrough_41 : decode cX6_goThrough 41 = .ok (.iload 5, 2) := by decide +kernel
theorem dX6_goThrough_43 : decode cX6_goThrough 43 = .ok (.imul, 1) := by decide +kernel
theorem dX6_goThrough_44 : decode cX6_goThrough 44 = .ok (.iadd, 1) := by decide +kernel
theorem dX6_goThrough_45 : decode cX6_goThrough 45 = .ok (.iaload, 1) := by decide +kernel
theorem dX6_goThrough_46 : decode cX6_goThrough 46 = .ok (.aload_n 2, 1) := by decide +kernel
theorem dX6_goThrough_47 : decode cX6_goThrough 47 = .ok (.getfield 32, 3) := by decide +kernel
theorem dX6_goThrough_50 : decode cX6_goThrough 50 = .ok (.iload_n 3, 1) := by decide +kernel
theorem dX6_goThrough_51 : decode cX6_goThrough 51 = .ok (.iconst 2, 1) := by decide +kernel
theorem dX6_goThrough_52 : decode cX6_goThrough 52 = .ok (.iload 5, 2) := by decide +kernel
theorem dX6_goThrough_54 : decode cX6_goThrough 54 = .ok (.imul, 1) := by decide +kernel
theorem dX6_goThrough_55 : decode cX6_goThrough 55 = .ok (.iadd, 1) := by decide +kernel
theorem dX6_goThrough_56 : decode cX6_goThrough 56 = .ok (.iconst 1, 1) := by decide +kernel
theorem dX6_goThrough_57 : decode cX6_goThrough 57 = .ok (.iadd, 1) := by decide +kernel
theorem dX6_goThrough_58 : decode cX6_goThrough 58 = .ok (.iaload, 1) := by decide +kernel
theorem dX6_goThrough_59 : decode cX6_goThrough 59 = .ok (.invokevirtual 38, 3) := by decide +kernel
theorem dX6_goThrough_62 : decode cX6_goThrough 62 = .ok (.istore 6, 2) := by decide +kernel
theorem dX6_goThrough_64 : decode cX6_goThrough 64 = .ok (.iload 6, 2) := by decide +kernel
theorem dX6_goThrough_66 : decode cX6_goThrough 66 = .ok (.ifCond .ne 18, 3) := by decide +kernel
theorem dX6_goThrough_69 : decode cX6_goThrough 69 = .ok (.aload_n 0, 1) := by decide +kernel
theorem dX6_goThrough_70 : decode cX6_goThrough 70 = .ok (.getfield 29, 3) := by decide +kernel
theorem dX6_goThrough_73 : decode cX6_goThrough 73 = .ok (.bipush (-9), 2) := by decide +kernel
theorem dX6_goThrough_75 : decode cX6_goThrough 75 = .ok (.if_icmp .ne 9, 3) := by decide +kernel
theorem dX6_goThrough_78 : decode cX6_goThrough 78 = .ok (.aload_n 0, 1) := by decide +kernel
theorem dX6_goThrough_79 : decode cX6_goThrough 79 = .ok (.iload 5, 2) := by decide +kernel
theorem dX6_goThrough_81 : decode cX6_goThrough 81 = .ok (.putfield 29, 3) := by decide +kernel
theorem dX6_goThrough_84 : decode cX6_goThrough 84 = .ok (.iinc 5 1, 3) := by decide +kernel
theorem dX6_goThrough_87 : decode cX6_goThrough 87 = .ok (.goto (-60), 3) := by decide +kernel
theorem dX6_goThrough_90 : decode cX6_goThrough 90 = .ok (.return_, 1) := by decide +kernel
set_option maxRecDepth 20000 in
theorem ggX6_happens_X6_leadsSomewhere : GoodIn wsX6_happens wsX6_leadsSomewhere := goodIn_r _ [6, 1, 7, 8, 9, 10, 11, 12, 13, 14, 15, 16, 17, 18, 19, 20, 21, 22, 23, 24, 25, 26, 27, 28, 29, 30, 47, 48, 49, 50, 51, 52, 53, 54, 55, 56] (by decide +kernel) (by decide +kernel)
set_option maxRecDepth 20000 in
theorem gX6_happens_X6_leadsSomewhere : GoodIn wsX6_happens (wsV RX6 42 RX6 yX6_leadsSomewhere wsX6_leadsSomewhere) := goodIn_app (goodIn_of _ (by decide +kernel)) ggX6_happens_X6_leadsSomewhere
set_option maxRecDepth 20000 in
theorem ggX6_happens_X4_soak : GoodIn wsX6_happens wsX4_soak := goodIn_r _ [34, 24, 20, 21, 22, 12, 23, 51, 52, 53, 54, 55, 56] (by decide +kernel) (by decide +kernel)
set_option maxRecDepth 20000 in
theorem gX6_happens_X4_soak : GoodIn wsX6_happens (wsV RX6 46 RX4 yX4_soak wsX4_soak) := goodIn_app (goodIn_of _ (by decide +kernel)) ggX6_happens_X4_soak
set_option maxRecDepth 20000 in
theorem ggX6_happens_X4_air : GoodIn wsX6_happens wsX4_air := goodIn_r _ [38, 24, 20, 21, 22, 12, 23, 51, 52, 53, 54, 55, 56] (by decide +kernel) (by decide +kernel)
set_option maxRecDepth 20000 in
theorem gX6_happens_X4_air : GoodIn wsX6_happens (wsV RX6 49 RX4 yX4_air wsX4_air) := goodIn_app (goodIn_of _ (by decide +kernel)) ggX6_happens_X4_air
set_option maxRecDepth 20000 in
theorem ggX6_happens_X4_send : GoodIn wsX6_happens wsX4_send := goodIn_r _ [42, 14, 43, 44, 45, 12, 46, 19, 51, 52, 53, 54, 55, 56] (by decide +kernel) (by decide +kernel)
set_option maxRecDepth 20000 in
theorem gX6_happens_X4_send : GoodIn wsX6_happens (wsV RX6 52 RX4 yX4_send wsX4_send) := goodIn_app (goodIn_of _ (by decide +kernel)) ggX6_happens_X4_send
theorem dX6_happens_0 : decode cX6_happens 0 = .ok (.iload_n 2, 1) := by decide +kernel
theorem dX6_happens_1 : decode cX6_happens 1 = .ok (.tableswitch 51 0 2 #[27, 33, 42], 27) := by decide +kernel
theorem dX6_happens_28 : decode cX6_happens 28 = .ok (.aload_n 0, 1) := by decide +kernel
theorem dX6_happens_29 : decode cX6_happens 29 = .ok (.iload_n 1, 1) := by decide +kernel
theorem dX6_happens_30 : decode cX6_happens 30 = .ok (.invokevirtual 42, 3) := by decide +kernel
theorem dX6_happens_33 : decode cX6_happens 33 = .ok (.ireturn, 1) := by decide +kernel
theorem dX6_happens_34 : decode cX6_happens 34 = .ok (.aload_n 0, 1) := by decide +kernel
theorem dX6_happens_35 : decode cX6_happens 35 = .ok (.getfield 12, 3) := by decide +kernel
theorem dX6_happens_38 : decode cX6_happens 38 = .ok (.iload_n 1, 1) := by decide +kernel
theorem dX6_happens_39 : decode cX6_happens 39 = .ok (.invokevirtual 46, 3) := by decide +kernel
theorem dX6_happens_42 : decode cX6_happens 42 = .ok (.ireturn, 1) := by decide +kernel
theorem dX6_happens_43 : decode cX6_happens 43 = .ok (.aload_n 0, 1) := by decide +kernel
theorem dX6_happens_44 : decode cX6_happens 44 = .ok (.getfield 12, 3) := by decide +kernel
theorem dX6_happens_47 : decode cX6_happens 47 = .ok (.iload_n 1, 1) := by decide +kernel
theorem dX6_happens_48 : decode cX6_happens 48 = .ok (.invokevirtual 49, 3) := by decide +kernel
theorem dX6_happens_51 : decode cX6_happens 51 = .ok (.ireturn, 1) := by decide +kernel
theorem dX6_happens_52 : decode cX6_happens 52 = .ok (.aload_n 0, 1) := by decide +kernel
theorem dX6_happens_53 : decode cX6_happens 53 = .ok (.getfield 12, 3) := by decide +kernel
theorem dX6_happens_56 : decode cX6_happens 56 = .ok (.iload_n 1, 1) := by decide +kernel
theorem dX6_happens_57 : decode cX6_happens 57 = .ok (.iload_n 2, 1) := by decide +kernel
theorem dX6_happens_58 : decode cX6_happens 58 = .ok (.bipush 10, 2) := by decide +kernel
theorem dX6_happens_60 : decode cX6_happens 60 = .ok (.isub, 1) := by decide +kernel
theorem dX6_happens_61 : decode cX6_happens 61 = .ok (.invokevirtual 52, 3) := by decide +kernel
theorem dX6_happens_64 : decode cX6_happens 64 = .ok (.iconst 1, 1) := by decide +kernel
theorem dX6_happens_65 : decode cX6_happens 65 = .ok (.ireturn, 1) := by decide +kernel
set_option maxRecDepth 20000 in
theorem ggX6_leadsSomewhere_X4_leafOf : GoodIn wsX6_leadsSomewhere wsX4_leafOf := goodIn_r _ [8, 9, 10, 11, 12, 7, 13, 14, 15, 16, 17, 18, 19, 20, 21, 22, 23, 24, 25, 30, 31, 32, 33, 34, 35] (by decide +kernel) (by decide +kernel)
set_option maxRecDepth 20000 in
theorem gX6_leadsSomewhere_X4_leafOf : GoodIn wsX6_leadsSomewhere (wsV RX6 56 RX4 yX4_leafOf wsX4_leafOf) := goodIn_app (goodIn_of _ (by decide +kernel)) ggX6_leadsSomewhere_X4_leafOf
theorem dX6_leadsSomewhere_0 : decode cX6_leadsSomewhere 0 = .ok (.aload_n 0, 1) := by decide +kernel
theorem dX6_leadsSomewhere_1 : decode cX6_leadsSomewhere 1 = .ok (.getfield 12, 3) := by decide +kernel
theorem dX6_leadsSomewhere_4 : decode cX6_leadsSomewhere 4 = .ok (.iload_n 1, 1) := by decide +kernel
theorem dX6_leadsSomewhere_5 : decode cX6_leadsSomewhere 5 = .ok (.invokevirtual 56, 3) := by decide +kernel
theorem dX6_leadsSomewhere_8 : decode cX6_leadsSomewhere 8 = .ok (.istore_n 2, 1) := by decide +kernel
theorem dX6_leadsSomewhere_9 : decode cX6_leadsSomewhere 9 = .ok (.iload_n 2, 1) := by decide +kernel
theorem dX6_leadsSomewhere_10 : decode cX6_leadsSomewhere 10 = .ok (.bipush (-9), 2) := by decide +kernel
theorem dX6_leadsSomewhere_12 : decode cX6_leadsSomewhere 12 = .ok (.if_icmp .ne 5, 3) := by decide +kernel
theorem dX6_leadsSomewhere_15 : decode cX6_leadsSomewhere 15 = .ok (.iconst 0, 1) := by decide +kernel
theorem dX6_leadsSomewhere_16 : decode cX6_leadsSomewhere 16 = .ok (.ireturn, 1) := by decide +kernel
theorem dX6_leadsSomewhere_17 : decode cX6_leadsSomewhere 17 = .ok (.aload_n 0, 1) := by decide +kernel
theorem dX6_leadsSomewhere_18 : decode cX6_leadsSomewhere 18 = .ok (.dup, 1) := by decide +kernel
theorem dX6_leadsSomewhere_19 : decode cX6_leadsSomewhere 19 = .ok (.getfield 22, 3) := by decide +kernel
theorem dX6_leadsSomewhere_22 : decode cX6_leadsSomewhere 22 = .ok (.iload_n 2, 1) := by decide +kernel
theorem dX6_leadsSomewhere_23 : decode cX6_leadsSomewhere 23 = .ok (.iadd, 1) := by decide +kernel
theorem dX6_leadsSomewhere_24 : decode cX6_leadsSomewhere 24 = .ok (.putfield 22, 3) := by decide +kernel
theorem dX6_leadsSomewhere_27 : decode cX6_leadsSomewhere 27 = .ok (.aload_n 0, 1) := by decide +kernel
theorem dX6_leadsSomewhere_28 : decode cX6_leadsSomewhere 28 = .ok (.dup, 1) := by decide +kernel
theorem dX6_leadsSomewhere_29 : decode cX6_leadsSomewhere 29 = .ok (.getfield 26, 3) := by decide +kernel
theorem dX6_leadsSomewhere_32 : decode cX6_leadsSomewhere 32 = .ok (.iconst 1, 1) := by decide +kernel
theorem dX6_leadsSomewhere_33 : decode cX6_leadsSomewhere 33 = .ok (.iadd, 1) := by decide +kernel
theorem dX6_leadsSomewhere_34 : decode cX6_leadsSomewhere 34 = .ok (.putfield 26, 3) := by decide +kernel
theorem dX6_leadsSomewhere_37 : decode cX6_leadsSomewhere 37 = .ok (.iconst 1, 1) := by decide +kernel
theorem dX6_leadsSomewhere_38 : decode cX6_leadsSomewhere 38 = .ok (.ireturn, 1) := by decide +kernel
set_option maxRecDepth 20000 in
theorem ggX6_answer_X4_has : GoodIn wsX6_answer wsX4_has := goodIn_r _ [9, 10, 35, 36, 37, 38, 39, 40] (by decide +kernel) (by decide +kernel)
set_option maxRecDepth 20000 in
theorem gX6_answer_X4_has : GoodIn wsX6_answer (wsV RX6 63 RX4 yX4_has wsX4_has) := goodIn_app (goodIn_of _ (by decide +kernel)) ggX6_answer_X4_has
set_option maxRecDepth 20000 in
theorem ggX6_answer_X4_leafOf : GoodIn wsX6_answer wsX4_leafOf := goodIn_r _ [14, 15, 16, 17, 18, 8, 19, 10, 20, 21, 22, 23, 24, 25, 26, 27, 28, 29, 30, 35, 36, 37, 38, 39, 40] (by decide +kernel) (by decide +kernel)
set_option maxRecDepth 20000 in
theorem gX6_answer_X4_leafOf : GoodIn wsX6_answer (wsV RX6 56 RX4 yX4_leafOf wsX4_leafOf) := goodIn_app (goodIn_of _ (by decide +kernel)) ggX6_answer_X4_leafOf
theorem dX6_answer_0 : decode cX6_answer 0 = .ok (.iload_n 1, 1) := by decide +kernel
theorem dX6_answer_1 : decode cX6_answer 1 = .ok (.tableswitch 54 0 3 #[31, 36, 41, 46], 31) := by decide +kernel
theorem dX6_answer_32 : decode cX6_answer 32 = .ok (.aload_n 0, 1) := by decide +kernel
theorem dX6_answer_33 : decode cX6_answer 33 = .ok (.getfield 22, 3) := by decide +kernel
theorem dX6_answer_36 : decode cX6_answer 36 = .ok (.ireturn, 1) := by decide +kernel
theorem dX6_answer_37 : decode cX6_answer 37 = .ok (.aload_n 0, 1) := by decide +kernel
theorem dX6_answer_38 : decode cX6_answer 38 = .ok (.getfield 29, 3) := by decide +kernel
theorem dX6_answer_41 : decode cX6_answer 41 = .ok (.ireturn, 1) := by decide +kernel
theorem dX6_answer_42 : decode cX6_answer 42 = .ok (.aload_n 0, 1) := by decide +kernel
theorem dX6_answer_43 : decode cX6_answer 43 = .ok (.getfield 26, 3) := by decide +kernel
theorem dX6_answer_46 : decode cX6_answer 46 = .ok (.ireturn, 1) := by decide +kernel
theorem dX6_answer_47 : decode cX6_answer 47 = .ok (.aload_n 0, 1) := by decide +kernel
theorem dX6_answer_48 : decode cX6_answer 48 = .ok (.getfield 12, 3) := by decide +kernel
theorem dX6_answer_51 : decode cX6_answer 51 = .ok (.getfield 60, 3) := by decide +kernel
theorem dX6_answer_54 : decode cX6_answer 54 = .ok (.ireturn, 1) := by decide +kernel
theorem dX6_answer_55 : decode cX6_answer 55 = .ok (.aload_n 0, 1) := by decide +kernel
theorem dX6_answer_56 : decode cX6_answer 56 = .ok (.getfield 12, 3) := by decide +kernel
theorem dX6_answer_59 : decode cX6_answer 59 = .ok (.iload_n 1, 1) := by decide +kernel
theorem dX6_answer_60 : decode cX6_answer 60 = .ok (.bipush 10, 2) := by decide +kernel
theorem dX6_answer_62 : decode cX6_answer 62 = .ok (.isub, 1) := by decide +kernel
theorem dX6_answer_63 : decode cX6_answer 63 = .ok (.invokevirtual 63, 3) := by decide +kernel
theorem dX6_answer_66 : decode cX6_answer 66 = .ok (.ifCond .eq 17, 3) := by decide +kernel
theorem dX6_answer_69 : decode cX6_answer 69 = .ok (.aload_n 0, 1) := by decide +kernel
theorem dX6_answer_70 : decode cX6_answer 70 = .ok (.getfield 12, 3) := by decide +kernel
theorem dX6_answer_73 : decode cX6_answer 73 = .ok (.iload_n 1, 1) := by decide +kernel
theorem dX6_answer_74 : decode cX6_answer 74 = .ok (.bipush 10, 2) := by decide +kernel
theorem dX6_answer_76 : decode cX6_answer 76 = .ok (.isub, 1) := by decide +kernel
theorem dX6_answer_77 : decode cX6_answer 77 = .ok (.invokevirtual 56, 3) := by decide +kernel
theorem dX6_answer_80 : decode cX6_answer 80 = .ok (.goto 5, 3) := by decide +kernel
theorem dX6_answer_83 : decode cX6_answer 83 = .ok (.bipush (-9), 2) := by decide +kernel
theorem dX6_answer_85 : decode cX6_answer 85 = .ok (.ireturn, 1) := by decide +kernel
