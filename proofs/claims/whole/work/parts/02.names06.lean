theorem dX9_priceOf_13 : decode cX9_priceOf 13 = .ok (.iload_n 1, 1) := by decide +kernel
theorem dX9_priceOf_14 : decode cX9_priceOf 14 = .ok (.iload_n 3, 1) := by decide +kernel
theorem dX9_priceOf_15 : decode cX9_priceOf 15 = .ok (.ishr, 1) := by decide +kernel
theorem dX9_priceOf_16 : decode cX9_priceOf 16 = .ok (.iconst 1, 1) := by decide +kernel
theorem dX9_priceOf_17 : decode cX9_priceOf 17 = .ok (.iand, 1) := by decide +kernel
theorem dX9_priceOf_18 : decode cX9_priceOf 18 = .ok (.iconst 1, 1) := by decide +kernel
theorem dX9_priceOf_19 : decode cX9_priceOf 19 = .ok (.if_icmp .ne 12, 3) := by decide +kernel
theorem dX9_priceOf_22 : decode cX9_priceOf 22 = .ok (.aload_n 0, 1) := by decide +kernel
theorem dX9_priceOf_23 : decode cX9_priceOf 23 = .ok (.getfield 54, 3) := by decide +kernel
theorem dX9_priceOf_26 : decode cX9_priceOf 26 = .ok (.iload_n 3, 1) := by decide +kernel
theorem dX9_priceOf_27 : decode cX9_priceOf 27 = .ok (.iaload, 1) := by decide +kernel
theorem dX9_priceOf_28 : decode cX9_priceOf 28 = .ok (.goto 4, 3) := by decide +kernel
theorem dX9_priceOf_31 : decode cX9_priceOf 31 = .ok (.iconst 0, 1) := by decide +kernel
theorem dX9_priceOf_32 : decode cX9_priceOf 32 = .ok (.iadd, 1) := by decide +kernel
theorem dX9_priceOf_33 : decode cX9_priceOf 33 = .ok (.istore_n 2, 1) := by decide +kernel
theorem dX9_priceOf_34 : decode cX9_priceOf 34 = .ok (.iinc 3 1, 3) := by decide +kernel
theorem dX9_priceOf_37 : decode cX9_priceOf 37 = .ok (.goto (-33), 3) := by decide +kernel
theorem dX9_priceOf_40 : decode cX9_priceOf 40 = .ok (.iload_n 2, 1) := by decide +kernel
theorem dX9_priceOf_41 : decode cX9_priceOf 41 = .ok (.ireturn, 1) := by decide +kernel
set_option maxRecDepth 20000 in
theorem ggX9_price_X9_lies : GoodIn wsX9_price wsX9_lies := goodIn_r _ [5] (by decide +kernel) (by decide +kernel)
set_option maxRecDepth 20000 in
theorem gX9_price_X9_lies : GoodIn wsX9_price (va_wsS RX9 91 yX9_lies wsX9_lies) := goodIn_app (goodIn_of _ (by decide +kernel)) ggX9_price_X9_lies
set_option maxRecDepth 20000 in
theorem ggX9_price_X9_priceOf : GoodIn wsX9_price wsX9_priceOf := goodIn_r _ [9, 1, 10, 11, 12, 13, 14, 15, 16, 17, 18, 19, 20, 21, 22, 23, 24, 25, 26, 27, 28, 29, 30, 31, 32, 33, 34, 35, 36, 37, 38, 39, 40] (by decide +kernel) (by decide +kernel)
set_option maxRecDepth 20000 in
theorem gX9_price_X9_priceOf : GoodIn wsX9_price (wsV RX9 162 RX9 yX9_priceOf wsX9_priceOf) := goodIn_app (goodIn_of _ (by decide +kernel)) ggX9_price_X9_priceOf
theorem dX9_price_0 : decode cX9_price 0 = .ok (.iload_n 1, 1) := by decide +kernel
theorem dX9_price_1 : decode cX9_price 1 = .ok (.iconst 0, 1) := by decide +kernel
theorem dX9_price_2 : decode cX9_price 2 = .ok (.iconst 1, 1) := by decide +kernel
theorem dX9_price_3 : decode cX9_price 3 = .ok (.aload_n 0, 1) := by decide +kernel
theorem dX9_price_4 : decode cX9_price 4 = .ok (.getfield 121, 3) := by decide +kernel
theorem dX9_price_7 : decode cX9_price 7 = .ok (.ishl, 1) := by decide +kernel
theorem dX9_price_8 : decode cX9_price 8 = .ok (.iconst 1, 1) := by decide +kernel
theorem dX9_price_9 : decode cX9_price 9 = .ok (.isub, 1) := by decide +kernel
theorem dX9_price_10 : decode cX9_price 10 = .ok (.invokestatic 91, 3) := by decide +kernel
theorem dX9_price_13 : decode cX9_price 13 = .ok (.ifCond .eq 11, 3) := by decide +kernel
theorem dX9_price_16 : decode cX9_price 16 = .ok (.aload_n 0, 1) := by decide +kernel
theorem dX9_price_17 : decode cX9_price 17 = .ok (.iload_n 1, 1) := by decide +kernel
theorem dX9_price_18 : decode cX9_price 18 = .ok (.invokevirtual 162, 3) := by decide +kernel
theorem dX9_price_21 : decode cX9_price 21 = .ok (.goto 4, 3) := by decide +kernel
theorem dX9_price_24 : decode cX9_price 24 = .ok (.iconst (-1), 1) := by decide +kernel
theorem dX9_price_25 : decode cX9_price 25 = .ok (.ireturn, 1) := by decide +kernel
set_option maxRecDepth 20000 in
theorem ggX9_quarrelsWith_X9_asItIs : GoodIn wsX9_quarrelsWith wsX9_asItIs := goodIn_r _ [12, 13, 6, 14, 15, 3, 16, 17, 58, 59, 60, 61, 62, 63, 64, 65, 66, 67, 68, 69, 70, 71, 72, 73, 74, 75, 76, 77, 78, 79, 80, 81, 82, 83, 84, 85, 86, 87] (by decide +kernel) (by decide +kernel)
set_option maxRecDepth 20000 in
theorem gX9_quarrelsWith_X9_asItIs : GoodIn wsX9_quarrelsWith (wsV RX9 111 RX9 yX9_asItIs wsX9_asItIs) := goodIn_app (goodIn_of _ (by decide +kernel)) ggX9_quarrelsWith_X9_asItIs
set_option maxRecDepth 20000 in
theorem ggX9_quarrelsWith_X9_orders : GoodIn wsX9_quarrelsWith wsX9_orders := goodIn_r _ [21, 22, 15, 13, 6, 23, 24, 25, 26, 58, 59, 60, 61, 62, 63, 64, 65, 66, 67, 68, 69, 70, 71, 72, 73, 74, 75, 76, 77, 78, 79, 80, 81, 82, 83, 84, 85, 86, 87] (by decide +kernel) (by decide +kernel)
set_option maxRecDepth 20000 in
theorem gX9_quarrelsWith_X9_orders : GoodIn wsX9_quarrelsWith (wsV RX9 139 RX9 yX9_orders wsX9_orders) := goodIn_app (goodIn_of _ (by decide +kernel)) ggX9_quarrelsWith_X9_orders
set_option maxRecDepth 20000 in
theorem ggX9_quarrelsWith_X9_reaches : GoodIn wsX9_quarrelsWith wsX9_reaches := goodIn_r _ [30, 31, 13, 6, 23, 24, 58, 59, 60, 61, 62, 63, 64, 65, 66, 67, 68, 69, 70, 71, 72, 73, 74, 75, 76, 77, 78, 79, 80, 81, 82, 83, 84, 85, 86, 87] (by decide +kernel) (by decide +kernel)
set_option maxRecDepth 20000 in
theorem gX9_quarrelsWith_X9_reaches : GoodIn wsX9_quarrelsWith (wsV RX9 114 RX9 yX9_reaches wsX9_reaches) := goodIn_app (goodIn_of _ (by decide +kernel)) ggX9_quarrelsWith_X9_reaches
set_option maxRecDepth 20000 in
theorem ggX9_quarrelsWith_X9_comes : GoodIn wsX9_quarrelsWith wsX9_comes := goodIn_r _ [35, 15, 36, 25, 26, 23, 24, 37, 38, 39, 40, 41, 11, 42, 43, 3, 44, 45, 58, 59, 60, 61, 62, 63, 64, 65, 66, 67, 68, 69, 70, 71, 72, 73, 74, 75, 76, 77, 78, 79, 80, 81, 82, 83, 84, 85, 86, 87] (by decide +kernel) (by decide +kernel)
set_option maxRecDepth 20000 in
theorem gX9_quarrelsWith_X9_comes : GoodIn wsX9_quarrelsWith (wsV RX9 142 RX9 yX9_comes wsX9_comes) := goodIn_app (goodIn_of _ (by decide +kernel)) ggX9_quarrelsWith_X9_comes
set_option maxRecDepth 20000 in
theorem ggX9_quarrelsWith_X9_quarrelsNow : GoodIn wsX9_quarrelsWith wsX9_quarrelsNow := goodIn_r _ [49, 15, 31, 36, 3, 50, 51, 52, 11, 53, 54, 55, 56, 57, 58, 59, 60, 61, 62, 63, 64, 65, 66, 67, 68, 69, 70, 71, 72, 73, 74, 75, 76, 77, 78, 79, 80, 81, 82, 83, 84, 85, 86, 87] (by decide +kernel) (by decide +kernel)
set_option maxRecDepth 20000 in
theorem gX9_quarrelsWith_X9_quarrelsNow : GoodIn wsX9_quarrelsWith (wsV RX9 153 RX9 yX9_quarrelsNow wsX9_quarrelsNow) := goodIn_app (goodIn_of _ (by decide +kernel)) ggX9_quarrelsWith_X9_quarrelsNow
theorem dX9_quarrelsWith_0 : decode cX9_quarrelsWith 0 = .ok (.aload_n 0, 1) := by decide +kernel
theorem dX9_quarrelsWith_1 : decode cX9_quarrelsWith 1 = .ok (.invokevirtual 111, 3) := by decide +kernel
theorem dX9_quarrelsWith_4 : decode cX9_quarrelsWith 4 = .ok (.iconst 0, 1) := by decide +kernel
theorem dX9_quarrelsWith_5 : decode cX9_quarrelsWith 5 = .ok (.istore_n 3, 1) := by decide +kernel
theorem dX9_quarrelsWith_6 : decode cX9_quarrelsWith 6 = .ok (.iload_n 3, 1) := by decide +kernel
theorem dX9_quarrelsWith_7 : decode cX9_quarrelsWith 7 = .ok (.aload_n 0, 1) := by decide +kernel
theorem dX9_quarrelsWith_8 : decode cX9_quarrelsWith 8 = .ok (.getfield 121, 3) := by decide +kernel
theorem dX9_quarrelsWith_11 : decode cX9_quarrelsWith 11 = .ok (.if_icmp .ge 61, 3) := by decide +kernel
theorem dX9_quarrelsWith_14 : decode cX9_quarrelsWith 14 = .ok (.iload_n 2, 1) := by decide +kernel
theorem dX9_quarrelsWith_15 : decode cX9_quarrelsWith 15 = .ok (.iload_n 3, 1) := by decide +kernel
theorem dX9_quarrelsWith_16 : decode cX9_quarrelsWith 16 = .ok (.ishr, 1) := by decide +kernel
theorem dX9_quarrelsWith_17 : decode cX9_quarrelsWith 17 = .ok (.iconst 1, 1) := by decide +kernel
theorem dX9_quarrelsWith_18 : decode cX9_quarrelsWith 18 = .ok (.iand, 1) := by decide +kernel
theorem dX9_quarrelsWith_19 : decode cX9_quarrelsWith 19 = .ok (.ifCond .ne 6, 3) := by decide +kernel
theorem dX9_quarrelsWith_22 : decode cX9_quarrelsWith 22 = .ok (.goto 44, 3) := by decide +kernel
theorem dX9_quarrelsWith_25 : decode cX9_quarrelsWith 25 = .ok (.aload_n 0, 1) := by decide +kernel
theorem dX9_quarrelsWith_26 : decode cX9_quarrelsWith 26 = .ok (.getfield 45, 3) := by decide +kernel
theorem dX9_quarrelsWith_29 : decode cX9_quarrelsWith 29 = .ok (.iload_n 3, 1) := by decide +kernel
theorem dX9_quarrelsWith_30 : decode cX9_quarrelsWith 30 = .ok (.iaload, 1) := by decide +kernel
theorem dX9_quarrelsWith_31 : decode cX9_quarrelsWith 31 = .ok (.ifCond .ne 23, 3) := by decide +kernel
theorem dX9_quarrelsWith_34 : decode cX9_quarrelsWith 34 = .ok (.aload_n 0, 1) := by decide +kernel
theorem dX9_quarrelsWith_35 : decode cX9_quarrelsWith 35 = .ok (.getfield 63, 3) := by decide +kernel
theorem dX9_quarrelsWith_38 : decode cX9_quarrelsWith 38 = .ok (.aload_n 0, 1) := by decide +kernel
theorem dX9_quarrelsWith_39 : decode cX9_quarrelsWith 39 = .ok (.getfield 48, 3) := by decide +kernel
theorem dX9_quarrelsWith_42 : decode cX9_quarrelsWith 42 = .ok (.iload_n 3, 1) := by decide +kernel
theorem dX9_quarrelsWith_43 : decode cX9_quarrelsWith 43 = .ok (.iaload, 1) := by decide +kernel
theorem dX9_quarrelsWith_44 : decode cX9_quarrelsWith 44 = .ok (.aload_n 0, 1) := by decide +kernel
theorem dX9_quarrelsWith_45 : decode cX9_quarrelsWith 45 = .ok (.getfield 51, 3) := by decide +kernel
theorem dX9_quarrelsWith_48 : decode cX9_quarrelsWith 48 = .ok (.iload_n 3, 1) := by decide +kernel
theorem dX9_quarrelsWith_49 : decode cX9_quarrelsWith 49 = .ok (.iaload, 1) := by decide +kernel
theorem dX9_quarrelsWith_50 : decode cX9_quarrelsWith 50 = .ok (.iastore, 1) := by decide +kernel
theorem dX9_quarrelsWith_51 : decode cX9_quarrelsWith 51 = .ok (.goto 15, 3) := by decide +kernel
theorem dX9_quarrelsWith_54 : decode cX9_quarrelsWith 54 = .ok (.aload_n 0, 1) := by decide +kernel
theorem dX9_quarrelsWith_55 : decode cX9_quarrelsWith 55 = .ok (.getfield 60, 3) := by decide +kernel
theorem dX9_quarrelsWith_58 : decode cX9_quarrelsWith 58 = .ok (.aload_n 0, 1) := by decide +kernel
theorem dX9_quarrelsWith_59 : decode cX9_quarrelsWith 59 = .ok (.getfield 48, 3) := by decide +kernel
theorem dX9_quarrelsWith_62 : decode cX9_quarrelsWith 62 = .ok (.iload_n 3, 1) := by decide +kernel
theorem dX9_quarrelsWith_63 : decode cX9_quarrelsWith 63 = .ok (.iaload, 1) := by decide +kernel
theorem dX9_quarrelsWith_64 : decode cX9_quarrelsWith 64 = .ok (.iconst 1, 1) := by decide +kernel
theorem dX9_quarrelsWith_65 : decode cX9_quarrelsWith 65 = .ok (.bastore, 1) := by decide +kernel
theorem dX9_quarrelsWith_66 : decode cX9_quarrelsWith 66 = .ok (.iinc 3 1, 3) := by decide +kernel
theorem dX9_quarrelsWith_69 : decode cX9_quarrelsWith 69 = .ok (.goto (-63), 3) := by decide +kernel
theorem dX9_quarrelsWith_72 : decode cX9_quarrelsWith 72 = .ok (.aload_n 0, 1) := by decide +kernel
theorem dX9_quarrelsWith_73 : decode cX9_quarrelsWith 73 = .ok (.invokevirtual 139, 3) := by decide +kernel
theorem dX9_quarrelsWith_76 : decode cX9_quarrelsWith 76 = .ok (.aload_n 0, 1) := by decide +kernel
theorem dX9_quarrelsWith_77 : decode cX9_quarrelsWith 77 = .ok (.aload_n 0, 1) := by decide +kernel
theorem dX9_quarrelsWith_78 : decode cX9_quarrelsWith 78 = .ok (.getfield 118, 3) := by decide +kernel
theorem dX9_quarrelsWith_81 : decode cX9_quarrelsWith 81 = .ok (.invokevirtual 114, 3) := by decide +kernel
theorem dX9_quarrelsWith_84 : decode cX9_quarrelsWith 84 = .ok (.aload_n 0, 1) := by decide +kernel
theorem dX9_quarrelsWith_85 : decode cX9_quarrelsWith 85 = .ok (.iload_n 1, 1) := by decide +kernel
theorem dX9_quarrelsWith_86 : decode cX9_quarrelsWith 86 = .ok (.invokevirtual 142, 3) := by decide +kernel
theorem dX9_quarrelsWith_89 : decode cX9_quarrelsWith 89 = .ok (.aload_n 0, 1) := by decide +kernel
theorem dX9_quarrelsWith_90 : decode cX9_quarrelsWith 90 = .ok (.invokevirtual 153, 3) := by decide +kernel
theorem dX9_quarrelsWith_93 : decode cX9_quarrelsWith 93 = .ok (.ireturn, 1) := by decide +kernel
set_option maxRecDepth 20000 in
theorem ggX9_isAhead_X9_bits : GoodIn wsX9_isAhead wsX9_bits := goodIn_r _ [4] (by decide +kernel) (by decide +kernel)
set_option maxRecDepth 20000 in
theorem gX9_isAhead_X9_bits : GoodIn wsX9_isAhead (va_wsS RX9 135 yX9_bits wsX9_bits) := goodIn_app (goodIn_of _ (by decide +kernel)) ggX9_isAhead_X9_bits
theorem dX9_isAhead_0 : decode cX9_isAhead 0 = .ok (.iload_n 0, 1) := by decide +kernel
theorem dX9_isAhead_1 : decode cX9_isAhead 1 = .ok (.i2l, 1) := by decide +kernel
theorem dX9_isAhead_2 : decode cX9_isAhead 2 = .ok (.invokestatic 135, 3) := by decide +kernel
theorem dX9_isAhead_5 : decode cX9_isAhead 5 = .ok (.iload_n 1, 1) := by decide +kernel
theorem dX9_isAhead_6 : decode cX9_isAhead 6 = .ok (.i2l, 1) := by decide +kernel
theorem dX9_isAhead_7 : decode cX9_isAhead 7 = .ok (.invokestatic 135, 3) := by decide +kernel
theorem dX9_isAhead_10 : decode cX9_isAhead 10 = .ok (.if_icmp .eq 22, 3) := by decide +kernel
theorem dX9_isAhead_13 : decode cX9_isAhead 13 = .ok (.iload_n 0, 1) := by decide +kernel
theorem dX9_isAhead_14 : decode cX9_isAhead 14 = .ok (.i2l, 1) := by decide +kernel
theorem dX9_isAhead_15 : decode cX9_isAhead 15 = .ok (.invokestatic 135, 3) := by decide +kernel
theorem dX9_isAhead_18 : decode cX9_isAhead 18 = .ok (.iload_n 1, 1) := by decide +kernel
theorem dX9_isAhead_19 : decode cX9_isAhead 19 = .ok (.i2l, 1) := by decide +kernel
theorem dX9_isAhead_20 : decode cX9_isAhead 20 = .ok (.invokestatic 135, 3) := by decide +kernel
theorem dX9_isAhead_23 : decode cX9_isAhead 23 = .ok (.if_icmp .ge 7, 3) := by decide +kernel
theorem dX9_isAhead_26 : decode cX9_isAhead 26 = .ok (.iconst 1, 1) := by decide +kernel
theorem dX9_isAhead_27 : decode cX9_isAhead 27 = .ok (.goto 4, 3) := by decide +kernel
theorem dX9_isAhead_30 : decode cX9_isAhead 30 = .ok (.iconst 0, 1) := by decide +kernel
theorem dX9_isAhead_31 : decode cX9_isAhead 31 = .ok (.ireturn, 1) := by decide +kernel
theorem dX9_isAhead_32 : decode cX9_isAhead 32 = .ok (.iload_n 0, 1) := by decide +kernel
theorem dX9_isAhead_33 : decode cX9_isAhead 33 = .ok (.iload_n 1, 1) := by decide +kernel
theorem dX9_isAhead_34 : decode cX9_isAhead 34 = .ok (.ixor, 1) := by decide +kernel
theorem dX9_isAhead_35 : decode cX9_isAhead 35 = .ok (.iload_n 0, 1) := by decide +kernel
theorem dX9_isAhead_36 : decode cX9_isAhead 36 = .ok (.iload_n 1, 1) := by decide +kernel
theorem dX9_isAhead_37 : decode cX9_isAhead 37 = .ok (.ixor, 1) := by decide +kernel
theorem dX9_isAhead_38 : decode cX9_isAhead 38 = .ok (.ineg, 1) := by decide +kernel
theorem dX9_isAhead_39 : decode cX9_isAhead 39 = .ok (.iand, 1) := by decide +kernel
theorem dX9_isAhead_40 : decode cX9_isAhead 40 = .ok (.istore_n 2, 1) := by decide +kernel
theorem dX9_isAhead_41 : decode cX9_isAhead 41 = .ok (.iload_n 0, 1) := by decide +kernel
theorem dX9_isAhead_42 : decode cX9_isAhead 42 = .ok (.iload_n 2, 1) := by decide +kernel
theorem dX9_isAhead_43 : decode cX9_isAhead 43 = .ok (.iand, 1) := by decide +kernel
theorem dX9_isAhead_44 : decode cX9_isAhead 44 = .ok (.ifCond .eq 7, 3) := by decide +kernel
theorem dX9_isAhead_47 : decode cX9_isAhead 47 = .ok (.iconst 1, 1) := by decide +kernel
theorem dX9_isAhead_48 : decode cX9_isAhead 48 = .ok (.goto 4, 3) := by decide +kernel
theorem dX9_isAhead_51 : decode cX9_isAhead 51 = .ok (.iconst 0, 1) := by decide +kernel
theorem dX9_isAhead_52 : decode cX9_isAhead 52 = .ok (.ireturn, 1) := by decide +kernel
set_option maxRecDepth 20000 in
theorem ggX9_cheapest_X9_isShipping : GoodIn wsX9_cheapest wsX9_isShipping := goodIn_r _ [5, 6, 7, 4, 8] (by decide +kernel) (by decide +kernel)
set_option maxRecDepth 20000 in
theorem gX9_cheapest_X9_isShipping : GoodIn wsX9_cheapest (va_wsS RX9 145 yX9_isShipping wsX9_isShipping) := goodIn_app (goodIn_of _ (by decide +kernel)) ggX9_cheapest_X9_isShipping
set_option maxRecDepth 20000 in
theorem ggX9_cheapest_X9_priceOf : GoodIn wsX9_cheapest wsX9_priceOf := goodIn_r _ [12, 1, 13, 76, 77, 78, 79, 80, 81, 82, 83, 84, 85, 86, 87, 88, 89, 90, 91, 92, 93, 94, 95, 96, 97, 98, 99, 100, 101, 102, 103, 104, 105] (by decide +kernel) (by decide +kernel)
set_option maxRecDepth 20000 in
theorem gX9_cheapest_X9_priceOf : GoodIn wsX9_cheapest (wsV RX9 162 RX9 yX9_priceOf wsX9_priceOf) := goodIn_app (goodIn_of _ (by decide +kernel)) ggX9_cheapest_X9_priceOf
set_option maxRecDepth 20000 in
theorem ggX9_cheapest_X9_isAhead : GoodIn wsX9_cheapest wsX9_isAhead := goodIn_r _ [16, 17, 18, 4, 19] (by decide +kernel) (by decide +kernel)
set_option maxRecDepth 20000 in
theorem gX9_cheapest_X9_isAhead : GoodIn wsX9_cheapest (va_wsS RX9 166 yX9_isAhead wsX9_isAhead) := goodIn_app (goodIn_of _ (by decide +kernel)) ggX9_cheapest_X9_isAhead
set_option maxRecDepth 20000 in
theorem ggX9_cheapest_X9_quarrelsWith : GoodIn wsX9_cheapest wsX9_quarrelsWith := goodIn_r _ [23, 1, 24, 25, 26, 27, 28, 29, 30, 31, 32, 4, 33, 34, 35, 36, 37, 38, 39, 40, 41, 42, 43, 44, 45, 46, 47, 48, 49, 50, 51, 52, 53, 54, 55, 56, 57, 58, 59, 60, 61, 62, 63, 64, 65, 66, 67, 68, 69, 70, 71, 72, 73, 74, 75, 17, 18, 19, 76, 77, 78, 79, 80, 81, 82, 83, 84, 85, 86, 87, 88, 89, 90, 91, 92, 93, 94, 95, 96, 97, 98, 99, 100, 101, 102, 103, 104, 105] (by decide +kernel) (by decide +kernel)
set_option maxRecDepth 20000 in
theorem gX9_cheapest_X9_quarrelsWith : GoodIn wsX9_cheapest (wsV RX9 170 RX9 yX9_quarrelsWith wsX9_quarrelsWith) := goodIn_app (goodIn_of _ (by decide +kernel)) ggX9_cheapest_X9_quarrelsWith
theorem dX9_cheapest_0 : decode cX9_cheapest 0 = .ok (.iload_n 1, 1) := by decide +kernel
theorem dX9_cheapest_1 : decode cX9_cheapest 1 = .ok (.invokestatic 145, 3) := by decide +kernel
theorem dX9_cheapest_4 : decode cX9_cheapest 4 = .ok (.ifCond .ne 5, 3) := by decide +kernel
theorem dX9_cheapest_7 : decode cX9_cheapest 7 = .ok (.iconst (-1), 1) := by decide +kernel
theorem dX9_cheapest_8 : decode cX9_cheapest 8 = .ok (.ireturn, 1) := by decide +kernel
theorem dX9_cheapest_9 : decode cX9_cheapest 9 = .ok (.iconst (-1), 1) := by decide +kernel
theorem dX9_cheapest_10 : decode cX9_cheapest 10 = .ok (.istore_n 2, 1) := by decide +kernel
theorem dX9_cheapest_11 : decode cX9_cheapest 11 = .ok (.iconst 0, 1) := by decide +kernel
theorem dX9_cheapest_12 : decode cX9_cheapest 12 = .ok (.istore_n 3, 1) := by decide +kernel
theorem dX9_cheapest_13 : decode cX9_cheapest 13 = .ok (.iload_n 3, 1) := by decide +kernel
theorem dX9_cheapest_14 : decode cX9_cheapest 14 = .ok (.iconst 1, 1) := by decide +kernel
theorem dX9_cheapest_15 : decode cX9_cheapest 15 = .ok (.aload_n 0, 1) := by decide +kernel
theorem dX9_cheapest_16 : decode cX9_cheapest 16 = .ok (.getfield 121, 3) := by decide +kernel
theorem dX9_cheapest_19 : decode cX9_cheapest 19 = .ok (.ishl, 1) := by decide +kernel
theorem dX9_cheapest_20 : decode cX9_cheapest 20 = .ok (.if_icmp .ge 63, 3) := by decide +kernel
theorem dX9_cheapest_23 : decode cX9_cheapest 23 = .ok (.aload_n 0, 1) := by decide +kernel
theorem dX9_cheapest_24 : decode cX9_cheapest 24 = .ok (.iload_n 3, 1) := by decide +kernel
theorem dX9_cheapest_25 : decode cX9_cheapest 25 = .ok (.invokevirtual 162, 3) := by decide +kernel
theorem dX9_cheapest_28 : decode cX9_cheapest 28 = .ok (.istore 4, 2) := by decide +kernel
theorem dX9_cheapest_30 : decode cX9_cheapest 30 = .ok (.iload_n 2, 1) := by decide +kernel
theorem dX9_cheapest_31 : decode cX9_cheapest 31 = .ok (.iconst (-1), 1) := by decide +kernel
theorem dX9_cheapest_32 : decode cX9_cheapest 32 = .ok (.if_icmp .eq 31, 3) := by decide +kernel
theorem dX9_cheapest_35 : decode cX9_cheapest 35 = .ok (.iload 4, 2) := by decide +kernel
theorem dX9_cheapest_37 : decode cX9_cheapest 37 = .ok (.aload_n 0, 1) := by decide +kernel
theorem dX9_cheapest_38 : decode cX9_cheapest 38 = .ok (.iload_n 2, 1) := by decide +kernel
theorem dX9_cheapest_39 : decode cX9_cheapest 39 = .ok (.invokevirtual 162, 3) := by decide +kernel
theorem dX9_cheapest_42 : decode cX9_cheapest 42 = .ok (.if_icmp .gt 35, 3) := by decide +kernel
theorem dX9_cheapest_45 : decode cX9_cheapest 45 = .ok (.iload 4, 2) := by decide +kernel
theorem dX9_cheapest_47 : decode cX9_cheapest 47 = .ok (.aload_n 0, 1) := by decide +kernel
theorem dX9_cheapest_48 : decode cX9_cheapest 48 = .ok (.iload_n 2, 1) := by decide +kernel
theorem dX9_cheapest_49 : decode cX9_cheapest 49 = .ok (.invokevirtual 162, 3) := by decide +kernel
theorem dX9_cheapest_52 : decode cX9_cheapest 52 = .ok (.if_icmp .ne 11, 3) := by decide +kernel
theorem dX9_cheapest_55 : decode cX9_cheapest 55 = .ok (.iload_n 3, 1) := by decide +kernel
theorem dX9_cheapest_56 : decode cX9_cheapest 56 = .ok (.iload_n 2, 1) := by decide +kernel
theorem dX9_cheapest_57 : decode cX9_cheapest 57 = .ok (.invokestatic 166, 3) := by decide +kernel
theorem dX9_cheapest_60 : decode cX9_cheapest 60 = .ok (.ifCond .eq 17, 3) := by decide +kernel
theorem dX9_cheapest_63 : decode cX9_cheapest 63 = .ok (.aload_n 0, 1) := by decide +kernel
theorem dX9_cheapest_64 : decode cX9_cheapest 64 = .ok (.iload_n 1, 1) := by decide +kernel
theorem dX9_cheapest_65 : decode cX9_cheapest 65 = .ok (.iload_n 3, 1) := by decide +kernel
theorem dX9_cheapest_66 : decode cX9_cheapest 66 = .ok (.invokevirtual 170, 3) := by decide +kernel
theorem dX9_cheapest_69 : decode cX9_cheapest 69 = .ok (.ifCond .le 6, 3) := by decide +kernel
theorem dX9_cheapest_72 : decode cX9_cheapest 72 = .ok (.goto 5, 3) := by decide +kernel
theorem dX9_cheapest_75 : decode cX9_cheapest 75 = .ok (.iload_n 3, 1) := by decide +kernel
theorem dX9_cheapest_76 : decode cX9_cheapest 76 = .ok (.istore_n 2, 1) := by decide +kernel
theorem dX9_cheapest_77 : decode cX9_cheapest 77 = .ok (.iinc 3 1, 3) := by decide +kernel
theorem dX9_cheapest_80 : decode cX9_cheapest 80 = .ok (.goto (-67), 3) := by decide +kernel
theorem dX9_cheapest_83 : decode cX9_cheapest 83 = .ok (.iload_n 2, 1) := by decide +kernel
theorem dX9_cheapest_84 : decode cX9_cheapest 84 = .ok (.ireturn, 1) := by decide +kernel
set_option maxRecDepth 20000 in
theorem ggX9_measures_X9_bit : GoodIn wsX9_measures wsX9_bit := goodIn_r _ [12] (by decide +kernel) (by decide +kernel)
set_option maxRecDepth 20000 in
theorem gX9_measures_X9_bit : GoodIn wsX9_measures (va_wsS RX9 99 yX9_bit wsX9_bit) := goodIn_app (goodIn_of _ (by decide +kernel)) ggX9_measures_X9_bit
theorem dX9_measures_0 : decode cX9_measures 0 = .ok (.iconst 0, 1) := by decide +kernel
theorem dX9_measures_1 : decode cX9_measures 1 = .ok (.istore 4, 2) := by decide +kernel
theorem dX9_measures_3 : decode cX9_measures 3 = .ok (.iload 4, 2) := by decide +kernel
theorem dX9_measures_5 : decode cX9_measures 5 = .ok (.bipush 24, 2) := by decide +kernel
theorem dX9_measures_7 : decode cX9_measures 7 = .ok (.if_icmp .ge 28, 3) := by decide +kernel
theorem dX9_measures_10 : decode cX9_measures 10 = .ok (.aload_n 0, 1) := by decide +kernel
theorem dX9_measures_11 : decode cX9_measures 11 = .ok (.getfield 81, 3) := by decide +kernel
theorem dX9_measures_14 : decode cX9_measures 14 = .ok (.iload 4, 2) := by decide +kernel
theorem dX9_measures_16 : decode cX9_measures 16 = .ok (.iload 4, 2) := by decide +kernel
theorem dX9_measures_18 : decode cX9_measures 18 = .ok (.iload_n 3, 1) := by decide +kernel
theorem dX9_measures_19 : decode cX9_measures 19 = .ok (.if_icmp .ne 7, 3) := by decide +kernel
theorem dX9_measures_22 : decode cX9_measures 22 = .ok (.iconst 0, 1) := by decide +kernel
theorem dX9_measures_23 : decode cX9_measures 23 = .ok (.goto 5, 3) := by decide +kernel
theorem dX9_measures_26 : decode cX9_measures 26 = .ok (.bipush 100, 2) := by decide +kernel
theorem dX9_measures_28 : decode cX9_measures 28 = .ok (.iastore, 1) := by decide +kernel
theorem dX9_measures_29 : decode cX9_measures 29 = .ok (.iinc 4 1, 3) := by decide +kernel
theorem dX9_measures_32 : decode cX9_measures 32 = .ok (.goto (-29), 3) := by decide +kernel
theorem dX9_measures_35 : decode cX9_measures 35 = .ok (.iconst 1, 1) := by decide +kernel
theorem dX9_measures_36 : decode cX9_measures 36 = .ok (.istore 4, 2) := by decide +kernel
theorem dX9_measures_38 : decode cX9_measures 38 = .ok (.iload 4, 2) := by decide +kernel
theorem dX9_measures_40 : decode cX9_measures 40 = .ok (.aload_n 0, 1) := by decide +kernel
theorem dX9_measures_41 : decode cX9_measures 41 = .ok (.getfield 87, 3) := by decide +kernel
theorem dX9_measures_44 : decode cX9_measures 44 = .ok (.if_icmp .gt 110, 3) := by decide +kernel
theorem dX9_measures_47 : decode cX9_measures 47 = .ok (.iconst 0, 1) := by decide +kernel
theorem dX9_measures_48 : decode cX9_measures 48 = .ok (.istore 5, 2) := by decide +kernel
theorem dX9_measures_50 : decode cX9_measures 50 = .ok (.iload 5, 2) := by decide +kernel
theorem dX9_measures_52 : decode cX9_measures 52 = .ok (.aload_n 0, 1) := by decide +kernel
theorem dX9_measures_53 : decode cX9_measures 53 = .ok (.getfield 108, 3) := by decide +kernel
theorem dX9_measures_56 : decode cX9_measures 56 = .ok (.if_icmp .ge 92, 3) := by decide +kernel
theorem dX9_measures_59 : decode cX9_measures 59 = .ok (.aload_n 0, 1) := by decide +kernel
theorem dX9_measures_60 : decode cX9_measures 60 = .ok (.getfield 60, 3) := by decide +kernel
theorem dX9_measures_63 : decode cX9_measures 63 = .ok (.iload 5, 2) := by decide +kernel
theorem dX9_measures_65 : decode cX9_measures 65 = .ok (.baload, 1) := by decide +kernel
theorem dX9_measures_66 : decode cX9_measures 66 = .ok (.ifCond .ne 76, 3) := by decide +kernel
theorem dX9_measures_69 : decode cX9_measures 69 = .ok (.aload_n 0, 1) := by decide +kernel
theorem dX9_measures_70 : decode cX9_measures 70 = .ok (.getfield 13, 3) := by decide +kernel
theorem dX9_measures_73 : decode cX9_measures 73 = .ok (.aload_n 0, 1) := by decide +kernel
theorem dX9_measures_74 : decode cX9_measures 74 = .ok (.getfield 38, 3) := by decide +kernel
theorem dX9_measures_77 : decode cX9_measures 77 = .ok (.iload 5, 2) := by decide +kernel
theorem dX9_measures_79 : decode cX9_measures 79 = .ok (.iaload, 1) := by decide +kernel
theorem dX9_measures_80 : decode cX9_measures 80 = .ok (.laload, 1) := by decide +kernel
theorem dX9_measures_81 : decode cX9_measures 81 = .ok (.iload_n 1, 1) := by decide +kernel
theorem dX9_measures_82 : decode cX9_measures 82 = .ok (.iload_n 2, 1) := by decide +kernel
theorem dX9_measures_83 : decode cX9_measures 83 = .ok (.invokestatic 99, 3) := by decide +kernel
theorem dX9_measures_86 : decode cX9_measures 86 = .ok (.land, 1) := by decide +kernel
theorem dX9_measures_87 : decode cX9_measures 87 = .ok (.lconst 0, 1) := by decide +kernel
theorem dX9_measures_88 : decode cX9_measures 88 = .ok (.lcmp, 1) := by decide +kernel
theorem dX9_measures_89 : decode cX9_measures 89 = .ok (.ifCond .eq 53, 3) := by decide +kernel
theorem dX9_measures_92 : decode cX9_measures 92 = .ok (.aload_n 0, 1) := by decide +kernel
theorem dX9_measures_93 : decode cX9_measures 93 = .ok (.getfield 81, 3) := by decide +kernel
theorem dX9_measures_96 : decode cX9_measures 96 = .ok (.aload_n 0, 1) := by decide +kernel
theorem dX9_measures_97 : decode cX9_measures 97 = .ok (.getfield 35, 3) := by decide +kernel
theorem dX9_measures_100 : decode cX9_measures 100 = .ok (.iload 5, 2) := by decide +kernel
theorem dX9_measures_102 : decode cX9_measures 102 = .ok (.iaload, 1) := by decide +kernel
theorem dX9_measures_103 : decode cX9_measures 103 = .ok (.iaload, 1) := by decide +kernel
theorem dX9_measures_104 : decode cX9_measures 104 = .ok (.iload 4, 2) := by decide +kernel
theorem dX9_measures_106 : decode cX9_measures 106 = .ok (.iconst 1, 1) := by decide +kernel
theorem dX9_measures_107 : decode cX9_measures 107 = .ok (.isub, 1) := by decide +kernel
theorem dX9_measures_108 : decode cX9_measures 108 = .ok (.if_icmp .ne 34, 3) := by decide +kernel
theorem dX9_measures_111 : decode cX9_measures 111 = .ok (.aload_n 0, 1) := by decide +kernel
theorem dX9_measures_112 : decode cX9_measures 112 = .ok (.getfield 81, 3) := by decide +kernel
theorem dX9_measures_115 : decode cX9_measures 115 = .ok (.aload_n 0, 1) := by decide +kernel
theorem dX9_measures_116 : decode cX9_measures 116 = .ok (.getfield 32, 3) := by decide +kernel
theorem dX9_measures_119 : decode cX9_measures 119 = .ok (.iload 5, 2) := by decide +kernel
theorem dX9_measures_121 : decode cX9_measures 121 = .ok (.iaload, 1) := by decide +kernel
theorem dX9_measures_122 : decode cX9_measures 122 = .ok (.iaload, 1) := by decide +kernel
theorem dX9_measures_123 : decode cX9_measures 123 = .ok (.iload 4, 2) := by decide +kernel
theorem dX9_measures_125 : decode cX9_measures 125 = .ok (.if_icmp .le 17, 3) := by decide +kernel
theorem dX9_measures_128 : decode cX9_measures 128 = .ok (.aload_n 0, 1) := by decide +kernel
theorem dX9_measures_129 : decode cX9_measures 129 = .ok (.getfield 81, 3) := by decide +kernel
theorem dX9_measures_132 : decode cX9_measures 132 = .ok (.aload_n 0, 1) := by decide +kernel
theorem dX9_measures_133 : decode cX9_measures 133 = .ok (.getfield 32, 3) := by decide +kernel
theorem dX9_measures_136 : decode cX9_measures 136 = .ok (.iload 5, 2) := by decide +kernel
theorem dX9_measures_138 : decode cX9_measures 138 = .ok (.iaload, 1) := by decide +kernel
theorem dX9_measures_139 : decode cX9_measures 139 = .ok (.iload 4, 2) := by decide +kernel
theorem dX9_measures_141 : decode cX9_measures 141 = .ok (.iastore, 1) := by decide +kernel
theorem dX9_measures_142 : decode cX9_measures 142 = .ok (.iinc 5 1, 3) := by decide +kernel
theorem dX9_measures_145 : decode cX9_measures 145 = .ok (.goto (-95), 3) := by decide +kernel
theorem dX9_measures_148 : decode cX9_measures 148 = .ok (.iinc 4 1, 3) := by decide +kernel
theorem dX9_measures_151 : decode cX9_measures 151 = .ok (.goto (-113), 3) := by decide +kernel
theorem dX9_measures_154 : decode cX9_measures 154 = .ok (.return_, 1) := by decide +kernel
set_option maxRecDepth 20000 in
theorem ggX9_hasBrought_X9_brings : GoodIn wsX9_hasBrought wsX9_brings := goodIn_r _ [5, 6, 7, 8, 9, 13, 14, 15, 16, 17, 18, 19, 20, 21, 22, 23, 24, 25, 26, 27, 28, 29, 30, 31, 32, 33, 34, 35, 36, 37, 38, 39, 40, 41, 42] (by decide +kernel) (by decide +kernel)
set_option maxRecDepth 20000 in
theorem gX9_hasBrought_X9_brings : GoodIn wsX9_hasBrought (wsV RX9 128 RX9 yX9_brings wsX9_brings) := goodIn_app (goodIn_of _ (by decide +kernel)) ggX9_hasBrought_X9_brings
set_option maxRecDepth 20000 in
theorem ggX9_hasBrought_X9_bit : GoodIn wsX9_hasBrought wsX9_bit := goodIn_r _ [12] (by decide +kernel) (by decide +kernel)
set_option maxRecDepth 20000 in
theorem gX9_hasBrought_X9_bit : GoodIn wsX9_hasBrought (va_wsS RX9 99 yX9_bit wsX9_bit) := goodIn_app (goodIn_of _ (by decide +kernel)) ggX9_hasBrought_X9_bit
theorem dX9_hasBrought_0 : decode cX9_hasBrought 0 = .ok (.aload_n 0, 1) := by decide +kernel
theorem dX9_hasBrought_1 : decode cX9_hasBrought 1 = .ok (.iload_n 1, 1) := by decide +kernel
theorem dX9_hasBrought_2 : decode cX9_hasBrought 2 = .ok (.iload_n 2, 1) := by decide +kernel
theorem dX9_hasBrought_3 : decode cX9_hasBrought 3 = .ok (.invokevirtual 128, 3) := by decide +kernel
theorem dX9_hasBrought_6 : decode cX9_hasBrought 6 = .ok (.iload_n 3, 1) := by decide +kernel
theorem dX9_hasBrought_7 : decode cX9_hasBrought 7 = .ok (.iload 4, 2) := by decide +kernel
theorem dX9_hasBrought_9 : decode cX9_hasBrought 9 = .ok (.invokestatic 99, 3) := by decide +kernel
theorem dX9_hasBrought_12 : decode cX9_hasBrought 12 = .ok (.land, 1) := by decide +kernel
theorem dX9_hasBrought_13 : decode cX9_hasBrought 13 = .ok (.lconst 0, 1) := by decide +kernel
theorem dX9_hasBrought_14 : decode cX9_hasBrought 14 = .ok (.lcmp, 1) := by decide +kernel
theorem dX9_hasBrought_15 : decode cX9_hasBrought 15 = .ok (.ifCond .eq 7, 3) := by decide +kernel
theorem dX9_hasBrought_18 : decode cX9_hasBrought 18 = .ok (.iconst 1, 1) := by decide +kernel
theorem dX9_hasBrought_19 : decode cX9_hasBrought 19 = .ok (.goto 4, 3) := by decide +kernel
theorem dX9_hasBrought_22 : decode cX9_hasBrought 22 = .ok (.iconst 0, 1) := by decide +kernel
theorem dX9_hasBrought_23 : decode cX9_hasBrought 23 = .ok (.ireturn, 1) := by decide +kernel
set_option maxRecDepth 20000 in
theorem ggX9_way_X9_isShipping : GoodIn wsX9_way wsX9_isShipping := goodIn_r _ [12, 13, 14, 11, 15] (by decide +kernel) (by decide +kernel)
set_option maxRecDepth 20000 in
theorem gX9_way_X9_isShipping : GoodIn wsX9_way (va_wsS RX9 145 yX9_isShipping wsX9_isShipping) := goodIn_app (goodIn_of _ (by decide +kernel)) ggX9_way_X9_isShipping
set_option maxRecDepth 20000 in
theorem ggX9_way_X9_isLicence : GoodIn wsX9_way wsX9_isLicence := goodIn_r _ [18, 13, 14, 11, 15] (by decide +kernel) (by decide +kernel)
set_option maxRecDepth 20000 in
theorem gX9_way_X9_isLicence : GoodIn wsX9_way (va_wsS RX9 95 yX9_isLicence wsX9_isLicence) := goodIn_app (goodIn_of _ (by decide +kernel)) ggX9_way_X9_isLicence
set_option maxRecDepth 20000 in
theorem ggX9_way_X9_lies : GoodIn wsX9_way wsX9_lies := goodIn_r _ [15] (by decide +kernel) (by decide +kernel)
set_option maxRecDepth 20000 in
theorem gX9_way_X9_lies : GoodIn wsX9_way (va_wsS RX9 91 yX9_lies wsX9_lies) := goodIn_app (goodIn_of _ (by decide +kernel)) ggX9_way_X9_lies
set_option maxRecDepth 20000 in
theorem ggX9_way_X9_isPart : GoodIn wsX9_way wsX9_isPart := goodIn_r _ [22, 1, 13, 14, 11, 15, 49, 50, 51, 52, 53, 54, 55, 56, 57, 58, 59, 60, 61, 62, 63, 64, 65, 66, 67, 68, 69, 70, 71, 72, 73, 74, 75, 76, 77, 78] (by decide +kernel) (by decide +kernel)
set_option maxRecDepth 20000 in
theorem gX9_way_X9_isPart : GoodIn wsX9_way (wsV RX9 105 RX9 yX9_isPart wsX9_isPart) := goodIn_app (goodIn_of _ (by decide +kernel)) ggX9_way_X9_isPart
set_option maxRecDepth 20000 in
theorem ggX9_way_X9_asItIs : GoodIn wsX9_way wsX9_asItIs := goodIn_r _ [26, 3, 4, 27, 1, 28, 29, 30, 49, 50, 51, 52, 53, 54, 55, 56, 57, 58, 59, 60, 61, 62, 63, 64, 65, 66, 67, 68, 69, 70, 71, 72, 73, 74, 75, 76, 77, 78] (by decide +kernel) (by decide +kernel)
set_option maxRecDepth 20000 in
theorem gX9_way_X9_asItIs : GoodIn wsX9_way (wsV RX9 111 RX9 yX9_asItIs wsX9_asItIs) := goodIn_app (goodIn_of _ (by decide +kernel)) ggX9_way_X9_asItIs
set_option maxRecDepth 20000 in
theorem ggX9_way_X9_measures : GoodIn wsX9_way wsX9_measures := goodIn_r _ [34, 2, 1, 3, 4, 6, 7, 8, 5, 35, 36, 11, 37, 49, 50, 51, 52, 53, 54, 55, 56, 57, 58, 59, 60, 61, 62, 63, 64, 65, 66, 67, 68, 69, 70, 71, 72, 73, 74, 75, 76, 77, 78] (by decide +kernel) (by decide +kernel)
set_option maxRecDepth 20000 in
theorem gX9_way_X9_measures : GoodIn wsX9_way (wsV RX9 174 RX9 yX9_measures wsX9_measures) := goodIn_app (goodIn_of _ (by decide +kernel)) ggX9_way_X9_measures
set_option maxRecDepth 20000 in
theorem ggX9_way_X9_hasBrought : GoodIn wsX9_way wsX9_hasBrought := goodIn_r _ [41, 42, 43, 44, 11, 45, 46, 28, 47, 48, 35, 36, 37, 49, 50, 51, 52, 53, 54, 55, 56, 57, 58, 59, 60, 61, 62, 63, 64, 65, 66, 67, 68, 69, 70, 71, 72, 73, 74, 75, 76, 77, 78] (by decide +kernel) (by decide +kernel)
set_option maxRecDepth 20000 in
theorem gX9_way_X9_hasBrought : GoodIn wsX9_way (wsV RX9 178 RX9 yX9_hasBrought wsX9_hasBrought) := goodIn_app (goodIn_of _ (by decide +kernel)) ggX9_way_X9_hasBrought
set_option maxRecDepth 20000 in
theorem ggX9_way_X9_bit : GoodIn wsX9_way wsX9_bit := goodIn_r _ [37] (by decide +kernel) (by decide +kernel)
set_option maxRecDepth 20000 in
theorem gX9_way_X9_bit : GoodIn wsX9_way (va_wsS RX9 99 yX9_bit wsX9_bit) := goodIn_app (goodIn_of _ (by decide +kernel)) ggX9_way_X9_bit
theorem dX9_way_0 : decode cX9_way 0 = .ok (.iload_n 1, 1) := by decide +kernel
theorem dX9_way_1 : decode cX9_way 1 = .ok (.invokestatic 145, 3) := by decide +kernel
theorem dX9_way_4 : decode cX9_way 4 = .ok (.ifCond .eq 34, 3) := by decide +kernel
theorem dX9_way_7 : decode cX9_way 7 = .ok (.iload_n 2, 1) := by decide +kernel
theorem dX9_way_8 : decode cX9_way 8 = .ok (.invokestatic 95, 3) := by decide +kernel
theorem dX9_way_11 : decode cX9_way 11 = .ok (.ifCond .eq 27, 3) := by decide +kernel
theorem dX9_way_14 : decode cX9_way 14 = .ok (.iload_n 3, 1) := by decide +kernel
theorem dX9_way_15 : decode cX9_way 15 = .ok (.iconst 0, 1) := by decide +kernel
theorem dX9_way_16 : decode cX9_way 16 = .ok (.bipush 7, 2) := by decide +kernel
theorem dX9_way_18 : decode cX9_way 18 = .ok (.invokestatic 91, 3) := by decide +kernel
theorem dX9_way_21 : decode cX9_way 21 = .ok (.ifCond .eq 17, 3) := by decide +kernel
theorem dX9_way_24 : decode cX9_way 24 = .ok (.aload_n 0, 1) := by decide +kernel
theorem dX9_way_25 : decode cX9_way 25 = .ok (.iload 4, 2) := by decide +kernel
theorem dX9_way_27 : decode cX9_way 27 = .ok (.invokevirtual 105, 3) := by decide +kernel
theorem dX9_way_30 : decode cX9_way 30 = .ok (.ifCond .eq 8, 3) := by decide +kernel
theorem dX9_way_33 : decode cX9_way 33 = .ok (.iload 5, 2) := by decide +kernel
theorem dX9_way_35 : decode cX9_way 35 = .ok (.ifCond .ge 5, 3) := by decide +kernel
theorem dX9_way_38 : decode cX9_way 38 = .ok (.iconst (-1), 1) := by decide +kernel
theorem dX9_way_39 : decode cX9_way 39 = .ok (.ireturn, 1) := by decide +kernel
theorem dX9_way_40 : decode cX9_way 40 = .ok (.aload_n 0, 1) := by decide +kernel
theorem dX9_way_41 : decode cX9_way 41 = .ok (.invokevirtual 111, 3) := by decide +kernel
theorem dX9_way_44 : decode cX9_way 44 = .ok (.aload_n 0, 1) := by decide +kernel
theorem dX9_way_45 : decode cX9_way 45 = .ok (.iload_n 2, 1) := by decide +kernel
theorem dX9_way_46 : decode cX9_way 46 = .ok (.iload_n 3, 1) := by decide +kernel
theorem dX9_way_47 : decode cX9_way 47 = .ok (.iload 4, 2) := by decide +kernel
theorem dX9_way_49 : decode cX9_way 49 = .ok (.invokevirtual 174, 3) := by decide +kernel
theorem dX9_way_52 : decode cX9_way 52 = .ok (.iconst (-1), 1) := by decide +kernel
theorem dX9_way_53 : decode cX9_way 53 = .ok (.istore 6, 2) := by decide +kernel
theorem dX9_way_55 : decode cX9_way 55 = .ok (.iconst 0, 1) := by decide +kernel
theorem dX9_way_56 : decode cX9_way 56 = .ok (.istore 7, 2) := by decide +kernel
theorem dX9_way_58 : decode cX9_way 58 = .ok (.iload 7, 2) := by decide +kernel
theorem dX9_way_60 : decode cX9_way 60 = .ok (.aload_n 0, 1) := by decide +kernel
theorem dX9_way_61 : decode cX9_way 61 = .ok (.getfield 87, 3) := by decide +kernel
theorem dX9_way_64 : decode cX9_way 64 = .ok (.if_icmp .ge 60, 3) := by decide +kernel
theorem dX9_way_67 : decode cX9_way 67 = .ok (.aload_n 0, 1) := by decide +kernel
theorem dX9_way_68 : decode cX9_way 68 = .ok (.iload_n 1, 1) := by decide +kernel
theorem dX9_way_69 : decode cX9_way 69 = .ok (.iload 7, 2) := by decide +kernel
theorem dX9_way_71 : decode cX9_way 71 = .ok (.iload_n 2, 1) := by decide +kernel
theorem dX9_way_72 : decode cX9_way 72 = .ok (.iload_n 3, 1) := by decide +kernel
theorem dX9_way_73 : decode cX9_way 73 = .ok (.invokevirtual 178, 3) := by decide +kernel
theorem dX9_way_76 : decode cX9_way 76 = .ok (.ifCond .eq 42, 3) := by decide +kernel
theorem dX9_way_79 : decode cX9_way 79 = .ok (.aload_n 0, 1) := by decide +kernel
theorem dX9_way_80 : decode cX9_way 80 = .ok (.getfield 81, 3) := by decide +kernel
theorem dX9_way_83 : decode cX9_way 83 = .ok (.iload 7, 2) := by decide +kernel
theorem dX9_way_85 : decode cX9_way 85 = .ok (.iaload, 1) := by decide +kernel
theorem dX9_way_86 : decode cX9_way 86 = .ok (.bipush 100, 2) := by decide +kernel
theorem dX9_way_88 : decode cX9_way 88 = .ok (.if_icmp .ge 30, 3) := by decide +kernel
theorem dX9_way_91 : decode cX9_way 91 = .ok (.iload 6, 2) := by decide +kernel
theorem dX9_way_93 : decode cX9_way 93 = .ok (.iconst (-1), 1) := by decide +kernel
theorem dX9_way_94 : decode cX9_way 94 = .ok (.if_icmp .eq 20, 3) := by decide +kernel
theorem dX9_way_97 : decode cX9_way 97 = .ok (.aload_n 0, 1) := by decide +kernel
theorem dX9_way_98 : decode cX9_way 98 = .ok (.getfield 81, 3) := by decide +kernel
theorem dX9_way_101 : decode cX9_way 101 = .ok (.iload 7, 2) := by decide +kernel
theorem dX9_way_103 : decode cX9_way 103 = .ok (.iaload, 1) := by decide +kernel
theorem dX9_way_104 : decode cX9_way 104 = .ok (.aload_n 0, 1) := by decide +kernel
theorem dX9_way_105 : decode cX9_way 105 = .ok (.getfield 81, 3) := by decide +kernel
theorem dX9_way_108 : decode cX9_way 108 = .ok (.iload 6, 2) := by decide +kernel
theorem dX9_way_110 : decode cX9_way 110 = .ok (.iaload, 1) := by decide +kernel
theorem dX9_way_111 : decode cX9_way 111 = .ok (.if_icmp .ge 7, 3) := by decide +kernel
theorem dX9_way_114 : decode cX9_way 114 = .ok (.iload 7, 2) := by decide +kernel
theorem dX9_way_116 : decode cX9_way 116 = .ok (.istore 6, 2) := by decide +kernel
theorem dX9_way_118 : decode cX9_way 118 = .ok (.iinc 7 1, 3) := by decide +kernel
theorem dX9_way_121 : decode cX9_way 121 = .ok (.goto (-63), 3) := by decide +kernel
theorem dX9_way_124 : decode cX9_way 124 = .ok (.iload 6, 2) := by decide +kernel
theorem dX9_way_126 : decode cX9_way 126 = .ok (.iconst (-1), 1) := by decide +kernel
theorem dX9_way_127 : decode cX9_way 127 = .ok (.if_icmp .eq 15, 3) := by decide +kernel
theorem dX9_way_130 : decode cX9_way 130 = .ok (.iload 5, 2) := by decide +kernel
theorem dX9_way_132 : decode cX9_way 132 = .ok (.aload_n 0, 1) := by decide +kernel
theorem dX9_way_133 : decode cX9_way 133 = .ok (.getfield 81, 3) := by decide +kernel
theorem dX9_way_136 : decode cX9_way 136 = .ok (.iload 6, 2) := by decide +kernel
theorem dX9_way_138 : decode cX9_way 138 = .ok (.iaload, 1) := by decide +kernel
theorem dX9_way_139 : decode cX9_way 139 = .ok (.if_icmp .le 5, 3) := by decide +kernel
theorem dX9_way_142 : decode cX9_way 142 = .ok (.iconst (-1), 1) := by decide +kernel
theorem dX9_way_143 : decode cX9_way 143 = .ok (.ireturn, 1) := by decide +kernel
theorem dX9_way_144 : decode cX9_way 144 = .ok (.iconst 0, 1) := by decide +kernel
theorem dX9_way_145 : decode cX9_way 145 = .ok (.istore 7, 2) := by decide +kernel
theorem dX9_way_147 : decode cX9_way 147 = .ok (.iload 7, 2) := by decide +kernel
theorem dX9_way_149 : decode cX9_way 149 = .ok (.iload 5, 2) := by decide +kernel
theorem dX9_way_151 : decode cX9_way 151 = .ok (.if_icmp .ge 125, 3) := by decide +kernel
theorem dX9_way_154 : decode cX9_way 154 = .ok (.bipush 24, 2) := by decide +kernel
theorem dX9_way_156 : decode cX9_way 156 = .ok (.istore 8, 2) := by decide +kernel
theorem dX9_way_158 : decode cX9_way 158 = .ok (.iconst 0, 1) := by decide +kernel
theorem dX9_way_159 : decode cX9_way 159 = .ok (.istore 9, 2) := by decide +kernel
theorem dX9_way_161 : decode cX9_way 161 = .ok (.iload 9, 2) := by decide +kernel
theorem dX9_way_163 : decode cX9_way 163 = .ok (.aload_n 0, 1) := by decide +kernel
theorem dX9_way_164 : decode cX9_way 164 = .ok (.getfield 108, 3) := by decide +kernel
theorem dX9_way_167 : decode cX9_way 167 = .ok (.if_icmp .ge 99, 3) := by decide +kernel
theorem dX9_way_170 : decode cX9_way 170 = .ok (.aload_n 0, 1) := by decide +kernel
theorem dX9_way_171 : decode cX9_way 171 = .ok (.getfield 60, 3) := by decide +kernel
theorem dX9_way_174 : decode cX9_way 174 = .ok (.iload 9, 2) := by decide +kernel
theorem dX9_way_176 : decode cX9_way 176 = .ok (.baload, 1) := by decide +kernel
theorem dX9_way_177 : decode cX9_way 177 = .ok (.ifCond .ne 83, 3) := by decide +kernel
theorem dX9_way_180 : decode cX9_way 180 = .ok (.aload_n 0, 1) := by decide +kernel
theorem dX9_way_181 : decode cX9_way 181 = .ok (.getfield 32, 3) := by decide +kernel
theorem dX9_way_184 : decode cX9_way 184 = .ok (.iload 9, 2) := by decide +kernel
theorem dX9_way_186 : decode cX9_way 186 = .ok (.iaload, 1) := by decide +kernel
theorem dX9_way_187 : decode cX9_way 187 = .ok (.iload 6, 2) := by decide +kernel
theorem dX9_way_189 : decode cX9_way 189 = .ok (.if_icmp .ne 71, 3) := by decide +kernel
theorem dX9_way_192 : decode cX9_way 192 = .ok (.aload_n 0, 1) := by decide +kernel
theorem dX9_way_193 : decode cX9_way 193 = .ok (.getfield 13, 3) := by decide +kernel
theorem dX9_way_196 : decode cX9_way 196 = .ok (.aload_n 0, 1) := by decide +kernel
theorem dX9_way_197 : decode cX9_way 197 = .ok (.getfield 38, 3) := by decide +kernel
theorem dX9_way_200 : decode cX9_way 200 = .ok (.iload 9, 2) := by decide +kernel
theorem dX9_way_202 : decode cX9_way 202 = .ok (.iaload, 1) := by decide +kernel
theorem dX9_way_203 : decode cX9_way 203 = .ok (.laload, 1) := by decide +kernel
theorem dX9_way_204 : decode cX9_way 204 = .ok (.iload_n 2, 1) := by decide +kernel
theorem dX9_way_205 : decode cX9_way 205 = .ok (.iload_n 3, 1) := by decide +kernel
theorem dX9_way_206 : decode cX9_way 206 = .ok (.invokestatic 99, 3) := by decide +kernel
theorem dX9_way_209 : decode cX9_way 209 = .ok (.land, 1) := by decide +kernel
theorem dX9_way_210 : decode cX9_way 210 = .ok (.lconst 0, 1) := by decide +kernel
theorem dX9_way_211 : decode cX9_way 211 = .ok (.lcmp, 1) := by decide +kernel
theorem dX9_way_212 : decode cX9_way 212 = .ok (.ifCond .eq 48, 3) := by decide +kernel
theorem dX9_way_215 : decode cX9_way 215 = .ok (.aload_n 0, 1) := by decide +kernel
theorem dX9_way_216 : decode cX9_way 216 = .ok (.getfield 81, 3) := by decide +kernel
theorem dX9_way_219 : decode cX9_way 219 = .ok (.aload_n 0, 1) := by decide +kernel
theorem dX9_way_220 : decode cX9_way 220 = .ok (.getfield 35, 3) := by decide +kernel
theorem dX9_way_223 : decode cX9_way 223 = .ok (.iload 9, 2) := by decide +kernel
theorem dX9_way_225 : decode cX9_way 225 = .ok (.iaload, 1) := by decide +kernel
theorem dX9_way_226 : decode cX9_way 226 = .ok (.iaload, 1) := by decide +kernel
theorem dX9_way_227 : decode cX9_way 227 = .ok (.aload_n 0, 1) := by decide +kernel
theorem dX9_way_228 : decode cX9_way 228 = .ok (.getfield 81, 3) := by decide +kernel
theorem dX9_way_231 : decode cX9_way 231 = .ok (.iload 6, 2) := by decide +kernel
theorem dX9_way_233 : decode cX9_way 233 = .ok (.iaload, 1) := by decide +kernel
theorem dX9_way_234 : decode cX9_way 234 = .ok (.iconst 1, 1) := by decide +kernel
theorem dX9_way_235 : decode cX9_way 235 = .ok (.isub, 1) := by decide +kernel
theorem dX9_way_236 : decode cX9_way 236 = .ok (.if_icmp .ne 24, 3) := by decide +kernel
theorem dX9_way_239 : decode cX9_way 239 = .ok (.aload_n 0, 1) := by decide +kernel
theorem dX9_way_240 : decode cX9_way 240 = .ok (.getfield 35, 3) := by decide +kernel
theorem dX9_way_243 : decode cX9_way 243 = .ok (.iload 9, 2) := by decide +kernel
theorem dX9_way_245 : decode cX9_way 245 = .ok (.iaload, 1) := by decide +kernel
theorem dX9_way_246 : decode cX9_way 246 = .ok (.iload 8, 2) := by decide +kernel
theorem dX9_way_248 : decode cX9_way 248 = .ok (.if_icmp .ge 12, 3) := by decide +kernel
theorem dX9_way_251 : decode cX9_way 251 = .ok (.aload_n 0, 1) := by decide +kernel
theorem dX9_way_252 : decode cX9_way 252 = .ok (.getfield 35, 3) := by decide +kernel
theorem dX9_way_255 : decode cX9_way 255 = .ok (.iload 9, 2) := by decide +kernel
theorem dX9_way_257 : decode cX9_way 257 = .ok (.iaload, 1) := by decide +kernel
theorem dX9_way_258 : decode cX9_way 258 = .ok (.istore 8, 2) := by decide +kernel
theorem dX9_way_260 : decode cX9_way 260 = .ok (.iinc 9 1, 3) := by decide +kernel
theorem dX9_way_263 : decode cX9_way 263 = .ok (.goto (-102), 3) := by decide +kernel
theorem dX9_way_266 : decode cX9_way 266 = .ok (.iload 8, 2) := by decide +kernel
theorem dX9_way_268 : decode cX9_way 268 = .ok (.istore 6, 2) := by decide +kernel
theorem dX9_way_270 : decode cX9_way 270 = .ok (.iinc 7 1, 3) := by decide +kernel
theorem dX9_way_273 : decode cX9_way 273 = .ok (.goto (-126), 3) := by decide +kernel
theorem dX9_way_276 : decode cX9_way 276 = .ok (.iload 6, 2) := by decide +kernel
theorem dX9_way_278 : decode cX9_way 278 = .ok (.ireturn, 1) := by decide +kernel
set_option maxRecDepth 20000 in
theorem ggX9_notice_X9_isShipping : GoodIn wsX9_notice wsX9_isShipping := goodIn_r _ [8, 9, 10, 7, 11] (by decide +kernel) (by decide +kernel)
set_option maxRecDepth 20000 in
theorem gX9_notice_X9_isShipping : GoodIn wsX9_notice (va_wsS RX9 145 yX9_isShipping wsX9_isShipping) := goodIn_app (goodIn_of _ (by decide +kernel)) ggX9_notice_X9_isShipping
set_option maxRecDepth 20000 in
theorem ggX9_notice_X9_asItIs : GoodIn wsX9_notice wsX9_asItIs := goodIn_r _ [15, 16, 17, 18, 1, 2, 19, 20, 43, 44, 45, 46, 47, 48, 49, 50, 51, 52, 53, 54, 55, 56, 57, 58, 59, 60, 61, 62, 63, 64, 65, 66, 67, 68, 69, 70, 71, 72] (by decide +kernel) (by decide +kernel)
set_option maxRecDepth 20000 in
theorem gX9_notice_X9_asItIs : GoodIn wsX9_notice (wsV RX9 111 RX9 yX9_asItIs wsX9_asItIs) := goodIn_app (goodIn_of _ (by decide +kernel)) ggX9_notice_X9_asItIs
set_option maxRecDepth 20000 in
theorem ggX9_notice_X9_hasBrought : GoodIn wsX9_notice wsX9_hasBrought := goodIn_r _ [24, 25, 26, 27, 7, 28, 29, 2, 30, 31, 32, 33, 34, 43, 44, 45, 46, 47, 48, 49, 50, 51, 52, 53, 54, 55, 56, 57, 58, 59, 60, 61, 62, 63, 64, 65, 66, 67, 68, 69, 70, 71, 72] (by decide +kernel) (by decide +kernel)
set_option maxRecDepth 20000 in
theorem gX9_notice_X9_hasBrought : GoodIn wsX9_notice (wsV RX9 178 RX9 yX9_hasBrought wsX9_hasBrought) := goodIn_app (goodIn_of _ (by decide +kernel)) ggX9_notice_X9_hasBrought
set_option maxRecDepth 20000 in
theorem ggX9_notice_X9_measures : GoodIn wsX9_notice wsX9_measures := goodIn_r _ [38, 4, 1, 16, 17, 39, 40, 41, 42, 32, 33, 7, 34, 43, 44, 45, 46, 47, 48, 49, 50, 51, 52, 53, 54, 55, 56, 57, 58, 59, 60, 61, 62, 63, 64, 65, 66, 67, 68, 69, 70, 71, 72] (by decide +kernel) (by decide +kernel)
set_option maxRecDepth 20000 in
theorem gX9_notice_X9_measures : GoodIn wsX9_notice (wsV RX9 174 RX9 yX9_measures wsX9_measures) := goodIn_app (goodIn_of _ (by decide +kernel)) ggX9_notice_X9_measures
theorem dX9_notice_0 : decode cX9_notice 0 = .ok (.iload_n 1, 1) := by decide +kernel
theorem dX9_notice_1 : decode cX9_notice 1 = .ok (.invokestatic 145, 3) := by decide +kernel
theorem dX9_notice_4 : decode cX9_notice 4 = .ok (.ifCond .eq 7, 3) := by decide +kernel
theorem dX9_notice_7 : decode cX9_notice 7 = .ok (.iload_n 2, 1) := by decide +kernel
theorem dX9_notice_8 : decode cX9_notice 8 = .ok (.ifCond .ge 5, 3) := by decide +kernel
theorem dX9_notice_11 : decode cX9_notice 11 = .ok (.iconst (-1), 1) := by decide +kernel
theorem dX9_notice_12 : decode cX9_notice 12 = .ok (.ireturn, 1) := by decide +kernel
theorem dX9_notice_13 : decode cX9_notice 13 = .ok (.aload_n 0, 1) := by decide +kernel
theorem dX9_notice_14 : decode cX9_notice 14 = .ok (.invokevirtual 111, 3) := by decide +kernel
theorem dX9_notice_17 : decode cX9_notice 17 = .ok (.iconst 0, 1) := by decide +kernel
theorem dX9_notice_18 : decode cX9_notice 18 = .ok (.istore_n 3, 1) := by decide +kernel
theorem dX9_notice_19 : decode cX9_notice 19 = .ok (.iconst 0, 1) := by decide +kernel
theorem dX9_notice_20 : decode cX9_notice 20 = .ok (.istore 4, 2) := by decide +kernel
theorem dX9_notice_22 : decode cX9_notice 22 = .ok (.iload 4, 2) := by decide +kernel
theorem dX9_notice_24 : decode cX9_notice 24 = .ok (.aload_n 0, 1) := by decide +kernel
theorem dX9_notice_25 : decode cX9_notice 25 = .ok (.getfield 87, 3) := by decide +kernel
theorem dX9_notice_28 : decode cX9_notice 28 = .ok (.if_icmp .ge 72, 3) := by decide +kernel
theorem dX9_notice_31 : decode cX9_notice 31 = .ok (.aload_n 0, 1) := by decide +kernel
theorem dX9_notice_32 : decode cX9_notice 32 = .ok (.iload_n 1, 1) := by decide +kernel
theorem dX9_notice_33 : decode cX9_notice 33 = .ok (.iload 4, 2) := by decide +kernel
theorem dX9_notice_35 : decode cX9_notice 35 = .ok (.aload_n 0, 1) := by decide +kernel
theorem dX9_notice_36 : decode cX9_notice 36 = .ok (.getfield 63, 3) := by decide +kernel
theorem dX9_notice_39 : decode cX9_notice 39 = .ok (.iload 4, 2) := by decide +kernel
theorem dX9_notice_41 : decode cX9_notice 41 = .ok (.iaload, 1) := by decide +kernel
theorem dX9_notice_42 : decode cX9_notice 42 = .ok (.iconst 0, 1) := by decide +kernel
theorem dX9_notice_43 : decode cX9_notice 43 = .ok (.invokevirtual 178, 3) := by decide +kernel
theorem dX9_notice_46 : decode cX9_notice 46 = .ok (.ifCond .ne 6, 3) := by decide +kernel
theorem dX9_notice_49 : decode cX9_notice 49 = .ok (.goto 45, 3) := by decide +kernel
theorem dX9_notice_52 : decode cX9_notice 52 = .ok (.aload_n 0, 1) := by decide +kernel
theorem dX9_notice_53 : decode cX9_notice 53 = .ok (.aload_n 0, 1) := by decide +kernel
theorem dX9_notice_54 : decode cX9_notice 54 = .ok (.getfield 63, 3) := by decide +kernel
theorem dX9_notice_57 : decode cX9_notice 57 = .ok (.iload 4, 2) := by decide +kernel
theorem dX9_notice_59 : decode cX9_notice 59 = .ok (.iaload, 1) := by decide +kernel
theorem dX9_notice_60 : decode cX9_notice 60 = .ok (.iconst 0, 1) := by decide +kernel
theorem dX9_notice_61 : decode cX9_notice 61 = .ok (.aload_n 0, 1) := by decide +kernel
theorem dX9_notice_62 : decode cX9_notice 62 = .ok (.getfield 118, 3) := by decide +kernel
theorem dX9_notice_65 : decode cX9_notice 65 = .ok (.invokevirtual 174, 3) := by decide +kernel
theorem dX9_notice_68 : decode cX9_notice 68 = .ok (.aload_n 0, 1) := by decide +kernel
theorem dX9_notice_69 : decode cX9_notice 69 = .ok (.getfield 81, 3) := by decide +kernel
theorem dX9_notice_72 : decode cX9_notice 72 = .ok (.iload 4, 2) := by decide +kernel
theorem dX9_notice_74 : decode cX9_notice 74 = .ok (.iaload, 1) := by decide +kernel
theorem dX9_notice_75 : decode cX9_notice 75 = .ok (.bipush 100, 2) := by decide +kernel
theorem dX9_notice_77 : decode cX9_notice 77 = .ok (.if_icmp .ne 6, 3) := by decide +kernel
theorem dX9_notice_80 : decode cX9_notice 80 = .ok (.goto 14, 3) := by decide +kernel
theorem dX9_notice_83 : decode cX9_notice 83 = .ok (.iload_n 3, 1) := by decide +kernel
theorem dX9_notice_84 : decode cX9_notice 84 = .ok (.iload_n 2, 1) := by decide +kernel
theorem dX9_notice_85 : decode cX9_notice 85 = .ok (.if_icmp .ne 6, 3) := by decide +kernel
theorem dX9_notice_88 : decode cX9_notice 88 = .ok (.iload 4, 2) := by decide +kernel
theorem dX9_notice_90 : decode cX9_notice 90 = .ok (.ireturn, 1) := by decide +kernel
theorem dX9_notice_91 : decode cX9_notice 91 = .ok (.iinc 3 1, 3) := by decide +kernel
theorem dX9_notice_94 : decode cX9_notice 94 = .ok (.iinc 4 1, 3) := by decide +kernel
theorem dX9_notice_97 : decode cX9_notice 97 = .ok (.goto (-75), 3) := by decide +kernel
theorem dX9_notice_100 : decode cX9_notice 100 = .ok (.iconst (-1), 1) := by decide +kernel
theorem dX9_notice_101 : decode cX9_notice 101 = .ok (.ireturn, 1) := by decide +kernel
set_option maxRecDepth 20000 in
theorem ggX9_differ_X9_isShipping : GoodIn wsX9_differ wsX9_isShipping := goodIn_r _ [8, 9, 10, 7, 11] (by decide +kernel) (by decide +kernel)
set_option maxRecDepth 20000 in
theorem gX9_differ_X9_isShipping : GoodIn wsX9_differ (va_wsS RX9 145 yX9_isShipping wsX9_isShipping) := goodIn_app (goodIn_of _ (by decide +kernel)) ggX9_differ_X9_isShipping
set_option maxRecDepth 20000 in
theorem ggX9_differ_X9_works : GoodIn wsX9_differ wsX9_works := goodIn_r _ [15, 16, 17, 18, 19, 7, 20, 21, 22, 23, 1, 24, 25, 26, 27, 28, 29, 30, 31, 32, 33, 34, 35, 36, 37, 38, 39, 4, 40, 41, 42, 43, 3, 44, 45, 46, 47, 48, 49, 50, 51, 52, 53, 54, 55, 56, 57, 58, 59, 60, 61, 62, 63, 64, 65, 66, 67, 68, 69, 70, 71, 72, 73, 74, 75, 76, 77, 78, 79, 80, 81, 82] (by decide +kernel) (by decide +kernel)
set_option maxRecDepth 20000 in
theorem gX9_differ_X9_works : GoodIn wsX9_differ (wsV RX9 148 RX9 yX9_works wsX9_works) := goodIn_app (goodIn_of _ (by decide +kernel)) ggX9_differ_X9_works
theorem dX9_differ_0 : decode cX9_differ 0 = .ok (.iload_n 1, 1) := by decide +kernel
theorem dX9_differ_1 : decode cX9_differ 1 = .ok (.invokestatic 145, 3) := by decide +kernel
theorem dX9_differ_4 : decode cX9_differ 4 = .ok (.ifCond .eq 14, 3) := by decide +kernel
theorem dX9_differ_7 : decode cX9_differ 7 = .ok (.iload_n 2, 1) := by decide +kernel
theorem dX9_differ_8 : decode cX9_differ 8 = .ok (.invokestatic 145, 3) := by decide +kernel
theorem dX9_differ_11 : decode cX9_differ 11 = .ok (.ifCond .eq 7, 3) := by decide +kernel
theorem dX9_differ_14 : decode cX9_differ 14 = .ok (.iload_n 3, 1) := by decide +kernel
theorem dX9_differ_15 : decode cX9_differ 15 = .ok (.ifCond .ge 5, 3) := by decide +kernel
theorem dX9_differ_18 : decode cX9_differ 18 = .ok (.iconst (-1), 1) := by decide +kernel
theorem dX9_differ_19 : decode cX9_differ 19 = .ok (.ireturn, 1) := by decide +kernel
theorem dX9_differ_20 : decode cX9_differ 20 = .ok (.aload_n 0, 1) := by decide +kernel
theorem dX9_differ_21 : decode cX9_differ 21 = .ok (.iload_n 2, 1) := by decide +kernel
theorem dX9_differ_22 : decode cX9_differ 22 = .ok (.invokevirtual 148, 3) := by decide +kernel
theorem dX9_differ_25 : decode cX9_differ 25 = .ok (.iconst 0, 1) := by decide +kernel
theorem dX9_differ_26 : decode cX9_differ 26 = .ok (.istore 4, 2) := by decide +kernel
theorem dX9_differ_28 : decode cX9_differ 28 = .ok (.iload 4, 2) := by decide +kernel
theorem dX9_differ_30 : decode cX9_differ 30 = .ok (.aload_n 0, 1) := by decide +kernel
theorem dX9_differ_31 : decode cX9_differ 31 = .ok (.getfield 87, 3) := by decide +kernel
theorem dX9_differ_34 : decode cX9_differ 34 = .ok (.if_icmp .ge 23, 3) := by decide +kernel
theorem dX9_differ_37 : decode cX9_differ 37 = .ok (.aload_n 0, 1) := by decide +kernel
theorem dX9_differ_38 : decode cX9_differ 38 = .ok (.getfield 84, 3) := by decide +kernel
theorem dX9_differ_41 : decode cX9_differ 41 = .ok (.iload 4, 2) := by decide +kernel
theorem dX9_differ_43 : decode cX9_differ 43 = .ok (.aload_n 0, 1) := by decide +kernel
theorem dX9_differ_44 : decode cX9_differ 44 = .ok (.getfield 66, 3) := by decide +kernel
theorem dX9_differ_47 : decode cX9_differ 47 = .ok (.iload 4, 2) := by decide +kernel
theorem dX9_differ_49 : decode cX9_differ 49 = .ok (.laload, 1) := by decide +kernel
theorem dX9_differ_50 : decode cX9_differ 50 = .ok (.lastore, 1) := by decide +kernel
theorem dX9_differ_51 : decode cX9_differ 51 = .ok (.iinc 4 1, 3) := by decide +kernel
theorem dX9_differ_54 : decode cX9_differ 54 = .ok (.goto (-26), 3) := by decide +kernel
theorem dX9_differ_57 : decode cX9_differ 57 = .ok (.aload_n 0, 1) := by decide +kernel
theorem dX9_differ_58 : decode cX9_differ 58 = .ok (.iload_n 1, 1) := by decide +kernel
theorem dX9_differ_59 : decode cX9_differ 59 = .ok (.invokevirtual 148, 3) := by decide +kernel
theorem dX9_differ_62 : decode cX9_differ 62 = .ok (.iconst 0, 1) := by decide +kernel
theorem dX9_differ_63 : decode cX9_differ 63 = .ok (.istore 4, 2) := by decide +kernel
theorem dX9_differ_65 : decode cX9_differ 65 = .ok (.iconst 0, 1) := by decide +kernel
theorem dX9_differ_66 : decode cX9_differ 66 = .ok (.istore 5, 2) := by decide +kernel
theorem dX9_differ_68 : decode cX9_differ 68 = .ok (.iload 5, 2) := by decide +kernel
theorem dX9_differ_70 : decode cX9_differ 70 = .ok (.aload_n 0, 1) := by decide +kernel
theorem dX9_differ_71 : decode cX9_differ 71 = .ok (.getfield 87, 3) := by decide +kernel
theorem dX9_differ_74 : decode cX9_differ 74 = .ok (.if_icmp .ge 52, 3) := by decide +kernel
theorem dX9_differ_77 : decode cX9_differ 77 = .ok (.aload_n 0, 1) := by decide +kernel
theorem dX9_differ_78 : decode cX9_differ 78 = .ok (.getfield 57, 3) := by decide +kernel
theorem dX9_differ_81 : decode cX9_differ 81 = .ok (.iload 5, 2) := by decide +kernel
theorem dX9_differ_83 : decode cX9_differ 83 = .ok (.baload, 1) := by decide +kernel
theorem dX9_differ_84 : decode cX9_differ 84 = .ok (.ifCond .eq 36, 3) := by decide +kernel
theorem dX9_differ_87 : decode cX9_differ 87 = .ok (.aload_n 0, 1) := by decide +kernel
theorem dX9_differ_88 : decode cX9_differ 88 = .ok (.getfield 66, 3) := by decide +kernel
theorem dX9_differ_91 : decode cX9_differ 91 = .ok (.iload 5, 2) := by decide +kernel
theorem dX9_differ_93 : decode cX9_differ 93 = .ok (.laload, 1) := by decide +kernel
theorem dX9_differ_94 : decode cX9_differ 94 = .ok (.aload_n 0, 1) := by decide +kernel
theorem dX9_differ_95 : decode cX9_differ 95 = .ok (.getfield 84, 3) := by decide +kernel
theorem dX9_differ_98 : decode cX9_differ 98 = .ok (.iload 5, 2) := by decide +kernel
theorem dX9_differ_100 : decode cX9_differ 100 = .ok (.laload, 1) := by decide +kernel
theorem dX9_differ_101 : decode cX9_differ 101 = .ok (.lcmp, 1) := by decide +kernel
theorem dX9_differ_102 : decode cX9_differ 102 = .ok (.ifCond .ne 6, 3) := by decide +kernel
theorem dX9_differ_105 : decode cX9_differ 105 = .ok (.goto 15, 3) := by decide +kernel
theorem dX9_differ_108 : decode cX9_differ 108 = .ok (.iload 4, 2) := by decide +kernel
theorem dX9_differ_110 : decode cX9_differ 110 = .ok (.iload_n 3, 1) := by decide +kernel
theorem dX9_differ_111 : decode cX9_differ 111 = .ok (.if_icmp .ne 6, 3) := by decide +kernel
theorem dX9_differ_114 : decode cX9_differ 114 = .ok (.iload 5, 2) := by decide +kernel
theorem dX9_differ_116 : decode cX9_differ 116 = .ok (.ireturn, 1) := by decide +kernel
theorem dX9_differ_117 : decode cX9_differ 117 = .ok (.iinc 4 1, 3) := by decide +kernel
theorem dX9_differ_120 : decode cX9_differ 120 = .ok (.iinc 5 1, 3) := by decide +kernel
theorem dX9_differ_123 : decode cX9_differ 123 = .ok (.goto (-55), 3) := by decide +kernel
theorem dX9_differ_126 : decode cX9_differ 126 = .ok (.iconst (-1), 1) := by decide +kernel
theorem dX9_differ_127 : decode cX9_differ 127 = .ok (.ireturn, 1) := by decide +kernel
set_option maxRecDepth 20000 in
theorem ggX9_look_X9_isPart : GoodIn wsX9_look wsX9_isPart := goodIn_r _ [14, 15, 16, 17, 13, 18, 29, 30, 31, 32, 33, 34, 35, 36, 37, 38, 39, 40, 41, 42, 43, 44, 45, 46, 47, 48, 49, 50, 51, 52, 53, 54, 55, 56, 57, 58] (by decide +kernel) (by decide +kernel)
set_option maxRecDepth 20000 in
theorem gX9_look_X9_isPart : GoodIn wsX9_look (wsV RX9 105 RX9 yX9_isPart wsX9_isPart) := goodIn_app (goodIn_of _ (by decide +kernel)) ggX9_look_X9_isPart
set_option maxRecDepth 20000 in
theorem ggX9_look_X9_lies : GoodIn wsX9_look wsX9_lies := goodIn_r _ [18] (by decide +kernel) (by decide +kernel)
set_option maxRecDepth 20000 in
theorem gX9_look_X9_lies : GoodIn wsX9_look (va_wsS RX9 91 yX9_lies wsX9_lies) := goodIn_app (goodIn_of _ (by decide +kernel)) ggX9_look_X9_lies
set_option maxRecDepth 20000 in
theorem ggX9_look_X9_asItIs : GoodIn wsX9_look wsX9_asItIs := goodIn_r _ [22, 6, 23, 7, 15, 24, 2, 3, 29, 30, 31, 32, 33, 34, 35, 36, 37, 38, 39, 40, 41, 42, 43, 44, 45, 46, 47, 48, 49, 50, 51, 52, 53, 54, 55, 56, 57, 58] (by decide +kernel) (by decide +kernel)
set_option maxRecDepth 20000 in
theorem gX9_look_X9_asItIs : GoodIn wsX9_look (wsV RX9 111 RX9 yX9_asItIs wsX9_asItIs) := goodIn_app (goodIn_of _ (by decide +kernel)) ggX9_look_X9_asItIs
set_option maxRecDepth 20000 in
theorem ggX9_look_X9_reaches : GoodIn wsX9_look wsX9_reaches := goodIn_r _ [28, 5, 6, 23, 8, 9, 29, 30, 31, 32, 33, 34, 35, 36, 37, 38, 39, 40, 41, 42, 43, 44, 45, 46, 47, 48, 49, 50, 51, 52, 53, 54, 55, 56, 57, 58] (by decide +kernel) (by decide +kernel)
set_option maxRecDepth 20000 in
theorem gX9_look_X9_reaches : GoodIn wsX9_look (wsV RX9 114 RX9 yX9_reaches wsX9_reaches) := goodIn_app (goodIn_of _ (by decide +kernel)) ggX9_look_X9_reaches
theorem dX9_look_0 : decode cX9_look 0 = .ok (.aload_n 0, 1) := by decide +kernel
theorem dX9_look_1 : decode cX9_look 1 = .ok (.iload_n 1, 1) := by decide +kernel
theorem dX9_look_2 : decode cX9_look 2 = .ok (.invokevirtual 105, 3) := by decide +kernel
theorem dX9_look_5 : decode cX9_look 5 = .ok (.ifCond .ne 5, 3) := by decide +kernel
theorem dX9_look_8 : decode cX9_look 8 = .ok (.iconst (-1), 1) := by decide +kernel
theorem dX9_look_9 : decode cX9_look 9 = .ok (.ireturn, 1) := by decide +kernel
theorem dX9_look_10 : decode cX9_look 10 = .ok (.iload_n 2, 1) := by decide +kernel
theorem dX9_look_11 : decode cX9_look 11 = .ok (.iconst 5, 1) := by decide +kernel
theorem dX9_look_12 : decode cX9_look 12 = .ok (.isub, 1) := by decide +kernel
theorem dX9_look_13 : decode cX9_look 13 = .ok (.iconst 0, 1) := by decide +kernel
theorem dX9_look_14 : decode cX9_look 14 = .ok (.aload_n 0, 1) := by decide +kernel
theorem dX9_look_15 : decode cX9_look 15 = .ok (.getfield 23, 3) := by decide +kernel
theorem dX9_look_18 : decode cX9_look 18 = .ok (.iload_n 1, 1) := by decide +kernel
theorem dX9_look_19 : decode cX9_look 19 = .ok (.iaload, 1) := by decide +kernel
theorem dX9_look_20 : decode cX9_look 20 = .ok (.iconst 1, 1) := by decide +kernel
theorem dX9_look_21 : decode cX9_look 21 = .ok (.isub, 1) := by decide +kernel
theorem dX9_look_22 : decode cX9_look 22 = .ok (.invokestatic 91, 3) := by decide +kernel
theorem dX9_look_25 : decode cX9_look 25 = .ok (.ifCond .eq 16, 3) := by decide +kernel
theorem dX9_look_28 : decode cX9_look 28 = .ok (.aload_n 0, 1) := by decide +kernel
theorem dX9_look_29 : decode cX9_look 29 = .ok (.getfield 20, 3) := by decide +kernel
theorem dX9_look_32 : decode cX9_look 32 = .ok (.iconst 3, 1) := by decide +kernel
theorem dX9_look_33 : decode cX9_look 33 = .ok (.iload_n 1, 1) := by decide +kernel
theorem dX9_look_34 : decode cX9_look 34 = .ok (.imul, 1) := by decide +kernel
theorem dX9_look_35 : decode cX9_look 35 = .ok (.iload_n 2, 1) := by decide +kernel
theorem dX9_look_36 : decode cX9_look 36 = .ok (.iadd, 1) := by decide +kernel
theorem dX9_look_37 : decode cX9_look 37 = .ok (.iconst 5, 1) := by decide +kernel
theorem dX9_look_38 : decode cX9_look 38 = .ok (.isub, 1) := by decide +kernel
theorem dX9_look_39 : decode cX9_look 39 = .ok (.iaload, 1) := by decide +kernel
theorem dX9_look_40 : decode cX9_look 40 = .ok (.ireturn, 1) := by decide +kernel
theorem dX9_look_41 : decode cX9_look 41 = .ok (.iconst 0, 1) := by decide +kernel
theorem dX9_look_42 : decode cX9_look 42 = .ok (.istore_n 3, 1) := by decide +kernel
theorem dX9_look_43 : decode cX9_look 43 = .ok (.iload_n 2, 1) := by decide +kernel
theorem dX9_look_44 : decode cX9_look 44 = .ok (.tableswitch 184 0 4 #[36, 52, 59, 86, 135], 36) := by decide +kernel
theorem dX9_look_80 : decode cX9_look 80 = .ok (.aload_n 0, 1) := by decide +kernel
theorem dX9_look_81 : decode cX9_look 81 = .ok (.getfield 20, 3) := by decide +kernel
theorem dX9_look_84 : decode cX9_look 84 = .ok (.iconst 3, 1) := by decide +kernel
theorem dX9_look_85 : decode cX9_look 85 = .ok (.iload_n 1, 1) := by decide +kernel
theorem dX9_look_86 : decode cX9_look 86 = .ok (.imul, 1) := by decide +kernel
theorem dX9_look_87 : decode cX9_look 87 = .ok (.aload_n 0, 1) := by decide +kernel
theorem dX9_look_88 : decode cX9_look 88 = .ok (.getfield 26, 3) := by decide +kernel
theorem dX9_look_91 : decode cX9_look 91 = .ok (.iload_n 1, 1) := by decide +kernel
theorem dX9_look_92 : decode cX9_look 92 = .ok (.iaload, 1) := by decide +kernel
theorem dX9_look_93 : decode cX9_look 93 = .ok (.iadd, 1) := by decide +kernel
theorem dX9_look_94 : decode cX9_look 94 = .ok (.iaload, 1) := by decide +kernel
theorem dX9_look_95 : decode cX9_look 95 = .ok (.ireturn, 1) := by decide +kernel
theorem dX9_look_96 : decode cX9_look 96 = .ok (.aload_n 0, 1) := by decide +kernel
theorem dX9_look_97 : decode cX9_look 97 = .ok (.getfield 23, 3) := by decide +kernel
theorem dX9_look_100 : decode cX9_look 100 = .ok (.iload_n 1, 1) := by decide +kernel
theorem dX9_look_101 : decode cX9_look 101 = .ok (.iaload, 1) := by decide +kernel
theorem dX9_look_102 : decode cX9_look 102 = .ok (.ireturn, 1) := by decide +kernel
theorem dX9_look_103 : decode cX9_look 103 = .ok (.aload_n 0, 1) := by decide +kernel
theorem dX9_look_104 : decode cX9_look 104 = .ok (.invokevirtual 111, 3) := by decide +kernel
theorem dX9_look_107 : decode cX9_look 107 = .ok (.aload_n 0, 1) := by decide +kernel
theorem dX9_look_108 : decode cX9_look 108 = .ok (.aload_n 0, 1) := by decide +kernel
theorem dX9_look_109 : decode cX9_look 109 = .ok (.getfield 118, 3) := by decide +kernel
theorem dX9_look_112 : decode cX9_look 112 = .ok (.invokevirtual 114, 3) := by decide +kernel
theorem dX9_look_115 : decode cX9_look 115 = .ok (.aload_n 0, 1) := by decide +kernel
theorem dX9_look_116 : decode cX9_look 116 = .ok (.getfield 57, 3) := by decide +kernel
theorem dX9_look_119 : decode cX9_look 119 = .ok (.iload_n 1, 1) := by decide +kernel
theorem dX9_look_120 : decode cX9_look 120 = .ok (.baload, 1) := by decide +kernel
theorem dX9_look_121 : decode cX9_look 121 = .ok (.ifCond .eq 7, 3) := by decide +kernel
theorem dX9_look_124 : decode cX9_look 124 = .ok (.iconst 1, 1) := by decide +kernel
theorem dX9_look_125 : decode cX9_look 125 = .ok (.goto 4, 3) := by decide +kernel
theorem dX9_look_128 : decode cX9_look 128 = .ok (.iconst 0, 1) := by decide +kernel
theorem dX9_look_129 : decode cX9_look 129 = .ok (.ireturn, 1) := by decide +kernel
theorem dX9_look_130 : decode cX9_look 130 = .ok (.iconst 0, 1) := by decide +kernel
theorem dX9_look_131 : decode cX9_look 131 = .ok (.istore 4, 2) := by decide +kernel
theorem dX9_look_133 : decode cX9_look 133 = .ok (.iload 4, 2) := by decide +kernel
theorem dX9_look_135 : decode cX9_look 135 = .ok (.aload_n 0, 1) := by decide +kernel
theorem dX9_look_136 : decode cX9_look 136 = .ok (.getfield 108, 3) := by decide +kernel
theorem dX9_look_139 : decode cX9_look 139 = .ok (.if_icmp .ge 38, 3) := by decide +kernel
theorem dX9_look_142 : decode cX9_look 142 = .ok (.iload_n 3, 1) := by decide +kernel
theorem dX9_look_143 : decode cX9_look 143 = .ok (.aload_n 0, 1) := by decide +kernel
theorem dX9_look_144 : decode cX9_look 144 = .ok (.getfield 41, 3) := by decide +kernel
theorem dX9_look_147 : decode cX9_look 147 = .ok (.iload 4, 2) := by decide +kernel
theorem dX9_look_149 : decode cX9_look 149 = .ok (.baload, 1) := by decide +kernel
theorem dX9_look_150 : decode cX9_look 150 = .ok (.ifCond .ne 18, 3) := by decide +kernel
theorem dX9_look_153 : decode cX9_look 153 = .ok (.aload_n 0, 1) := by decide +kernel
theorem dX9_look_154 : decode cX9_look 154 = .ok (.getfield 35, 3) := by decide +kernel
theorem dX9_look_157 : decode cX9_look 157 = .ok (.iload 4, 2) := by decide +kernel
theorem dX9_look_159 : decode cX9_look 159 = .ok (.iaload, 1) := by decide +kernel
theorem dX9_look_160 : decode cX9_look 160 = .ok (.iload_n 1, 1) := by decide +kernel
theorem dX9_look_161 : decode cX9_look 161 = .ok (.if_icmp .ne 7, 3) := by decide +kernel
theorem dX9_look_164 : decode cX9_look 164 = .ok (.iconst 1, 1) := by decide +kernel
theorem dX9_look_165 : decode cX9_look 165 = .ok (.goto 4, 3) := by decide +kernel
theorem dX9_look_168 : decode cX9_look 168 = .ok (.iconst 0, 1) := by decide +kernel
theorem dX9_look_169 : decode cX9_look 169 = .ok (.iadd, 1) := by decide +kernel
theorem dX9_look_170 : decode cX9_look 170 = .ok (.istore_n 3, 1) := by decide +kernel
theorem dX9_look_171 : decode cX9_look 171 = .ok (.iinc 4 1, 3) := by decide +kernel
theorem dX9_look_174 : decode cX9_look 174 = .ok (.goto (-41), 3) := by decide +kernel
theorem dX9_look_177 : decode cX9_look 177 = .ok (.iload_n 3, 1) := by decide +kernel
theorem dX9_look_178 : decode cX9_look 178 = .ok (.ireturn, 1) := by decide +kernel
theorem dX9_look_179 : decode cX9_look 179 = .ok (.iconst 0, 1) := by decide +kernel
theorem dX9_look_180 : decode cX9_look 180 = .ok (.istore 4, 2) := by decide +kernel
theorem dX9_look_182 : decode cX9_look 182 = .ok (.iload 4, 2) := by decide +kernel
theorem dX9_look_184 : decode cX9_look 184 = .ok (.aload_n 0, 1) := by decide +kernel
theorem dX9_look_185 : decode cX9_look 185 = .ok (.getfield 108, 3) := by decide +kernel
theorem dX9_look_188 : decode cX9_look 188 = .ok (.if_icmp .ge 38, 3) := by decide +kernel
theorem dX9_look_191 : decode cX9_look 191 = .ok (.iload_n 3, 1) := by decide +kernel
theorem dX9_look_192 : decode cX9_look 192 = .ok (.aload_n 0, 1) := by decide +kernel
theorem dX9_look_193 : decode cX9_look 193 = .ok (.getfield 41, 3) := by decide +kernel
theorem dX9_look_196 : decode cX9_look 196 = .ok (.iload 4, 2) := by decide +kernel
theorem dX9_look_198 : decode cX9_look 198 = .ok (.baload, 1) := by decide +kernel
theorem dX9_look_199 : decode cX9_look 199 = .ok (.ifCond .ne 18, 3) := by decide +kernel
theorem dX9_look_202 : decode cX9_look 202 = .ok (.aload_n 0, 1) := by decide +kernel
theorem dX9_look_203 : decode cX9_look 203 = .ok (.getfield 32, 3) := by decide +kernel
theorem dX9_look_206 : decode cX9_look 206 = .ok (.iload 4, 2) := by decide +kernel
theorem dX9_look_208 : decode cX9_look 208 = .ok (.iaload, 1) := by decide +kernel
theorem dX9_look_209 : decode cX9_look 209 = .ok (.iload_n 1, 1) := by decide +kernel
theorem dX9_look_210 : decode cX9_look 210 = .ok (.if_icmp .ne 7, 3) := by decide +kernel
theorem dX9_look_213 : decode cX9_look 213 = .ok (.iconst 1, 1) := by decide +kernel
theorem dX9_look_214 : decode cX9_look 214 = .ok (.goto 4, 3) := by decide +kernel
theorem dX9_look_217 : decode cX9_look 217 = .ok (.iconst 0, 1) := by decide +kernel
theorem dX9_look_218 : decode cX9_look 218 = .ok (.iadd, 1) := by decide +kernel
theorem dX9_look_219 : decode cX9_look 219 = .ok (.istore_n 3, 1) := by decide +kernel
theorem dX9_look_220 : decode cX9_look 220 = .ok (.iinc 4 1, 3) := by decide +kernel
theorem dX9_look_223 : decode cX9_look 223 = .ok (.goto (-41), 3) := by decide +kernel
theorem dX9_look_226 : decode cX9_look 226 = .ok (.iload_n 3, 1) := by decide +kernel
theorem dX9_look_227 : decode cX9_look 227 = .ok (.ireturn, 1) := by decide +kernel
theorem dX9_look_228 : decode cX9_look 228 = .ok (.iconst (-1), 1) := by decide +kernel
theorem dX9_look_229 : decode cX9_look 229 = .ok (.ireturn, 1) := by decide +kernel
set_option maxRecDepth 20000 in
theorem ggX9_count_X9_asItIs : GoodIn wsX9_count wsX9_asItIs := goodIn_r _ [11, 2, 12, 3, 1, 13, 14, 15, 28, 29, 30, 31, 32, 33, 34, 35, 36, 37, 38, 39, 40, 41, 42, 43, 44, 45, 46, 47, 48, 49, 50, 51, 52, 53, 54, 55, 56, 57] (by decide +kernel) (by decide +kernel)
set_option maxRecDepth 20000 in
theorem gX9_count_X9_asItIs : GoodIn wsX9_count (wsV RX9 111 RX9 yX9_asItIs wsX9_asItIs) := goodIn_app (goodIn_of _ (by decide +kernel)) ggX9_count_X9_asItIs
set_option maxRecDepth 20000 in
theorem ggX9_count_X9_reaches : GoodIn wsX9_count wsX9_reaches := goodIn_r _ [19, 5, 2, 12, 20, 21, 28, 29, 30, 31, 32, 33, 34, 35, 36, 37, 38, 39, 40, 41, 42, 43, 44, 45, 46, 47, 48, 49, 50, 51, 52, 53, 54, 55, 56, 57] (by decide +kernel) (by decide +kernel)
set_option maxRecDepth 20000 in
theorem gX9_count_X9_reaches : GoodIn wsX9_count (wsV RX9 114 RX9 yX9_reaches wsX9_reaches) := goodIn_app (goodIn_of _ (by decide +kernel)) ggX9_count_X9_reaches
set_option maxRecDepth 20000 in
theorem ggX9_count_X9_ways : GoodIn wsX9_count wsX9_ways := goodIn_r _ [25, 4, 1, 5, 26, 27, 7, 8, 9, 10, 11, 2, 12, 3, 13, 14, 15, 16, 17, 18, 19, 20, 21, 28, 29, 30, 31, 32, 33, 34, 35, 36, 37, 38, 39, 40, 41, 42, 43, 44, 45, 46, 47, 48, 49, 50, 51, 52, 53, 54, 55, 56, 57] (by decide +kernel) (by decide +kernel)
set_option maxRecDepth 20000 in
theorem gX9_count_X9_ways : GoodIn wsX9_count (wsV RX9 159 RX9 yX9_ways wsX9_ways) := goodIn_app (goodIn_of _ (by decide +kernel)) ggX9_count_X9_ways
theorem dX9_count_0 : decode cX9_count 0 = .ok (.iconst 0, 1) := by decide +kernel
theorem dX9_count_1 : decode cX9_count 1 = .ok (.istore_n 2, 1) := by decide +kernel
theorem dX9_count_2 : decode cX9_count 2 = .ok (.iload_n 1, 1) := by decide +kernel
theorem dX9_count_3 : decode cX9_count 3 = .ok (.tableswitch 148 0 6 #[41, 46, 51, 86, 133, 138, 143], 41) := by decide +kernel
theorem dX9_count_44 : decode cX9_count 44 = .ok (.aload_n 0, 1) := by decide +kernel
theorem dX9_count_45 : decode cX9_count 45 = .ok (.getfield 87, 3) := by decide +kernel
theorem dX9_count_48 : decode cX9_count 48 = .ok (.ireturn, 1) := by decide +kernel
theorem dX9_count_49 : decode cX9_count 49 = .ok (.aload_n 0, 1) := by decide +kernel
theorem dX9_count_50 : decode cX9_count 50 = .ok (.getfield 108, 3) := by decide +kernel
theorem dX9_count_53 : decode cX9_count 53 = .ok (.ireturn, 1) := by decide +kernel
theorem dX9_count_54 : decode cX9_count 54 = .ok (.iconst 0, 1) := by decide +kernel
theorem dX9_count_55 : decode cX9_count 55 = .ok (.istore_n 3, 1) := by decide +kernel
theorem dX9_count_56 : decode cX9_count 56 = .ok (.iload_n 3, 1) := by decide +kernel
theorem dX9_count_57 : decode cX9_count 57 = .ok (.aload_n 0, 1) := by decide +kernel
theorem dX9_count_58 : decode cX9_count 58 = .ok (.getfield 108, 3) := by decide +kernel
theorem dX9_count_61 : decode cX9_count 61 = .ok (.if_icmp .ge 26, 3) := by decide +kernel
theorem dX9_count_64 : decode cX9_count 64 = .ok (.iload_n 2, 1) := by decide +kernel
theorem dX9_count_65 : decode cX9_count 65 = .ok (.aload_n 0, 1) := by decide +kernel
theorem dX9_count_66 : decode cX9_count 66 = .ok (.getfield 41, 3) := by decide +kernel
theorem dX9_count_69 : decode cX9_count 69 = .ok (.iload_n 3, 1) := by decide +kernel
theorem dX9_count_70 : decode cX9_count 70 = .ok (.baload, 1) := by decide +kernel
theorem dX9_count_71 : decode cX9_count 71 = .ok (.ifCond .eq 7, 3) := by decide +kernel
theorem dX9_count_74 : decode cX9_count 74 = .ok (.iconst 0, 1) := by decide +kernel
theorem dX9_count_75 : decode cX9_count 75 = .ok (.goto 4, 3) := by decide +kernel
theorem dX9_count_78 : decode cX9_count 78 = .ok (.iconst 1, 1) := by decide +kernel
theorem dX9_count_79 : decode cX9_count 79 = .ok (.iadd, 1) := by decide +kernel
theorem dX9_count_80 : decode cX9_count 80 = .ok (.istore_n 2, 1) := by decide +kernel
theorem dX9_count_81 : decode cX9_count 81 = .ok (.iinc 3 1, 3) := by decide +kernel
theorem dX9_count_84 : decode cX9_count 84 = .ok (.goto (-28), 3) := by decide +kernel
theorem dX9_count_87 : decode cX9_count 87 = .ok (.iload_n 2, 1) := by decide +kernel
theorem dX9_count_88 : decode cX9_count 88 = .ok (.ireturn, 1) := by decide +kernel
theorem dX9_count_89 : decode cX9_count 89 = .ok (.aload_n 0, 1) := by decide +kernel
theorem dX9_count_90 : decode cX9_count 90 = .ok (.invokevirtual 111, 3) := by decide +kernel
theorem dX9_count_93 : decode cX9_count 93 = .ok (.aload_n 0, 1) := by decide +kernel
theorem dX9_count_94 : decode cX9_count 94 = .ok (.aload_n 0, 1) := by decide +kernel
theorem dX9_count_95 : decode cX9_count 95 = .ok (.getfield 118, 3) := by decide +kernel
theorem dX9_count_98 : decode cX9_count 98 = .ok (.invokevirtual 114, 3) := by decide +kernel
theorem dX9_count_101 : decode cX9_count 101 = .ok (.iconst 0, 1) := by decide +kernel
theorem dX9_count_102 : decode cX9_count 102 = .ok (.istore_n 3, 1) := by decide +kernel
theorem dX9_count_103 : decode cX9_count 103 = .ok (.iload_n 3, 1) := by decide +kernel
theorem dX9_count_104 : decode cX9_count 104 = .ok (.aload_n 0, 1) := by decide +kernel
theorem dX9_count_105 : decode cX9_count 105 = .ok (.getfield 87, 3) := by decide +kernel
theorem dX9_count_108 : decode cX9_count 108 = .ok (.if_icmp .ge 26, 3) := by decide +kernel
theorem dX9_count_111 : decode cX9_count 111 = .ok (.iload_n 2, 1) := by decide +kernel
theorem dX9_count_112 : decode cX9_count 112 = .ok (.aload_n 0, 1) := by decide +kernel
theorem dX9_count_113 : decode cX9_count 113 = .ok (.getfield 57, 3) := by decide +kernel
theorem dX9_count_116 : decode cX9_count 116 = .ok (.iload_n 3, 1) := by decide +kernel
theorem dX9_count_117 : decode cX9_count 117 = .ok (.baload, 1) := by decide +kernel
theorem dX9_count_118 : decode cX9_count 118 = .ok (.ifCond .eq 7, 3) := by decide +kernel
theorem dX9_count_121 : decode cX9_count 121 = .ok (.iconst 1, 1) := by decide +kernel
theorem dX9_count_122 : decode cX9_count 122 = .ok (.goto 4, 3) := by decide +kernel
theorem dX9_count_125 : decode cX9_count 125 = .ok (.iconst 0, 1) := by decide +kernel
theorem dX9_count_126 : decode cX9_count 126 = .ok (.iadd, 1) := by decide +kernel
theorem dX9_count_127 : decode cX9_count 127 = .ok (.istore_n 2, 1) := by decide +kernel
theorem dX9_count_128 : decode cX9_count 128 = .ok (.iinc 3 1, 3) := by decide +kernel
theorem dX9_count_131 : decode cX9_count 131 = .ok (.goto (-28), 3) := by decide +kernel
theorem dX9_count_134 : decode cX9_count 134 = .ok (.iload_n 2, 1) := by decide +kernel
theorem dX9_count_135 : decode cX9_count 135 = .ok (.ireturn, 1) := by decide +kernel
theorem dX9_count_136 : decode cX9_count 136 = .ok (.aload_n 0, 1) := by decide +kernel
theorem dX9_count_137 : decode cX9_count 137 = .ok (.getfield 121, 3) := by decide +kernel
theorem dX9_count_140 : decode cX9_count 140 = .ok (.ireturn, 1) := by decide +kernel
theorem dX9_count_141 : decode cX9_count 141 = .ok (.aload_n 0, 1) := by decide +kernel
theorem dX9_count_142 : decode cX9_count 142 = .ok (.getfield 118, 3) := by decide +kernel
theorem dX9_count_145 : decode cX9_count 145 = .ok (.ireturn, 1) := by decide +kernel
theorem dX9_count_146 : decode cX9_count 146 = .ok (.aload_n 0, 1) := by decide +kernel
theorem dX9_count_147 : decode cX9_count 147 = .ok (.invokevirtual 159, 3) := by decide +kernel
theorem dX9_count_150 : decode cX9_count 150 = .ok (.ireturn, 1) := by decide +kernel
theorem dX9_count_151 : decode cX9_count 151 = .ok (.iconst (-1), 1) := by decide +kernel
theorem dX9_count_152 : decode cX9_count 152 = .ok (.ireturn, 1) := by decide +kernel
theorem dJ6_compare_7cf53_0 : decode cJ6_compare_7cf53 0 = .ok (.iload_n 0, 1) := by decide +kernel
theorem dJ6_compare_7cf53_1 : decode cJ6_compare_7cf53 1 = .ok (.iload_n 1, 1) := by decide +kernel
theorem dJ6_compare_7cf53_2 : decode cJ6_compare_7cf53 2 = .ok (.if_icmp .ge 7, 3) := by decide +kernel
theorem dJ6_compare_7cf53_5 : decode cJ6_compare_7cf53 5 = .ok (.iconst (-1), 1) := by decide +kernel
theorem dJ6_compare_7cf53_6 : decode cJ6_compare_7cf53 6 = .ok (.goto 13, 3) := by decide +kernel
theorem dJ6_compare_7cf53_9 : decode cJ6_compare_7cf53 9 = .ok (.iload_n 0, 1) := by decide +kernel
theorem dJ6_compare_7cf53_10 : decode cJ6_compare_7cf53 10 = .ok (.iload_n 1, 1) := by decide +kernel
theorem dJ6_compare_7cf53_11 : decode cJ6_compare_7cf53 11 = .ok (.if_icmp .ne 7, 3) := by decide +kernel
theorem dJ6_compare_7cf53_14 : decode cJ6_compare_7cf53 14 = .ok (.iconst 0, 1) := by decide +kernel
theorem dJ6_compare_7cf53_15 : decode cJ6_compare_7cf53 15 = .ok (.goto 4, 3) := by decide +kernel
theorem dJ6_compare_7cf53_18 : decode cJ6_compare_7cf53 18 = .ok (.iconst 1, 1) := by decide +kernel
theorem dJ6_compare_7cf53_19 : decode cJ6_compare_7cf53 19 = .ok (.ireturn, 1) := by decide +kernel
theorem dJ6_lowestOneBit_0f7a4_0 : decode cJ6_lowestOneBit_0f7a4 0 = .ok (.iload_n 0, 1) := by decide +kernel
theorem dJ6_lowestOneBit_0f7a4_1 : decode cJ6_lowestOneBit_0f7a4 1 = .ok (.iload_n 0, 1) := by decide +kernel
theorem dJ6_lowestOneBit_0f7a4_2 : decode cJ6_lowestOneBit_0f7a4 2 = .ok (.ineg, 1) := by decide +kernel
theorem dJ6_lowestOneBit_0f7a4_3 : decode cJ6_lowestOneBit_0f7a4 3 = .ok (.iand, 1) := by decide +kernel
theorem dJ6_lowestOneBit_0f7a4_4 : decode cJ6_lowestOneBit_0f7a4 4 = .ok (.ireturn, 1) := by decide +kernel
theorem dJ6_bitCount_0f7a4_0 : decode cJ6_bitCount_0f7a4 0 = .ok (.iload_n 0, 1) := by decide +kernel
theorem dJ6_bitCount_0f7a4_1 : decode cJ6_bitCount_0f7a4 1 = .ok (.iload_n 0, 1) := by decide +kernel
theorem dJ6_bitCount_0f7a4_2 : decode cJ6_bitCount_0f7a4 2 = .ok (.iconst 1, 1) := by decide +kernel
theorem dJ6_bitCount_0f7a4_3 : decode cJ6_bitCount_0f7a4 3 = .ok (.iushr, 1) := by decide +kernel
theorem dJ6_bitCount_0f7a4_4 : decode cJ6_bitCount_0f7a4 4 = .ok (.ldc_w 265, 3) := by decide +kernel
theorem dJ6_bitCount_0f7a4_7 : decode cJ6_bitCount_0f7a4 7 = .ok (.iand, 1) := by decide +kernel
theorem dJ6_bitCount_0f7a4_8 : decode cJ6_bitCount_0f7a4 8 = .ok (.isub, 1) := by decide +kernel
theorem dJ6_bitCount_0f7a4_9 : decode cJ6_bitCount_0f7a4 9 = .ok (.istore_n 0, 1) := by decide +kernel
theorem dJ6_bitCount_0f7a4_10 : decode cJ6_bitCount_0f7a4 10 = .ok (.iload_n 0, 1) := by decide +kernel
theorem dJ6_bitCount_0f7a4_11 : decode cJ6_bitCount_0f7a4 11 = .ok (.ldc_w 266, 3) := by decide +kernel
theorem dJ6_bitCount_0f7a4_14 : decode cJ6_bitCount_0f7a4 14 = .ok (.iand, 1) := by decide +kernel
theorem dJ6_bitCount_0f7a4_15 : decode cJ6_bitCount_0f7a4 15 = .ok (.iload_n 0, 1) := by decide +kernel
theorem dJ6_bitCount_0f7a4_16 : decode cJ6_bitCount_0f7a4 16 = .ok (.iconst 2, 1) := by decide +kernel
theorem dJ6_bitCount_0f7a4_17 : decode cJ6_bitCount_0f7a4 17 = .ok (.iushr, 1) := by decide +kernel
theorem dJ6_bitCount_0f7a4_18 : decode cJ6_bitCount_0f7a4 18 = .ok (.ldc_w 266, 3) := by decide +kernel
theorem dJ6_bitCount_0f7a4_21 : decode cJ6_bitCount_0f7a4 21 = .ok (.iand, 1) := by decide +kernel
