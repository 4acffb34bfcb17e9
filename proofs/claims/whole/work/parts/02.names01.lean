theorem dX0_isBetter_58 : decode cX0_isBetter 58 = .ok (.iload_n 2, 1) := by decide +kernel
theorem dX0_isBetter_59 : decode cX0_isBetter 59 = .ok (.ixor, 1) := by decide +kernel
theorem dX0_isBetter_60 : decode cX0_isBetter 60 = .ok (.invokestatic 45, 3) := by decide +kernel
theorem dX0_isBetter_63 : decode cX0_isBetter 63 = .ok (.iload_n 1, 1) := by decide +kernel
theorem dX0_isBetter_64 : decode cX0_isBetter 64 = .ok (.iand, 1) := by decide +kernel
theorem dX0_isBetter_65 : decode cX0_isBetter 65 = .ok (.ifCond .eq 7, 3) := by decide +kernel
theorem dX0_isBetter_68 : decode cX0_isBetter 68 = .ok (.iconst 1, 1) := by decide +kernel
theorem dX0_isBetter_69 : decode cX0_isBetter 69 = .ok (.goto 4, 3) := by decide +kernel
theorem dX0_isBetter_72 : decode cX0_isBetter 72 = .ok (.iconst 0, 1) := by decide +kernel
theorem dX0_isBetter_73 : decode cX0_isBetter 73 = .ok (.ireturn, 1) := by decide +kernel
theorem dX1_init_0 : decode cX1_init 0 = .ok (.aload_n 0, 1) := by decide +kernel
theorem dX1_init_1 : decode cX1_init 1 = .ok (.invokespecial 3, 3) := by decide +kernel
theorem dX1_init_4 : decode cX1_init 4 = .ok (.aload_n 0, 1) := by decide +kernel
theorem dX1_init_5 : decode cX1_init 5 = .ok (.bipush 24, 2) := by decide +kernel
theorem dX1_init_7 : decode cX1_init 7 = .ok (.newarray .int, 2) := by decide +kernel
theorem dX1_init_9 : decode cX1_init 9 = .ok (.putfield 9, 3) := by decide +kernel
theorem dX1_init_12 : decode cX1_init 12 = .ok (.aload_n 0, 1) := by decide +kernel
theorem dX1_init_13 : decode cX1_init 13 = .ok (.bipush 24, 2) := by decide +kernel
theorem dX1_init_15 : decode cX1_init 15 = .ok (.newarray .int, 2) := by decide +kernel
theorem dX1_init_17 : decode cX1_init 17 = .ok (.putfield 15, 3) := by decide +kernel
theorem dX1_init_20 : decode cX1_init 20 = .ok (.aload_n 0, 1) := by decide +kernel
theorem dX1_init_21 : decode cX1_init 21 = .ok (.bipush 24, 2) := by decide +kernel
theorem dX1_init_23 : decode cX1_init 23 = .ok (.newarray .int, 2) := by decide +kernel
theorem dX1_init_25 : decode cX1_init 25 = .ok (.putfield 18, 3) := by decide +kernel
theorem dX1_init_28 : decode cX1_init 28 = .ok (.aload_n 0, 1) := by decide +kernel
theorem dX1_init_29 : decode cX1_init 29 = .ok (.bipush 25, 2) := by decide +kernel
theorem dX1_init_31 : decode cX1_init 31 = .ok (.newarray .int, 2) := by decide +kernel
theorem dX1_init_33 : decode cX1_init 33 = .ok (.putfield 21, 3) := by decide +kernel
theorem dX1_init_36 : decode cX1_init 36 = .ok (.aload_n 0, 1) := by decide +kernel
theorem dX1_init_37 : decode cX1_init 37 = .ok (.aload_n 1, 1) := by decide +kernel
theorem dX1_init_38 : decode cX1_init 38 = .ok (.putfield 24, 3) := by decide +kernel
theorem dX1_init_41 : decode cX1_init 41 = .ok (.aload_n 0, 1) := by decide +kernel
theorem dX1_init_42 : decode cX1_init 42 = .ok (.aload_n 2, 1) := by decide +kernel
theorem dX1_init_43 : decode cX1_init 43 = .ok (.putfield 28, 3) := by decide +kernel
theorem dX1_init_46 : decode cX1_init 46 = .ok (.aload_n 0, 1) := by decide +kernel
theorem dX1_init_47 : decode cX1_init 47 = .ok (.aload_n 3, 1) := by decide +kernel
theorem dX1_init_48 : decode cX1_init 48 = .ok (.putfield 32, 3) := by decide +kernel
theorem dX1_init_51 : decode cX1_init 51 = .ok (.return_, 1) := by decide +kernel
set_option maxRecDepth 20000 in
theorem ggX1_takeBest_X2_ofProduct : GoodIn wsX1_takeBest wsX2_ofProduct := goodIn_r _ [14, 15, 16, 17, 18, 19, 20, 21, 22, 23, 24, 25, 26, 27, 28, 29, 117, 118, 119, 120, 121, 122, 123, 124, 125, 126, 127, 108, 109, 110, 111, 112, 113, 114, 115, 116] (by decide +kernel) (by decide +kernel)
set_option maxRecDepth 20000 in
theorem gX1_takeBest_X2_ofProduct : GoodIn wsX1_takeBest (wsV RX1 42 RX2 yX2_ofProduct wsX2_ofProduct) := goodIn_app (goodIn_of _ (by decide +kernel)) ggX1_takeBest_X2_ofProduct
set_option maxRecDepth 20000 in
theorem ggX1_takeBest_X1_lineUp : GoodIn wsX1_takeBest wsX1_lineUp := goodIn_r _ [34, 5, 2, 35, 36, 27, 28, 29, 98, 99, 100, 101, 102, 103, 104, 105, 106, 107, 108, 109, 110, 111, 112, 113, 114, 115, 116] (by decide +kernel) (by decide +kernel)
set_option maxRecDepth 20000 in
theorem gX1_takeBest_X1_lineUp : GoodIn wsX1_takeBest (wsV RX1 48 RX1 yX1_lineUp wsX1_lineUp) := goodIn_app (goodIn_of _ (by decide +kernel)) ggX1_takeBest_X1_lineUp
set_option maxRecDepth 20000 in
theorem ggX1_takeBest_X1_settle : GoodIn wsX1_takeBest wsX1_settle := goodIn_r _ [40, 5, 36, 41, 35, 1, 2, 42, 3, 43, 44, 45, 46, 47, 48, 49, 50, 51, 13, 52, 53, 15, 54, 55, 28, 56, 57, 58, 59, 60, 61, 62, 63, 64, 16, 65, 27, 29, 66, 67, 68, 69, 70, 71, 72, 73, 74, 75, 76, 98, 99, 100, 101, 102, 103, 104, 105, 106, 107, 108, 109, 110, 111, 112, 113, 114, 115, 116, 122, 123, 124, 125, 126, 127, 117, 118, 119, 120, 121, 128, 129, 130] (by decide +kernel) (by decide +kernel)
set_option maxRecDepth 20000 in
theorem gX1_takeBest_X1_settle : GoodIn wsX1_takeBest (wsV RX1 59 RX1 yX1_settle wsX1_settle) := goodIn_app (goodIn_of _ (by decide +kernel)) ggX1_takeBest_X1_settle
set_option maxRecDepth 20000 in
theorem ggX1_takeBest_X1_keepIfBetter : GoodIn wsX1_takeBest wsX1_keepIfBetter := goodIn_r _ [80, 42, 5, 1, 41, 3, 4, 35, 81, 82, 83, 84, 85, 70, 71, 72, 73, 74, 75, 76, 86, 87, 88, 33, 89, 98, 99, 100, 101, 102, 103, 104, 105, 106, 107, 117, 118, 119, 120, 121, 122, 123, 124, 125, 126, 127] (by decide +kernel) (by decide +kernel)
set_option maxRecDepth 20000 in
theorem gX1_takeBest_X1_keepIfBetter : GoodIn wsX1_takeBest (wsV RX1 66 RX1 yX1_keepIfBetter wsX1_keepIfBetter) := goodIn_app (goodIn_of _ (by decide +kernel)) ggX1_takeBest_X1_keepIfBetter
set_option maxRecDepth 20000 in
theorem ggX1_takeBest_X1_advance : GoodIn wsX1_takeBest wsX1_advance := goodIn_r _ [93, 36, 35, 41, 98, 99, 100, 101, 102, 103, 104, 105, 106, 107, 122, 123, 124, 125, 126, 127] (by decide +kernel) (by decide +kernel)
set_option maxRecDepth 20000 in
theorem gX1_takeBest_X1_advance : GoodIn wsX1_takeBest (wsV RX1 74 RX1 yX1_advance wsX1_advance) := goodIn_app (goodIn_of _ (by decide +kernel)) ggX1_takeBest_X1_advance
set_option maxRecDepth 20000 in
theorem ggX1_takeBest_X1_takeKept : GoodIn wsX1_takeBest wsX1_takeKept := goodIn_r _ [97, 5, 36, 41, 81, 43, 44, 45, 46, 47, 48, 98, 99, 100, 101, 102, 103, 104, 105, 106, 107, 122, 123, 124, 125, 126, 127] (by decide +kernel) (by decide +kernel)
set_option maxRecDepth 20000 in
theorem gX1_takeBest_X1_takeKept : GoodIn wsX1_takeBest (wsV RX1 78 RX1 yX1_takeKept wsX1_takeKept) := goodIn_app (goodIn_of _ (by decide +kernel)) ggX1_takeBest_X1_takeKept
theorem dX1_takeBest_0 : decode cX1_takeBest 0 = .ok (.aload_n 0, 1) := by decide +kernel
theorem dX1_takeBest_1 : decode cX1_takeBest 1 = .ok (.aload_n 0, 1) := by decide +kernel
theorem dX1_takeBest_2 : decode cX1_takeBest 2 = .ok (.getfield 32, 3) := by decide +kernel
theorem dX1_takeBest_5 : decode cX1_takeBest 5 = .ok (.aload_n 0, 1) := by decide +kernel
theorem dX1_takeBest_6 : decode cX1_takeBest 6 = .ok (.getfield 28, 3) := by decide +kernel
theorem dX1_takeBest_9 : decode cX1_takeBest 9 = .ok (.getfield 36, 3) := by decide +kernel
theorem dX1_takeBest_12 : decode cX1_takeBest 12 = .ok (.invokevirtual 42, 3) := by decide +kernel
theorem dX1_takeBest_15 : decode cX1_takeBest 15 = .ok (.invokevirtual 48, 3) := by decide +kernel
theorem dX1_takeBest_18 : decode cX1_takeBest 18 = .ok (.aload_n 0, 1) := by decide +kernel
theorem dX1_takeBest_19 : decode cX1_takeBest 19 = .ok (.sipush 1537, 3) := by decide +kernel
theorem dX1_takeBest_22 : decode cX1_takeBest 22 = .ok (.putfield 52, 3) := by decide +kernel
theorem dX1_takeBest_25 : decode cX1_takeBest 25 = .ok (.aload_n 0, 1) := by decide +kernel
theorem dX1_takeBest_26 : decode cX1_takeBest 26 = .ok (.sipush 1537, 3) := by decide +kernel
theorem dX1_takeBest_29 : decode cX1_takeBest 29 = .ok (.putfield 56, 3) := by decide +kernel
theorem dX1_takeBest_32 : decode cX1_takeBest 32 = .ok (.iconst 0, 1) := by decide +kernel
theorem dX1_takeBest_33 : decode cX1_takeBest 33 = .ok (.istore_n 2, 1) := by decide +kernel
theorem dX1_takeBest_34 : decode cX1_takeBest 34 = .ok (.iconst 0, 1) := by decide +kernel
theorem dX1_takeBest_35 : decode cX1_takeBest 35 = .ok (.istore_n 3, 1) := by decide +kernel
theorem dX1_takeBest_36 : decode cX1_takeBest 36 = .ok (.iload_n 3, 1) := by decide +kernel
theorem dX1_takeBest_37 : decode cX1_takeBest 37 = .ok (.sipush 6561, 3) := by decide +kernel
theorem dX1_takeBest_40 : decode cX1_takeBest 40 = .ok (.if_icmp .ge 51, 3) := by decide +kernel
theorem dX1_takeBest_43 : decode cX1_takeBest 43 = .ok (.iload_n 2, 1) := by decide +kernel
theorem dX1_takeBest_44 : decode cX1_takeBest 44 = .ok (.iconst (-1), 1) := by decide +kernel
theorem dX1_takeBest_45 : decode cX1_takeBest 45 = .ok (.if_icmp .eq 46, 3) := by decide +kernel
theorem dX1_takeBest_48 : decode cX1_takeBest 48 = .ok (.aload_n 0, 1) := by decide +kernel
theorem dX1_takeBest_49 : decode cX1_takeBest 49 = .ok (.iload_n 1, 1) := by decide +kernel
theorem dX1_takeBest_50 : decode cX1_takeBest 50 = .ok (.iload_n 2, 1) := by decide +kernel
theorem dX1_takeBest_51 : decode cX1_takeBest 51 = .ok (.invokevirtual 59, 3) := by decide +kernel
theorem dX1_takeBest_54 : decode cX1_takeBest 54 = .ok (.istore 4, 2) := by decide +kernel
theorem dX1_takeBest_56 : decode cX1_takeBest 56 = .ok (.iload 4, 2) := by decide +kernel
theorem dX1_takeBest_58 : decode cX1_takeBest 58 = .ok (.aload_n 0, 1) := by decide +kernel
theorem dX1_takeBest_59 : decode cX1_takeBest 59 = .ok (.getfield 63, 3) := by decide +kernel
theorem dX1_takeBest_62 : decode cX1_takeBest 62 = .ok (.if_icmp .ne 7, 3) := by decide +kernel
theorem dX1_takeBest_65 : decode cX1_takeBest 65 = .ok (.aload_n 0, 1) := by decide +kernel
theorem dX1_takeBest_66 : decode cX1_takeBest 66 = .ok (.invokevirtual 66, 3) := by decide +kernel
theorem dX1_takeBest_69 : decode cX1_takeBest 69 = .ok (.aload_n 0, 1) := by decide +kernel
theorem dX1_takeBest_70 : decode cX1_takeBest 70 = .ok (.iload 4, 2) := by decide +kernel
theorem dX1_takeBest_72 : decode cX1_takeBest 72 = .ok (.aload_n 0, 1) := by decide +kernel
theorem dX1_takeBest_73 : decode cX1_takeBest 73 = .ok (.getfield 63, 3) := by decide +kernel
theorem dX1_takeBest_76 : decode cX1_takeBest 76 = .ok (.iconst 1, 1) := by decide +kernel
theorem dX1_takeBest_77 : decode cX1_takeBest 77 = .ok (.isub, 1) := by decide +kernel
theorem dX1_takeBest_78 : decode cX1_takeBest 78 = .ok (.invokestatic 69, 3) := by decide +kernel
theorem dX1_takeBest_81 : decode cX1_takeBest 81 = .ok (.invokevirtual 74, 3) := by decide +kernel
theorem dX1_takeBest_84 : decode cX1_takeBest 84 = .ok (.istore_n 2, 1) := by decide +kernel
theorem dX1_takeBest_85 : decode cX1_takeBest 85 = .ok (.iinc 3 1, 3) := by decide +kernel
theorem dX1_takeBest_88 : decode cX1_takeBest 88 = .ok (.goto (-52), 3) := by decide +kernel
theorem dX1_takeBest_91 : decode cX1_takeBest 91 = .ok (.aload_n 0, 1) := by decide +kernel
theorem dX1_takeBest_92 : decode cX1_takeBest 92 = .ok (.invokevirtual 78, 3) := by decide +kernel
theorem dX1_takeBest_95 : decode cX1_takeBest 95 = .ok (.aload_n 0, 1) := by decide +kernel
theorem dX1_takeBest_96 : decode cX1_takeBest 96 = .ok (.getfield 52, 3) := by decide +kernel
theorem dX1_takeBest_99 : decode cX1_takeBest 99 = .ok (.ireturn, 1) := by decide +kernel
set_option maxRecDepth 20000 in
theorem ggX1_lineUp_X8_holds : GoodIn wsX1_lineUp wsX8_holds := goodIn_r _ [7] (by decide +kernel) (by decide +kernel)
set_option maxRecDepth 20000 in
theorem gX1_lineUp_X8_holds_n84 : GoodIn wsX1_lineUp (wsX8_holds) := ggX1_lineUp_X8_holds
theorem dX1_lineUp_0 : decode cX1_lineUp 0 = .ok (.aload_n 0, 1) := by decide +kernel
theorem dX1_lineUp_1 : decode cX1_lineUp 1 = .ok (.iconst 0, 1) := by decide +kernel
theorem dX1_lineUp_2 : decode cX1_lineUp 2 = .ok (.putfield 63, 3) := by decide +kernel
theorem dX1_lineUp_5 : decode cX1_lineUp 5 = .ok (.iconst 0, 1) := by decide +kernel
theorem dX1_lineUp_6 : decode cX1_lineUp 6 = .ok (.istore_n 2, 1) := by decide +kernel
theorem dX1_lineUp_7 : decode cX1_lineUp 7 = .ok (.iload_n 2, 1) := by decide +kernel
theorem dX1_lineUp_8 : decode cX1_lineUp 8 = .ok (.bipush 24, 2) := by decide +kernel
theorem dX1_lineUp_10 : decode cX1_lineUp 10 = .ok (.if_icmp .ge 64, 3) := by decide +kernel
theorem dX1_lineUp_13 : decode cX1_lineUp 13 = .ok (.aload_n 0, 1) := by decide +kernel
theorem dX1_lineUp_14 : decode cX1_lineUp 14 = .ok (.getfield 28, 3) := by decide +kernel
theorem dX1_lineUp_17 : decode cX1_lineUp 17 = .ok (.getfield 81, 3) := by decide +kernel
theorem dX1_lineUp_20 : decode cX1_lineUp 20 = .ok (.iload_n 2, 1) := by decide +kernel
theorem dX1_lineUp_21 : decode cX1_lineUp 21 = .ok (.iaload, 1) := by decide +kernel
theorem dX1_lineUp_22 : decode cX1_lineUp 22 = .ok (.istore_n 3, 1) := by decide +kernel
theorem dX1_lineUp_23 : decode cX1_lineUp 23 = .ok (.aload_n 0, 1) := by decide +kernel
theorem dX1_lineUp_24 : decode cX1_lineUp 24 = .ok (.getfield 15, 3) := by decide +kernel
theorem dX1_lineUp_27 : decode cX1_lineUp 27 = .ok (.iload_n 3, 1) := by decide +kernel
theorem dX1_lineUp_28 : decode cX1_lineUp 28 = .ok (.iconst 0, 1) := by decide +kernel
theorem dX1_lineUp_29 : decode cX1_lineUp 29 = .ok (.iastore, 1) := by decide +kernel
theorem dX1_lineUp_30 : decode cX1_lineUp 30 = .ok (.iload_n 1, 1) := by decide +kernel
theorem dX1_lineUp_31 : decode cX1_lineUp 31 = .ok (.i2l, 1) := by decide +kernel
theorem dX1_lineUp_32 : decode cX1_lineUp 32 = .ok (.iload_n 3, 1) := by decide +kernel
theorem dX1_lineUp_33 : decode cX1_lineUp 33 = .ok (.invokestatic 84, 3) := by decide +kernel
theorem dX1_lineUp_36 : decode cX1_lineUp 36 = .ok (.ifCond .eq 32, 3) := by decide +kernel
theorem dX1_lineUp_39 : decode cX1_lineUp 39 = .ok (.aload_n 0, 1) := by decide +kernel
theorem dX1_lineUp_40 : decode cX1_lineUp 40 = .ok (.getfield 63, 3) := by decide +kernel
theorem dX1_lineUp_43 : decode cX1_lineUp 43 = .ok (.bipush 24, 2) := by decide +kernel
theorem dX1_lineUp_45 : decode cX1_lineUp 45 = .ok (.if_icmp .ge 23, 3) := by decide +kernel
theorem dX1_lineUp_48 : decode cX1_lineUp 48 = .ok (.aload_n 0, 1) := by decide +kernel
theorem dX1_lineUp_49 : decode cX1_lineUp 49 = .ok (.getfield 9, 3) := by decide +kernel
theorem dX1_lineUp_52 : decode cX1_lineUp 52 = .ok (.aload_n 0, 1) := by decide +kernel
theorem dX1_lineUp_53 : decode cX1_lineUp 53 = .ok (.getfield 63, 3) := by decide +kernel
theorem dX1_lineUp_56 : decode cX1_lineUp 56 = .ok (.iload_n 3, 1) := by decide +kernel
theorem dX1_lineUp_57 : decode cX1_lineUp 57 = .ok (.iastore, 1) := by decide +kernel
theorem dX1_lineUp_58 : decode cX1_lineUp 58 = .ok (.aload_n 0, 1) := by decide +kernel
theorem dX1_lineUp_59 : decode cX1_lineUp 59 = .ok (.dup, 1) := by decide +kernel
theorem dX1_lineUp_60 : decode cX1_lineUp 60 = .ok (.getfield 63, 3) := by decide +kernel
theorem dX1_lineUp_63 : decode cX1_lineUp 63 = .ok (.iconst 1, 1) := by decide +kernel
theorem dX1_lineUp_64 : decode cX1_lineUp 64 = .ok (.iadd, 1) := by decide +kernel
theorem dX1_lineUp_65 : decode cX1_lineUp 65 = .ok (.putfield 63, 3) := by decide +kernel
theorem dX1_lineUp_68 : decode cX1_lineUp 68 = .ok (.iinc 2 1, 3) := by decide +kernel
theorem dX1_lineUp_71 : decode cX1_lineUp 71 = .ok (.goto (-64), 3) := by decide +kernel
theorem dX1_lineUp_74 : decode cX1_lineUp 74 = .ok (.return_, 1) := by decide +kernel
set_option maxRecDepth 20000 in
theorem ggX1_settle_X5_choiceOf : GoodIn wsX1_settle wsX5_choiceOf := goodIn_r _ [13, 14, 68, 69, 70, 71, 72, 73] (by decide +kernel) (by decide +kernel)
set_option maxRecDepth 20000 in
theorem gX1_settle_X5_choiceOf : GoodIn wsX1_settle (wsV RX1 88 RX5 yX5_choiceOf wsX5_choiceOf) := goodIn_app (goodIn_of _ (by decide +kernel)) ggX1_settle_X5_choiceOf
set_option maxRecDepth 20000 in
theorem ggX1_settle_X2_brought : GoodIn wsX1_settle wsX2_brought := goodIn_r _ [19, 20, 21, 22, 23, 24, 25, 26, 27, 28, 29, 74, 75, 76, 77, 78, 79, 80, 81, 68, 69, 70, 71, 72, 73] (by decide +kernel) (by decide +kernel)
set_option maxRecDepth 20000 in
theorem gX1_settle_X2_brought : GoodIn wsX1_settle (wsV RX1 93 RX2 yX2_brought wsX2_brought) := goodIn_app (goodIn_of _ (by decide +kernel)) ggX1_settle_X2_brought
set_option maxRecDepth 20000 in
theorem ggX1_settle_X2_arrive : GoodIn wsX1_settle wsX2_arrive := goodIn_r _ [33, 34, 35, 20, 36, 24, 37, 74, 75, 76, 77, 78, 59, 60, 61, 62, 63, 64, 65, 66, 67, 79, 80, 81] (by decide +kernel) (by decide +kernel)
set_option maxRecDepth 20000 in
theorem gX1_settle_X2_arrive : GoodIn wsX1_settle (wsV RX1 97 RX2 yX2_arrive wsX2_arrive) := goodIn_app (goodIn_of _ (by decide +kernel)) ggX1_settle_X2_arrive
set_option maxRecDepth 20000 in
theorem ggX1_settle_X2_foughtAt : GoodIn wsX1_settle wsX2_foughtAt := goodIn_r _ [41, 35, 20, 74, 75, 76, 77, 78, 79, 80, 81] (by decide +kernel) (by decide +kernel)
set_option maxRecDepth 20000 in
theorem gX1_settle_X2_foughtAt : GoodIn wsX1_settle (wsV RX1 101 RX2 yX2_foughtAt wsX2_foughtAt) := goodIn_app (goodIn_of _ (by decide +kernel)) ggX1_settle_X2_foughtAt
set_option maxRecDepth 20000 in
theorem ggX1_settle_J13_bitCount_95d88 : GoodIn wsX1_settle wsJ13_bitCount_95d88 := goodIn_r _ [45, 46, 47, 48] (by decide +kernel) (by decide +kernel)
set_option maxRecDepth 20000 in
theorem gX1_settle_J13_bitCount_95d88 : GoodIn wsX1_settle (va_wsS RX1 105 yJ13_bitCount_95d88 wsJ13_bitCount_95d88) := goodIn_app (goodIn_of _ (by decide +kernel)) ggX1_settle_J13_bitCount_95d88
theorem dX1_settle_0 : decode cX1_settle 0 = .ok (.iload_n 2, 1) := by decide +kernel
theorem dX1_settle_1 : decode cX1_settle 1 = .ok (.istore_n 3, 1) := by decide +kernel
theorem dX1_settle_2 : decode cX1_settle 2 = .ok (.iload_n 3, 1) := by decide +kernel
theorem dX1_settle_3 : decode cX1_settle 3 = .ok (.aload_n 0, 1) := by decide +kernel
theorem dX1_settle_4 : decode cX1_settle 4 = .ok (.getfield 63, 3) := by decide +kernel
theorem dX1_settle_7 : decode cX1_settle 7 = .ok (.if_icmp .ge 109, 3) := by decide +kernel
theorem dX1_settle_10 : decode cX1_settle 10 = .ok (.aload_n 0, 1) := by decide +kernel
theorem dX1_settle_11 : decode cX1_settle 11 = .ok (.getfield 9, 3) := by decide +kernel
theorem dX1_settle_14 : decode cX1_settle 14 = .ok (.iload_n 3, 1) := by decide +kernel
theorem dX1_settle_15 : decode cX1_settle 15 = .ok (.iaload, 1) := by decide +kernel
theorem dX1_settle_16 : decode cX1_settle 16 = .ok (.istore 4, 2) := by decide +kernel
theorem dX1_settle_18 : decode cX1_settle 18 = .ok (.aload_n 0, 1) := by decide +kernel
theorem dX1_settle_19 : decode cX1_settle 19 = .ok (.getfield 24, 3) := by decide +kernel
theorem dX1_settle_22 : decode cX1_settle 22 = .ok (.iload 4, 2) := by decide +kernel
theorem dX1_settle_24 : decode cX1_settle 24 = .ok (.aload_n 0, 1) := by decide +kernel
theorem dX1_settle_25 : decode cX1_settle 25 = .ok (.getfield 15, 3) := by decide +kernel
theorem dX1_settle_28 : decode cX1_settle 28 = .ok (.iload 4, 2) := by decide +kernel
theorem dX1_settle_30 : decode cX1_settle 30 = .ok (.iaload, 1) := by decide +kernel
theorem dX1_settle_31 : decode cX1_settle 31 = .ok (.invokevirtual 88, 3) := by decide +kernel
theorem dX1_settle_34 : decode cX1_settle 34 = .ok (.istore 5, 2) := by decide +kernel
theorem dX1_settle_36 : decode cX1_settle 36 = .ok (.aload_n 0, 1) := by decide +kernel
theorem dX1_settle_37 : decode cX1_settle 37 = .ok (.getfield 32, 3) := by decide +kernel
theorem dX1_settle_40 : decode cX1_settle 40 = .ok (.iload 4, 2) := by decide +kernel
theorem dX1_settle_42 : decode cX1_settle 42 = .ok (.aload_n 0, 1) := by decide +kernel
theorem dX1_settle_43 : decode cX1_settle 43 = .ok (.getfield 32, 3) := by decide +kernel
theorem dX1_settle_46 : decode cX1_settle 46 = .ok (.iload_n 1, 1) := by decide +kernel
theorem dX1_settle_47 : decode cX1_settle 47 = .ok (.iload 4, 2) := by decide +kernel
theorem dX1_settle_49 : decode cX1_settle 49 = .ok (.iload 5, 2) := by decide +kernel
theorem dX1_settle_51 : decode cX1_settle 51 = .ok (.invokevirtual 93, 3) := by decide +kernel
theorem dX1_settle_54 : decode cX1_settle 54 = .ok (.aload_n 0, 1) := by decide +kernel
theorem dX1_settle_55 : decode cX1_settle 55 = .ok (.getfield 28, 3) := by decide +kernel
theorem dX1_settle_58 : decode cX1_settle 58 = .ok (.getfield 36, 3) := by decide +kernel
theorem dX1_settle_61 : decode cX1_settle 61 = .ok (.invokevirtual 97, 3) := by decide +kernel
theorem dX1_settle_64 : decode cX1_settle 64 = .ok (.aload_n 0, 1) := by decide +kernel
theorem dX1_settle_65 : decode cX1_settle 65 = .ok (.getfield 21, 3) := by decide +kernel
theorem dX1_settle_68 : decode cX1_settle 68 = .ok (.iload_n 3, 1) := by decide +kernel
theorem dX1_settle_69 : decode cX1_settle 69 = .ok (.iconst 1, 1) := by decide +kernel
theorem dX1_settle_70 : decode cX1_settle 70 = .ok (.iadd, 1) := by decide +kernel
theorem dX1_settle_71 : decode cX1_settle 71 = .ok (.aload_n 0, 1) := by decide +kernel
theorem dX1_settle_72 : decode cX1_settle 72 = .ok (.getfield 21, 3) := by decide +kernel
theorem dX1_settle_75 : decode cX1_settle 75 = .ok (.iload_n 3, 1) := by decide +kernel
theorem dX1_settle_76 : decode cX1_settle 76 = .ok (.iaload, 1) := by decide +kernel
theorem dX1_settle_77 : decode cX1_settle 77 = .ok (.aload_n 0, 1) := by decide +kernel
theorem dX1_settle_78 : decode cX1_settle 78 = .ok (.getfield 32, 3) := by decide +kernel
theorem dX1_settle_81 : decode cX1_settle 81 = .ok (.iload 4, 2) := by decide +kernel
theorem dX1_settle_83 : decode cX1_settle 83 = .ok (.iload 5, 2) := by decide +kernel
theorem dX1_settle_85 : decode cX1_settle 85 = .ok (.invokevirtual 101, 3) := by decide +kernel
theorem dX1_settle_88 : decode cX1_settle 88 = .ok (.invokestatic 105, 3) := by decide +kernel
theorem dX1_settle_91 : decode cX1_settle 91 = .ok (.iadd, 1) := by decide +kernel
theorem dX1_settle_92 : decode cX1_settle 92 = .ok (.iastore, 1) := by decide +kernel
theorem dX1_settle_93 : decode cX1_settle 93 = .ok (.aload_n 0, 1) := by decide +kernel
theorem dX1_settle_94 : decode cX1_settle 94 = .ok (.getfield 21, 3) := by decide +kernel
theorem dX1_settle_97 : decode cX1_settle 97 = .ok (.iload_n 3, 1) := by decide +kernel
theorem dX1_settle_98 : decode cX1_settle 98 = .ok (.iconst 1, 1) := by decide +kernel
theorem dX1_settle_99 : decode cX1_settle 99 = .ok (.iadd, 1) := by decide +kernel
theorem dX1_settle_100 : decode cX1_settle 100 = .ok (.iaload, 1) := by decide +kernel
theorem dX1_settle_101 : decode cX1_settle 101 = .ok (.aload_n 0, 1) := by decide +kernel
theorem dX1_settle_102 : decode cX1_settle 102 = .ok (.getfield 52, 3) := by decide +kernel
theorem dX1_settle_105 : decode cX1_settle 105 = .ok (.if_icmp .le 5, 3) := by decide +kernel
theorem dX1_settle_108 : decode cX1_settle 108 = .ok (.iload_n 3, 1) := by decide +kernel
theorem dX1_settle_109 : decode cX1_settle 109 = .ok (.ireturn, 1) := by decide +kernel
theorem dX1_settle_110 : decode cX1_settle 110 = .ok (.iinc 3 1, 3) := by decide +kernel
theorem dX1_settle_113 : decode cX1_settle 113 = .ok (.goto (-111), 3) := by decide +kernel
theorem dX1_settle_116 : decode cX1_settle 116 = .ok (.aload_n 0, 1) := by decide +kernel
theorem dX1_settle_117 : decode cX1_settle 117 = .ok (.getfield 63, 3) := by decide +kernel
theorem dX1_settle_120 : decode cX1_settle 120 = .ok (.ireturn, 1) := by decide +kernel
theorem dX1_advance_0 : decode cX1_advance 0 = .ok (.iload_n 1, 1) := by decide +kernel
theorem dX1_advance_1 : decode cX1_advance 1 = .ok (.istore_n 2, 1) := by decide +kernel
theorem dX1_advance_2 : decode cX1_advance 2 = .ok (.iload_n 2, 1) := by decide +kernel
theorem dX1_advance_3 : decode cX1_advance 3 = .ok (.ifCond .lt 55, 3) := by decide +kernel
theorem dX1_advance_6 : decode cX1_advance 6 = .ok (.aload_n 0, 1) := by decide +kernel
theorem dX1_advance_7 : decode cX1_advance 7 = .ok (.getfield 9, 3) := by decide +kernel
theorem dX1_advance_10 : decode cX1_advance 10 = .ok (.iload_n 2, 1) := by decide +kernel
theorem dX1_advance_11 : decode cX1_advance 11 = .ok (.iaload, 1) := by decide +kernel
theorem dX1_advance_12 : decode cX1_advance 12 = .ok (.istore_n 3, 1) := by decide +kernel
theorem dX1_advance_13 : decode cX1_advance 13 = .ok (.aload_n 0, 1) := by decide +kernel
theorem dX1_advance_14 : decode cX1_advance 14 = .ok (.getfield 15, 3) := by decide +kernel
theorem dX1_advance_17 : decode cX1_advance 17 = .ok (.iload_n 3, 1) := by decide +kernel
theorem dX1_advance_18 : decode cX1_advance 18 = .ok (.iaload, 1) := by decide +kernel
theorem dX1_advance_19 : decode cX1_advance 19 = .ok (.iconst 1, 1) := by decide +kernel
theorem dX1_advance_20 : decode cX1_advance 20 = .ok (.iadd, 1) := by decide +kernel
theorem dX1_advance_21 : decode cX1_advance 21 = .ok (.aload_n 0, 1) := by decide +kernel
theorem dX1_advance_22 : decode cX1_advance 22 = .ok (.getfield 24, 3) := by decide +kernel
theorem dX1_advance_25 : decode cX1_advance 25 = .ok (.getfield 110, 3) := by decide +kernel
theorem dX1_advance_28 : decode cX1_advance 28 = .ok (.iload_n 3, 1) := by decide +kernel
theorem dX1_advance_29 : decode cX1_advance 29 = .ok (.iaload, 1) := by decide +kernel
theorem dX1_advance_30 : decode cX1_advance 30 = .ok (.if_icmp .ge 15, 3) := by decide +kernel
theorem dX1_advance_33 : decode cX1_advance 33 = .ok (.aload_n 0, 1) := by decide +kernel
theorem dX1_advance_34 : decode cX1_advance 34 = .ok (.getfield 15, 3) := by decide +kernel
theorem dX1_advance_37 : decode cX1_advance 37 = .ok (.iload_n 3, 1) := by decide +kernel
theorem dX1_advance_38 : decode cX1_advance 38 = .ok (.dup2, 1) := by decide +kernel
theorem dX1_advance_39 : decode cX1_advance 39 = .ok (.iaload, 1) := by decide +kernel
theorem dX1_advance_40 : decode cX1_advance 40 = .ok (.iconst 1, 1) := by decide +kernel
theorem dX1_advance_41 : decode cX1_advance 41 = .ok (.iadd, 1) := by decide +kernel
theorem dX1_advance_42 : decode cX1_advance 42 = .ok (.iastore, 1) := by decide +kernel
theorem dX1_advance_43 : decode cX1_advance 43 = .ok (.iload_n 2, 1) := by decide +kernel
theorem dX1_advance_44 : decode cX1_advance 44 = .ok (.ireturn, 1) := by decide +kernel
theorem dX1_advance_45 : decode cX1_advance 45 = .ok (.aload_n 0, 1) := by decide +kernel
theorem dX1_advance_46 : decode cX1_advance 46 = .ok (.getfield 15, 3) := by decide +kernel
theorem dX1_advance_49 : decode cX1_advance 49 = .ok (.iload_n 3, 1) := by decide +kernel
theorem dX1_advance_50 : decode cX1_advance 50 = .ok (.iconst 0, 1) := by decide +kernel
theorem dX1_advance_51 : decode cX1_advance 51 = .ok (.iastore, 1) := by decide +kernel
theorem dX1_advance_52 : decode cX1_advance 52 = .ok (.iinc 2 (-1), 3) := by decide +kernel
theorem dX1_advance_55 : decode cX1_advance 55 = .ok (.goto (-53), 3) := by decide +kernel
theorem dX1_advance_58 : decode cX1_advance 58 = .ok (.iconst (-1), 1) := by decide +kernel
theorem dX1_advance_59 : decode cX1_advance 59 = .ok (.ireturn, 1) := by decide +kernel
set_option maxRecDepth 20000 in
theorem ggX1_keepIfBetter_J13_bitCount_95d88 : GoodIn wsX1_keepIfBetter wsJ13_bitCount_95d88 := goodIn_r _ [16, 17, 18, 19] (by decide +kernel) (by decide +kernel)
set_option maxRecDepth 20000 in
theorem gX1_keepIfBetter_J13_bitCount_95d88 : GoodIn wsX1_keepIfBetter (va_wsS RX1 105 yJ13_bitCount_95d88 wsJ13_bitCount_95d88) := goodIn_app (goodIn_of _ (by decide +kernel)) ggX1_keepIfBetter_J13_bitCount_95d88
set_option maxRecDepth 20000 in
theorem ggX1_keepIfBetter_X1_isBetter : GoodIn wsX1_keepIfBetter wsX1_isBetter := goodIn_r _ [24, 5, 6, 7, 8, 25, 26, 27, 28, 29, 30, 31, 32, 33, 34] (by decide +kernel) (by decide +kernel)
set_option maxRecDepth 20000 in
theorem gX1_keepIfBetter_X1_isBetter : GoodIn wsX1_keepIfBetter (wsV RX1 120 RX1 yX1_isBetter wsX1_isBetter) := goodIn_app (goodIn_of _ (by decide +kernel)) ggX1_keepIfBetter_X1_isBetter
theorem dX1_keepIfBetter_0 : decode cX1_keepIfBetter 0 = .ok (.aload_n 0, 1) := by decide +kernel
theorem dX1_keepIfBetter_1 : decode cX1_keepIfBetter 1 = .ok (.getfield 21, 3) := by decide +kernel
theorem dX1_keepIfBetter_4 : decode cX1_keepIfBetter 4 = .ok (.aload_n 0, 1) := by decide +kernel
theorem dX1_keepIfBetter_5 : decode cX1_keepIfBetter 5 = .ok (.getfield 63, 3) := by decide +kernel
theorem dX1_keepIfBetter_8 : decode cX1_keepIfBetter 8 = .ok (.iaload, 1) := by decide +kernel
theorem dX1_keepIfBetter_9 : decode cX1_keepIfBetter 9 = .ok (.istore_n 1, 1) := by decide +kernel
theorem dX1_keepIfBetter_10 : decode cX1_keepIfBetter 10 = .ok (.aload_n 0, 1) := by decide +kernel
theorem dX1_keepIfBetter_11 : decode cX1_keepIfBetter 11 = .ok (.getfield 32, 3) := by decide +kernel
theorem dX1_keepIfBetter_14 : decode cX1_keepIfBetter 14 = .ok (.getfield 113, 3) := by decide +kernel
theorem dX1_keepIfBetter_17 : decode cX1_keepIfBetter 17 = .ok (.aload_n 0, 1) := by decide +kernel
theorem dX1_keepIfBetter_18 : decode cX1_keepIfBetter 18 = .ok (.getfield 24, 3) := by decide +kernel
theorem dX1_keepIfBetter_21 : decode cX1_keepIfBetter 21 = .ok (.getfield 117, 3) := by decide +kernel
theorem dX1_keepIfBetter_24 : decode cX1_keepIfBetter 24 = .ok (.laload, 1) := by decide +kernel
theorem dX1_keepIfBetter_25 : decode cX1_keepIfBetter 25 = .ok (.invokestatic 105, 3) := by decide +kernel
theorem dX1_keepIfBetter_28 : decode cX1_keepIfBetter 28 = .ok (.istore_n 2, 1) := by decide +kernel
theorem dX1_keepIfBetter_29 : decode cX1_keepIfBetter 29 = .ok (.aload_n 0, 1) := by decide +kernel
theorem dX1_keepIfBetter_30 : decode cX1_keepIfBetter 30 = .ok (.iload_n 1, 1) := by decide +kernel
theorem dX1_keepIfBetter_31 : decode cX1_keepIfBetter 31 = .ok (.iload_n 2, 1) := by decide +kernel
theorem dX1_keepIfBetter_32 : decode cX1_keepIfBetter 32 = .ok (.invokevirtual 120, 3) := by decide +kernel
theorem dX1_keepIfBetter_35 : decode cX1_keepIfBetter 35 = .ok (.ifCond .eq 28, 3) := by decide +kernel
theorem dX1_keepIfBetter_38 : decode cX1_keepIfBetter 38 = .ok (.aload_n 0, 1) := by decide +kernel
theorem dX1_keepIfBetter_39 : decode cX1_keepIfBetter 39 = .ok (.iload_n 1, 1) := by decide +kernel
theorem dX1_keepIfBetter_40 : decode cX1_keepIfBetter 40 = .ok (.putfield 52, 3) := by decide +kernel
theorem dX1_keepIfBetter_43 : decode cX1_keepIfBetter 43 = .ok (.aload_n 0, 1) := by decide +kernel
theorem dX1_keepIfBetter_44 : decode cX1_keepIfBetter 44 = .ok (.iload_n 2, 1) := by decide +kernel
theorem dX1_keepIfBetter_45 : decode cX1_keepIfBetter 45 = .ok (.putfield 56, 3) := by decide +kernel
theorem dX1_keepIfBetter_48 : decode cX1_keepIfBetter 48 = .ok (.aload_n 0, 1) := by decide +kernel
theorem dX1_keepIfBetter_49 : decode cX1_keepIfBetter 49 = .ok (.getfield 15, 3) := by decide +kernel
theorem dX1_keepIfBetter_52 : decode cX1_keepIfBetter 52 = .ok (.iconst 0, 1) := by decide +kernel
theorem dX1_keepIfBetter_53 : decode cX1_keepIfBetter 53 = .ok (.aload_n 0, 1) := by decide +kernel
theorem dX1_keepIfBetter_54 : decode cX1_keepIfBetter 54 = .ok (.getfield 18, 3) := by decide +kernel
theorem dX1_keepIfBetter_57 : decode cX1_keepIfBetter 57 = .ok (.iconst 0, 1) := by decide +kernel
theorem dX1_keepIfBetter_58 : decode cX1_keepIfBetter 58 = .ok (.bipush 24, 2) := by decide +kernel
theorem dX1_keepIfBetter_60 : decode cX1_keepIfBetter 60 = .ok (.invokestatic 124, 3) := by decide +kernel
theorem dX1_keepIfBetter_63 : decode cX1_keepIfBetter 63 = .ok (.return_, 1) := by decide +kernel
theorem dX1_isBetter_0 : decode cX1_isBetter 0 = .ok (.iload_n 1, 1) := by decide +kernel
theorem dX1_isBetter_1 : decode cX1_isBetter 1 = .ok (.aload_n 0, 1) := by decide +kernel
theorem dX1_isBetter_2 : decode cX1_isBetter 2 = .ok (.getfield 52, 3) := by decide +kernel
theorem dX1_isBetter_5 : decode cX1_isBetter 5 = .ok (.if_icmp .eq 17, 3) := by decide +kernel
theorem dX1_isBetter_8 : decode cX1_isBetter 8 = .ok (.iload_n 1, 1) := by decide +kernel
theorem dX1_isBetter_9 : decode cX1_isBetter 9 = .ok (.aload_n 0, 1) := by decide +kernel
theorem dX1_isBetter_10 : decode cX1_isBetter 10 = .ok (.getfield 52, 3) := by decide +kernel
theorem dX1_isBetter_13 : decode cX1_isBetter 13 = .ok (.if_icmp .ge 7, 3) := by decide +kernel
theorem dX1_isBetter_16 : decode cX1_isBetter 16 = .ok (.iconst 1, 1) := by decide +kernel
theorem dX1_isBetter_17 : decode cX1_isBetter 17 = .ok (.goto 4, 3) := by decide +kernel
theorem dX1_isBetter_20 : decode cX1_isBetter 20 = .ok (.iconst 0, 1) := by decide +kernel
theorem dX1_isBetter_21 : decode cX1_isBetter 21 = .ok (.ireturn, 1) := by decide +kernel
theorem dX1_isBetter_22 : decode cX1_isBetter 22 = .ok (.iload_n 2, 1) := by decide +kernel
theorem dX1_isBetter_23 : decode cX1_isBetter 23 = .ok (.aload_n 0, 1) := by decide +kernel
theorem dX1_isBetter_24 : decode cX1_isBetter 24 = .ok (.getfield 56, 3) := by decide +kernel
theorem dX1_isBetter_27 : decode cX1_isBetter 27 = .ok (.if_icmp .eq 17, 3) := by decide +kernel
theorem dX1_isBetter_30 : decode cX1_isBetter 30 = .ok (.iload_n 2, 1) := by decide +kernel
theorem dX1_isBetter_31 : decode cX1_isBetter 31 = .ok (.aload_n 0, 1) := by decide +kernel
theorem dX1_isBetter_32 : decode cX1_isBetter 32 = .ok (.getfield 56, 3) := by decide +kernel
theorem dX1_isBetter_35 : decode cX1_isBetter 35 = .ok (.if_icmp .ge 7, 3) := by decide +kernel
theorem dX1_isBetter_38 : decode cX1_isBetter 38 = .ok (.iconst 1, 1) := by decide +kernel
theorem dX1_isBetter_39 : decode cX1_isBetter 39 = .ok (.goto 4, 3) := by decide +kernel
theorem dX1_isBetter_42 : decode cX1_isBetter 42 = .ok (.iconst 0, 1) := by decide +kernel
theorem dX1_isBetter_43 : decode cX1_isBetter 43 = .ok (.ireturn, 1) := by decide +kernel
theorem dX1_isBetter_44 : decode cX1_isBetter 44 = .ok (.iconst 0, 1) := by decide +kernel
theorem dX1_isBetter_45 : decode cX1_isBetter 45 = .ok (.istore_n 3, 1) := by decide +kernel
theorem dX1_isBetter_46 : decode cX1_isBetter 46 = .ok (.iload_n 3, 1) := by decide +kernel
theorem dX1_isBetter_47 : decode cX1_isBetter 47 = .ok (.bipush 24, 2) := by decide +kernel
theorem dX1_isBetter_49 : decode cX1_isBetter 49 = .ok (.if_icmp .ge 45, 3) := by decide +kernel
theorem dX1_isBetter_52 : decode cX1_isBetter 52 = .ok (.aload_n 0, 1) := by decide +kernel
theorem dX1_isBetter_53 : decode cX1_isBetter 53 = .ok (.getfield 15, 3) := by decide +kernel
theorem dX1_isBetter_56 : decode cX1_isBetter 56 = .ok (.iload_n 3, 1) := by decide +kernel
theorem dX1_isBetter_57 : decode cX1_isBetter 57 = .ok (.iaload, 1) := by decide +kernel
theorem dX1_isBetter_58 : decode cX1_isBetter 58 = .ok (.aload_n 0, 1) := by decide +kernel
theorem dX1_isBetter_59 : decode cX1_isBetter 59 = .ok (.getfield 18, 3) := by decide +kernel
theorem dX1_isBetter_62 : decode cX1_isBetter 62 = .ok (.iload_n 3, 1) := by decide +kernel
theorem dX1_isBetter_63 : decode cX1_isBetter 63 = .ok (.iaload, 1) := by decide +kernel
theorem dX1_isBetter_64 : decode cX1_isBetter 64 = .ok (.if_icmp .eq 24, 3) := by decide +kernel
theorem dX1_isBetter_67 : decode cX1_isBetter 67 = .ok (.aload_n 0, 1) := by decide +kernel
theorem dX1_isBetter_68 : decode cX1_isBetter 68 = .ok (.getfield 15, 3) := by decide +kernel
theorem dX1_isBetter_71 : decode cX1_isBetter 71 = .ok (.iload_n 3, 1) := by decide +kernel
theorem dX1_isBetter_72 : decode cX1_isBetter 72 = .ok (.iaload, 1) := by decide +kernel
theorem dX1_isBetter_73 : decode cX1_isBetter 73 = .ok (.aload_n 0, 1) := by decide +kernel
theorem dX1_isBetter_74 : decode cX1_isBetter 74 = .ok (.getfield 18, 3) := by decide +kernel
theorem dX1_isBetter_77 : decode cX1_isBetter 77 = .ok (.iload_n 3, 1) := by decide +kernel
theorem dX1_isBetter_78 : decode cX1_isBetter 78 = .ok (.iaload, 1) := by decide +kernel
theorem dX1_isBetter_79 : decode cX1_isBetter 79 = .ok (.if_icmp .ge 7, 3) := by decide +kernel
theorem dX1_isBetter_82 : decode cX1_isBetter 82 = .ok (.iconst 1, 1) := by decide +kernel
theorem dX1_isBetter_83 : decode cX1_isBetter 83 = .ok (.goto 4, 3) := by decide +kernel
theorem dX1_isBetter_86 : decode cX1_isBetter 86 = .ok (.iconst 0, 1) := by decide +kernel
theorem dX1_isBetter_87 : decode cX1_isBetter 87 = .ok (.ireturn, 1) := by decide +kernel
theorem dX1_isBetter_88 : decode cX1_isBetter 88 = .ok (.iinc 3 1, 3) := by decide +kernel
theorem dX1_isBetter_91 : decode cX1_isBetter 91 = .ok (.goto (-45), 3) := by decide +kernel
theorem dX1_isBetter_94 : decode cX1_isBetter 94 = .ok (.iconst 0, 1) := by decide +kernel
theorem dX1_isBetter_95 : decode cX1_isBetter 95 = .ok (.ireturn, 1) := by decide +kernel
set_option maxRecDepth 20000 in
theorem ggX1_takeKept_X5_choiceOf : GoodIn wsX1_takeKept wsX5_choiceOf := goodIn_r _ [9, 10, 21, 22, 23, 24, 25, 26] (by decide +kernel) (by decide +kernel)
set_option maxRecDepth 20000 in
theorem gX1_takeKept_X5_choiceOf : GoodIn wsX1_takeKept (wsV RX1 88 RX5 yX5_choiceOf wsX5_choiceOf) := goodIn_app (goodIn_of _ (by decide +kernel)) ggX1_takeKept_X5_choiceOf
theorem dX1_takeKept_0 : decode cX1_takeKept 0 = .ok (.iconst 0, 1) := by decide +kernel
theorem dX1_takeKept_1 : decode cX1_takeKept 1 = .ok (.istore_n 1, 1) := by decide +kernel
theorem dX1_takeKept_2 : decode cX1_takeKept 2 = .ok (.iload_n 1, 1) := by decide +kernel
theorem dX1_takeKept_3 : decode cX1_takeKept 3 = .ok (.aload_n 0, 1) := by decide +kernel
theorem dX1_takeKept_4 : decode cX1_takeKept 4 = .ok (.getfield 63, 3) := by decide +kernel
theorem dX1_takeKept_7 : decode cX1_takeKept 7 = .ok (.if_icmp .ge 39, 3) := by decide +kernel
theorem dX1_takeKept_10 : decode cX1_takeKept 10 = .ok (.aload_n 0, 1) := by decide +kernel
theorem dX1_takeKept_11 : decode cX1_takeKept 11 = .ok (.getfield 9, 3) := by decide +kernel
theorem dX1_takeKept_14 : decode cX1_takeKept 14 = .ok (.iload_n 1, 1) := by decide +kernel
theorem dX1_takeKept_15 : decode cX1_takeKept 15 = .ok (.iaload, 1) := by decide +kernel
theorem dX1_takeKept_16 : decode cX1_takeKept 16 = .ok (.istore_n 2, 1) := by decide +kernel
theorem dX1_takeKept_17 : decode cX1_takeKept 17 = .ok (.aload_n 0, 1) := by decide +kernel
theorem dX1_takeKept_18 : decode cX1_takeKept 18 = .ok (.getfield 24, 3) := by decide +kernel
theorem dX1_takeKept_21 : decode cX1_takeKept 21 = .ok (.getfield 130, 3) := by decide +kernel
theorem dX1_takeKept_24 : decode cX1_takeKept 24 = .ok (.iload_n 2, 1) := by decide +kernel
theorem dX1_takeKept_25 : decode cX1_takeKept 25 = .ok (.aload_n 0, 1) := by decide +kernel
theorem dX1_takeKept_26 : decode cX1_takeKept 26 = .ok (.getfield 24, 3) := by decide +kernel
theorem dX1_takeKept_29 : decode cX1_takeKept 29 = .ok (.iload_n 2, 1) := by decide +kernel
theorem dX1_takeKept_30 : decode cX1_takeKept 30 = .ok (.aload_n 0, 1) := by decide +kernel
theorem dX1_takeKept_31 : decode cX1_takeKept 31 = .ok (.getfield 18, 3) := by decide +kernel
theorem dX1_takeKept_34 : decode cX1_takeKept 34 = .ok (.iload_n 2, 1) := by decide +kernel
theorem dX1_takeKept_35 : decode cX1_takeKept 35 = .ok (.iaload, 1) := by decide +kernel
theorem dX1_takeKept_36 : decode cX1_takeKept 36 = .ok (.invokevirtual 88, 3) := by decide +kernel
theorem dX1_takeKept_39 : decode cX1_takeKept 39 = .ok (.iastore, 1) := by decide +kernel
theorem dX1_takeKept_40 : decode cX1_takeKept 40 = .ok (.iinc 1 1, 3) := by decide +kernel
theorem dX1_takeKept_43 : decode cX1_takeKept 43 = .ok (.goto (-41), 3) := by decide +kernel
theorem dX1_takeKept_46 : decode cX1_takeKept 46 = .ok (.return_, 1) := by decide +kernel
theorem dX2_init_0 : decode cX2_init 0 = .ok (.aload_n 0, 1) := by decide +kernel
theorem dX2_init_1 : decode cX2_init 1 = .ok (.invokespecial 3, 3) := by decide +kernel
theorem dX2_init_4 : decode cX2_init 4 = .ok (.aload_n 0, 1) := by decide +kernel
theorem dX2_init_5 : decode cX2_init 5 = .ok (.bipush 24, 2) := by decide +kernel
theorem dX2_init_7 : decode cX2_init 7 = .ok (.newarray .long, 2) := by decide +kernel
theorem dX2_init_9 : decode cX2_init 9 = .ok (.putfield 9, 3) := by decide +kernel
theorem dX2_init_12 : decode cX2_init 12 = .ok (.aload_n 0, 1) := by decide +kernel
theorem dX2_init_13 : decode cX2_init 13 = .ok (.bipush 24, 2) := by decide +kernel
theorem dX2_init_15 : decode cX2_init 15 = .ok (.newarray .long, 2) := by decide +kernel
theorem dX2_init_17 : decode cX2_init 17 = .ok (.putfield 15, 3) := by decide +kernel
theorem dX2_init_20 : decode cX2_init 20 = .ok (.aload_n 0, 1) := by decide +kernel
theorem dX2_init_21 : decode cX2_init 21 = .ok (.aload_n 1, 1) := by decide +kernel
theorem dX2_init_22 : decode cX2_init 22 = .ok (.putfield 18, 3) := by decide +kernel
theorem dX2_init_25 : decode cX2_init 25 = .ok (.aload_n 0, 1) := by decide +kernel
theorem dX2_init_26 : decode cX2_init 26 = .ok (.aload_n 2, 1) := by decide +kernel
theorem dX2_init_27 : decode cX2_init 27 = .ok (.putfield 22, 3) := by decide +kernel
theorem dX2_init_30 : decode cX2_init 30 = .ok (.aload_n 0, 1) := by decide +kernel
theorem dX2_init_31 : decode cX2_init 31 = .ok (.aload_n 3, 1) := by decide +kernel
theorem dX2_init_32 : decode cX2_init 32 = .ok (.putfield 26, 3) := by decide +kernel
theorem dX2_init_35 : decode cX2_init 35 = .ok (.return_, 1) := by decide +kernel
set_option maxRecDepth 20000 in
theorem ggX2_brought_X8_pairsOf : GoodIn wsX2_brought wsX8_pairsOf := goodIn_r _ [6, 7, 8, 9, 5, 10] (by decide +kernel) (by decide +kernel)
set_option maxRecDepth 20000 in
theorem gX2_brought_X8_pairsOf_n35 : GoodIn wsX2_brought (wsX8_pairsOf) := ggX2_brought_X8_pairsOf
theorem dX2_brought_0 : decode cX2_brought 0 = .ok (.aload_n 0, 1) := by decide +kernel
theorem dX2_brought_1 : decode cX2_brought 1 = .ok (.getfield 18, 3) := by decide +kernel
theorem dX2_brought_4 : decode cX2_brought 4 = .ok (.getfield 30, 3) := by decide +kernel
theorem dX2_brought_7 : decode cX2_brought 7 = .ok (.iload_n 1, 1) := by decide +kernel
theorem dX2_brought_8 : decode cX2_brought 8 = .ok (.laload, 1) := by decide +kernel
theorem dX2_brought_9 : decode cX2_brought 9 = .ok (.iload_n 3, 1) := by decide +kernel
theorem dX2_brought_10 : decode cX2_brought 10 = .ok (.invokestatic 35, 3) := by decide +kernel
theorem dX2_brought_13 : decode cX2_brought 13 = .ok (.land, 1) := by decide +kernel
theorem dX2_brought_14 : decode cX2_brought 14 = .ok (.aload_n 0, 1) := by decide +kernel
theorem dX2_brought_15 : decode cX2_brought 15 = .ok (.getfield 22, 3) := by decide +kernel
theorem dX2_brought_18 : decode cX2_brought 18 = .ok (.getfield 39, 3) := by decide +kernel
theorem dX2_brought_21 : decode cX2_brought 21 = .ok (.iload_n 2, 1) := by decide +kernel
theorem dX2_brought_22 : decode cX2_brought 22 = .ok (.laload, 1) := by decide +kernel
theorem dX2_brought_23 : decode cX2_brought 23 = .ok (.ldc2_w 44, 3) := by decide +kernel
theorem dX2_brought_26 : decode cX2_brought 26 = .ok (.lxor, 1) := by decide +kernel
theorem dX2_brought_27 : decode cX2_brought 27 = .ok (.land, 1) := by decide +kernel
theorem dX2_brought_28 : decode cX2_brought 28 = .ok (.lreturn, 1) := by decide +kernel
set_option maxRecDepth 20000 in
theorem ggX2_run_X2_brought : GoodIn wsX2_run wsX2_brought := goodIn_r _ [6, 7, 8, 9, 10, 11, 12, 13, 14, 15, 16, 24, 25, 26, 27, 28, 38, 39, 40, 41, 42, 43, 44, 45, 46] (by decide +kernel) (by decide +kernel)
set_option maxRecDepth 20000 in
theorem gX2_run_X2_brought : GoodIn wsX2_run (wsV RX2 52 RX2 yX2_brought wsX2_brought) := goodIn_app (goodIn_of _ (by decide +kernel)) ggX2_run_X2_brought
set_option maxRecDepth 20000 in
theorem ggX2_run_X2_arrive : GoodIn wsX2_run wsX2_arrive := goodIn_r _ [20, 1, 21, 7, 22, 11, 23, 24, 25, 26, 27, 28, 29, 30, 31, 32, 33, 34, 35, 36, 37, 38, 39, 40] (by decide +kernel) (by decide +kernel)
set_option maxRecDepth 20000 in
theorem gX2_run_X2_arrive : GoodIn wsX2_run (wsV RX2 56 RX2 yX2_arrive wsX2_arrive) := goodIn_app (goodIn_of _ (by decide +kernel)) ggX2_run_X2_arrive
theorem dX2_run_0 : decode cX2_run 0 = .ok (.iconst 0, 1) := by decide +kernel
theorem dX2_run_1 : decode cX2_run 1 = .ok (.istore 5, 2) := by decide +kernel
theorem dX2_run_3 : decode cX2_run 3 = .ok (.iload 5, 2) := by decide +kernel
theorem dX2_run_5 : decode cX2_run 5 = .ok (.bipush 24, 2) := by decide +kernel
theorem dX2_run_7 : decode cX2_run 7 = .ok (.if_icmp .ge 39, 3) := by decide +kernel
theorem dX2_run_10 : decode cX2_run 10 = .ok (.aload_n 0, 1) := by decide +kernel
theorem dX2_run_11 : decode cX2_run 11 = .ok (.getfield 26, 3) := by decide +kernel
theorem dX2_run_14 : decode cX2_run 14 = .ok (.getfield 46, 3) := by decide +kernel
theorem dX2_run_17 : decode cX2_run 17 = .ok (.iload 5, 2) := by decide +kernel
theorem dX2_run_19 : decode cX2_run 19 = .ok (.iaload, 1) := by decide +kernel
theorem dX2_run_20 : decode cX2_run 20 = .ok (.istore 6, 2) := by decide +kernel
theorem dX2_run_22 : decode cX2_run 22 = .ok (.aload_n 0, 1) := by decide +kernel
theorem dX2_run_23 : decode cX2_run 23 = .ok (.iload 6, 2) := by decide +kernel
theorem dX2_run_25 : decode cX2_run 25 = .ok (.aload_n 0, 1) := by decide +kernel
theorem dX2_run_26 : decode cX2_run 26 = .ok (.iload_n 1, 1) := by decide +kernel
theorem dX2_run_27 : decode cX2_run 27 = .ok (.iload 6, 2) := by decide +kernel
theorem dX2_run_29 : decode cX2_run 29 = .ok (.aload_n 2, 1) := by decide +kernel
theorem dX2_run_30 : decode cX2_run 30 = .ok (.iload 6, 2) := by decide +kernel
theorem dX2_run_32 : decode cX2_run 32 = .ok (.iaload, 1) := by decide +kernel
theorem dX2_run_33 : decode cX2_run 33 = .ok (.invokevirtual 52, 3) := by decide +kernel
theorem dX2_run_36 : decode cX2_run 36 = .ok (.lload_n 3, 1) := by decide +kernel
theorem dX2_run_37 : decode cX2_run 37 = .ok (.invokevirtual 56, 3) := by decide +kernel
theorem dX2_run_40 : decode cX2_run 40 = .ok (.iinc 5 1, 3) := by decide +kernel
theorem dX2_run_43 : decode cX2_run 43 = .ok (.goto (-40), 3) := by decide +kernel
theorem dX2_run_46 : decode cX2_run 46 = .ok (.return_, 1) := by decide +kernel
set_option maxRecDepth 20000 in
theorem ggX2_arrive_X8_holds : GoodIn wsX2_arrive wsX8_holds := goodIn_r _ [6] (by decide +kernel) (by decide +kernel)
set_option maxRecDepth 20000 in
theorem gX2_arrive_X8_holds_n69 : GoodIn wsX2_arrive (wsX8_holds) := ggX2_arrive_X8_holds
theorem dX2_arrive_0 : decode cX2_arrive 0 = .ok (.lload_n 2, 1) := by decide +kernel
theorem dX2_arrive_1 : decode cX2_arrive 1 = .ok (.lstore 6, 2) := by decide +kernel
theorem dX2_arrive_3 : decode cX2_arrive 3 = .ok (.aload_n 0, 1) := by decide +kernel
theorem dX2_arrive_4 : decode cX2_arrive 4 = .ok (.getfield 26, 3) := by decide +kernel
theorem dX2_arrive_7 : decode cX2_arrive 7 = .ok (.getfield 60, 3) := by decide +kernel
theorem dX2_arrive_10 : decode cX2_arrive 10 = .ok (.iload_n 1, 1) := by decide +kernel
theorem dX2_arrive_11 : decode cX2_arrive 11 = .ok (.iaload, 1) := by decide +kernel
theorem dX2_arrive_12 : decode cX2_arrive 12 = .ok (.istore 8, 2) := by decide +kernel
theorem dX2_arrive_14 : decode cX2_arrive 14 = .ok (.iload 8, 2) := by decide +kernel
theorem dX2_arrive_16 : decode cX2_arrive 16 = .ok (.aload_n 0, 1) := by decide +kernel
theorem dX2_arrive_17 : decode cX2_arrive 17 = .ok (.getfield 26, 3) := by decide +kernel
theorem dX2_arrive_20 : decode cX2_arrive 20 = .ok (.getfield 63, 3) := by decide +kernel
theorem dX2_arrive_23 : decode cX2_arrive 23 = .ok (.iload_n 1, 1) := by decide +kernel
theorem dX2_arrive_24 : decode cX2_arrive 24 = .ok (.iaload, 1) := by decide +kernel
theorem dX2_arrive_25 : decode cX2_arrive 25 = .ok (.if_icmp .ge 70, 3) := by decide +kernel
theorem dX2_arrive_28 : decode cX2_arrive 28 = .ok (.aload_n 0, 1) := by decide +kernel
theorem dX2_arrive_29 : decode cX2_arrive 29 = .ok (.getfield 26, 3) := by decide +kernel
theorem dX2_arrive_32 : decode cX2_arrive 32 = .ok (.getfield 66, 3) := by decide +kernel
theorem dX2_arrive_35 : decode cX2_arrive 35 = .ok (.iload 8, 2) := by decide +kernel
theorem dX2_arrive_37 : decode cX2_arrive 37 = .ok (.iaload, 1) := by decide +kernel
theorem dX2_arrive_38 : decode cX2_arrive 38 = .ok (.istore 9, 2) := by decide +kernel
theorem dX2_arrive_40 : decode cX2_arrive 40 = .ok (.lload 4, 2) := by decide +kernel
theorem dX2_arrive_42 : decode cX2_arrive 42 = .ok (.iload 9, 2) := by decide +kernel
theorem dX2_arrive_44 : decode cX2_arrive 44 = .ok (.invokestatic 69, 3) := by decide +kernel
theorem dX2_arrive_47 : decode cX2_arrive 47 = .ok (.ifCond .eq 42, 3) := by decide +kernel
theorem dX2_arrive_50 : decode cX2_arrive 50 = .ok (.lload 6, 2) := by decide +kernel
theorem dX2_arrive_52 : decode cX2_arrive 52 = .ok (.aload_n 0, 1) := by decide +kernel
theorem dX2_arrive_53 : decode cX2_arrive 53 = .ok (.getfield 9, 3) := by decide +kernel
theorem dX2_arrive_56 : decode cX2_arrive 56 = .ok (.aload_n 0, 1) := by decide +kernel
theorem dX2_arrive_57 : decode cX2_arrive 57 = .ok (.getfield 26, 3) := by decide +kernel
theorem dX2_arrive_60 : decode cX2_arrive 60 = .ok (.getfield 73, 3) := by decide +kernel
theorem dX2_arrive_63 : decode cX2_arrive 63 = .ok (.iload 9, 2) := by decide +kernel
theorem dX2_arrive_65 : decode cX2_arrive 65 = .ok (.iaload, 1) := by decide +kernel
theorem dX2_arrive_66 : decode cX2_arrive 66 = .ok (.laload, 1) := by decide +kernel
theorem dX2_arrive_67 : decode cX2_arrive 67 = .ok (.aload_n 0, 1) := by decide +kernel
theorem dX2_arrive_68 : decode cX2_arrive 68 = .ok (.getfield 18, 3) := by decide +kernel
theorem dX2_arrive_71 : decode cX2_arrive 71 = .ok (.getfield 76, 3) := by decide +kernel
theorem dX2_arrive_74 : decode cX2_arrive 74 = .ok (.aload_n 0, 1) := by decide +kernel
theorem dX2_arrive_75 : decode cX2_arrive 75 = .ok (.getfield 26, 3) := by decide +kernel
theorem dX2_arrive_78 : decode cX2_arrive 78 = .ok (.getfield 79, 3) := by decide +kernel
theorem dX2_arrive_81 : decode cX2_arrive 81 = .ok (.iload 9, 2) := by decide +kernel
theorem dX2_arrive_83 : decode cX2_arrive 83 = .ok (.iaload, 1) := by decide +kernel
theorem dX2_arrive_84 : decode cX2_arrive 84 = .ok (.laload, 1) := by decide +kernel
theorem dX2_arrive_85 : decode cX2_arrive 85 = .ok (.land, 1) := by decide +kernel
theorem dX2_arrive_86 : decode cX2_arrive 86 = .ok (.lor, 1) := by decide +kernel
theorem dX2_arrive_87 : decode cX2_arrive 87 = .ok (.lstore 6, 2) := by decide +kernel
theorem dX2_arrive_89 : decode cX2_arrive 89 = .ok (.iinc 8 1, 3) := by decide +kernel
theorem dX2_arrive_92 : decode cX2_arrive 92 = .ok (.goto (-78), 3) := by decide +kernel
theorem dX2_arrive_95 : decode cX2_arrive 95 = .ok (.aload_n 0, 1) := by decide +kernel
theorem dX2_arrive_96 : decode cX2_arrive 96 = .ok (.getfield 9, 3) := by decide +kernel
theorem dX2_arrive_99 : decode cX2_arrive 99 = .ok (.iload_n 1, 1) := by decide +kernel
theorem dX2_arrive_100 : decode cX2_arrive 100 = .ok (.lload 6, 2) := by decide +kernel
theorem dX2_arrive_102 : decode cX2_arrive 102 = .ok (.lastore, 1) := by decide +kernel
theorem dX2_arrive_103 : decode cX2_arrive 103 = .ok (.return_, 1) := by decide +kernel
theorem dX2_foughtAt_0 : decode cX2_foughtAt 0 = .ok (.aload_n 0, 1) := by decide +kernel
theorem dX2_foughtAt_1 : decode cX2_foughtAt 1 = .ok (.getfield 9, 3) := by decide +kernel
theorem dX2_foughtAt_4 : decode cX2_foughtAt 4 = .ok (.iload_n 1, 1) := by decide +kernel
theorem dX2_foughtAt_5 : decode cX2_foughtAt 5 = .ok (.laload, 1) := by decide +kernel
theorem dX2_foughtAt_6 : decode cX2_foughtAt 6 = .ok (.aload_n 0, 1) := by decide +kernel
theorem dX2_foughtAt_7 : decode cX2_foughtAt 7 = .ok (.getfield 18, 3) := by decide +kernel
theorem dX2_foughtAt_10 : decode cX2_foughtAt 10 = .ok (.getfield 82, 3) := by decide +kernel
theorem dX2_foughtAt_13 : decode cX2_foughtAt 13 = .ok (.iload_n 2, 1) := by decide +kernel
theorem dX2_foughtAt_14 : decode cX2_foughtAt 14 = .ok (.laload, 1) := by decide +kernel
theorem dX2_foughtAt_15 : decode cX2_foughtAt 15 = .ok (.land, 1) := by decide +kernel
theorem dX2_foughtAt_16 : decode cX2_foughtAt 16 = .ok (.lreturn, 1) := by decide +kernel
set_option maxRecDepth 20000 in
theorem ggX2_ofProduct_X3_allIn : GoodIn wsX2_ofProduct wsX3_allIn := goodIn_r _ [7, 8, 9, 10, 11, 12, 13, 14, 15, 27, 28, 29, 30, 31, 32, 33, 34, 35] (by decide +kernel) (by decide +kernel)
set_option maxRecDepth 20000 in
theorem gX2_ofProduct_X3_allIn : GoodIn wsX2_ofProduct (wsV RX2 92 RX3 yX3_allIn wsX3_allIn) := goodIn_app (goodIn_of _ (by decide +kernel)) ggX2_ofProduct_X3_allIn
theorem dX2_ofProduct_0 : decode cX2_ofProduct 0 = .ok (.aload_n 0, 1) := by decide +kernel
theorem dX2_ofProduct_1 : decode cX2_ofProduct 1 = .ok (.getfield 22, 3) := by decide +kernel
theorem dX2_ofProduct_4 : decode cX2_ofProduct 4 = .ok (.getfield 85, 3) := by decide +kernel
theorem dX2_ofProduct_7 : decode cX2_ofProduct 7 = .ok (.ifCond .ne 7, 3) := by decide +kernel
theorem dX2_ofProduct_10 : decode cX2_ofProduct 10 = .ok (.iconst 0, 1) := by decide +kernel
theorem dX2_ofProduct_11 : decode cX2_ofProduct 11 = .ok (.goto 18, 3) := by decide +kernel
theorem dX2_ofProduct_14 : decode cX2_ofProduct 14 = .ok (.aload_n 0, 1) := by decide +kernel
theorem dX2_ofProduct_15 : decode cX2_ofProduct 15 = .ok (.getfield 26, 3) := by decide +kernel
theorem dX2_ofProduct_18 : decode cX2_ofProduct 18 = .ok (.aload_n 0, 1) := by decide +kernel
theorem dX2_ofProduct_19 : decode cX2_ofProduct 19 = .ok (.getfield 22, 3) := by decide +kernel
theorem dX2_ofProduct_22 : decode cX2_ofProduct 22 = .ok (.getfield 89, 3) := by decide +kernel
theorem dX2_ofProduct_25 : decode cX2_ofProduct 25 = .ok (.lload_n 1, 1) := by decide +kernel
theorem dX2_ofProduct_26 : decode cX2_ofProduct 26 = .ok (.invokevirtual 92, 3) := by decide +kernel
theorem dX2_ofProduct_29 : decode cX2_ofProduct 29 = .ok (.ireturn, 1) := by decide +kernel
set_option maxRecDepth 20000 in
theorem ggX2_quarrelCount_X2_ofProduct : GoodIn wsX2_quarrelCount wsX2_ofProduct := goodIn_r _ [6, 1, 7, 8, 9, 10, 11, 12, 13, 14, 15, 16, 17, 18, 19, 20, 34, 35, 36, 37, 38, 39, 40, 41, 42, 43, 44, 45, 46, 47, 48, 49, 50, 51, 52, 53] (by decide +kernel) (by decide +kernel)
set_option maxRecDepth 20000 in
theorem gX2_quarrelCount_X2_ofProduct : GoodIn wsX2_quarrelCount (wsV RX2 96 RX2 yX2_ofProduct wsX2_ofProduct) := goodIn_app (goodIn_of _ (by decide +kernel)) ggX2_quarrelCount_X2_ofProduct
set_option maxRecDepth 20000 in
theorem ggX2_quarrelCount_X8_holds : GoodIn wsX2_quarrelCount wsX8_holds := goodIn_r _ [20] (by decide +kernel) (by decide +kernel)
set_option maxRecDepth 20000 in
theorem gX2_quarrelCount_X8_holds_n69 : GoodIn wsX2_quarrelCount (wsX8_holds) := ggX2_quarrelCount_X8_holds
set_option maxRecDepth 20000 in
theorem ggX2_quarrelCount_X2_foughtAt : GoodIn wsX2_quarrelCount wsX2_foughtAt := goodIn_r _ [24, 25, 26, 34, 35, 36, 37, 38, 54, 55, 56] (by decide +kernel) (by decide +kernel)
set_option maxRecDepth 20000 in
theorem gX2_quarrelCount_X2_foughtAt : GoodIn wsX2_quarrelCount (wsV RX2 100 RX2 yX2_foughtAt wsX2_foughtAt) := goodIn_app (goodIn_of _ (by decide +kernel)) ggX2_quarrelCount_X2_foughtAt
set_option maxRecDepth 20000 in
theorem ggX2_quarrelCount_J13_bitCount_95d88 : GoodIn wsX2_quarrelCount wsJ13_bitCount_95d88 := goodIn_r _ [30, 31, 32, 33] (by decide +kernel) (by decide +kernel)
set_option maxRecDepth 20000 in
theorem gX2_quarrelCount_J13_bitCount_95d88 : GoodIn wsX2_quarrelCount (va_wsS RX2 104 yJ13_bitCount_95d88 wsJ13_bitCount_95d88) := goodIn_app (goodIn_of _ (by decide +kernel)) ggX2_quarrelCount_J13_bitCount_95d88
theorem dX2_quarrelCount_0 : decode cX2_quarrelCount 0 = .ok (.aload_n 0, 1) := by decide +kernel
theorem dX2_quarrelCount_1 : decode cX2_quarrelCount 1 = .ok (.lload_n 2, 1) := by decide +kernel
theorem dX2_quarrelCount_2 : decode cX2_quarrelCount 2 = .ok (.invokevirtual 96, 3) := by decide +kernel
theorem dX2_quarrelCount_5 : decode cX2_quarrelCount 5 = .ok (.istore 4, 2) := by decide +kernel
theorem dX2_quarrelCount_7 : decode cX2_quarrelCount 7 = .ok (.iconst 0, 1) := by decide +kernel
theorem dX2_quarrelCount_8 : decode cX2_quarrelCount 8 = .ok (.istore 5, 2) := by decide +kernel
theorem dX2_quarrelCount_10 : decode cX2_quarrelCount 10 = .ok (.iconst 0, 1) := by decide +kernel
theorem dX2_quarrelCount_11 : decode cX2_quarrelCount 11 = .ok (.istore 6, 2) := by decide +kernel
theorem dX2_quarrelCount_13 : decode cX2_quarrelCount 13 = .ok (.iload 6, 2) := by decide +kernel
theorem dX2_quarrelCount_15 : decode cX2_quarrelCount 15 = .ok (.aload_n 0, 1) := by decide +kernel
theorem dX2_quarrelCount_16 : decode cX2_quarrelCount 16 = .ok (.getfield 22, 3) := by decide +kernel
theorem dX2_quarrelCount_19 : decode cX2_quarrelCount 19 = .ok (.getfield 85, 3) := by decide +kernel
theorem dX2_quarrelCount_22 : decode cX2_quarrelCount 22 = .ok (.if_icmp .ge 38, 3) := by decide +kernel
theorem dX2_quarrelCount_25 : decode cX2_quarrelCount 25 = .ok (.iload 4, 2) := by decide +kernel
theorem dX2_quarrelCount_27 : decode cX2_quarrelCount 27 = .ok (.i2l, 1) := by decide +kernel
theorem dX2_quarrelCount_28 : decode cX2_quarrelCount 28 = .ok (.iload 6, 2) := by decide +kernel
theorem dX2_quarrelCount_30 : decode cX2_quarrelCount 30 = .ok (.invokestatic 69, 3) := by decide +kernel
theorem dX2_quarrelCount_33 : decode cX2_quarrelCount 33 = .ok (.ifCond .eq 21, 3) := by decide +kernel
theorem dX2_quarrelCount_36 : decode cX2_quarrelCount 36 = .ok (.iload 5, 2) := by decide +kernel
theorem dX2_quarrelCount_38 : decode cX2_quarrelCount 38 = .ok (.aload_n 0, 1) := by decide +kernel
theorem dX2_quarrelCount_39 : decode cX2_quarrelCount 39 = .ok (.iload 6, 2) := by decide +kernel
theorem dX2_quarrelCount_41 : decode cX2_quarrelCount 41 = .ok (.aload_n 1, 1) := by decide +kernel
theorem dX2_quarrelCount_42 : decode cX2_quarrelCount 42 = .ok (.iload 6, 2) := by decide +kernel
theorem dX2_quarrelCount_44 : decode cX2_quarrelCount 44 = .ok (.iaload, 1) := by decide +kernel
theorem dX2_quarrelCount_45 : decode cX2_quarrelCount 45 = .ok (.invokevirtual 100, 3) := by decide +kernel
theorem dX2_quarrelCount_48 : decode cX2_quarrelCount 48 = .ok (.invokestatic 104, 3) := by decide +kernel
theorem dX2_quarrelCount_51 : decode cX2_quarrelCount 51 = .ok (.iadd, 1) := by decide +kernel
theorem dX2_quarrelCount_52 : decode cX2_quarrelCount 52 = .ok (.istore 5, 2) := by decide +kernel
theorem dX2_quarrelCount_54 : decode cX2_quarrelCount 54 = .ok (.iinc 6 1, 3) := by decide +kernel
theorem dX2_quarrelCount_57 : decode cX2_quarrelCount 57 = .ok (.goto (-44), 3) := by decide +kernel
theorem dX2_quarrelCount_60 : decode cX2_quarrelCount 60 = .ok (.iload 5, 2) := by decide +kernel
theorem dX2_quarrelCount_62 : decode cX2_quarrelCount 62 = .ok (.ireturn, 1) := by decide +kernel
set_option maxRecDepth 20000 in
theorem ggX2_quarrelAt_X2_ofProduct : GoodIn wsX2_quarrelAt wsX2_ofProduct := goodIn_r _ [7, 2, 1, 8, 9, 10, 11, 12, 13, 14, 15, 16, 17, 18, 19, 20, 37, 38, 39, 40, 41, 51, 52, 53, 54, 55, 56, 42, 43, 44, 45, 46, 47, 48, 49, 50] (by decide +kernel) (by decide +kernel)
set_option maxRecDepth 20000 in
theorem gX2_quarrelAt_X2_ofProduct : GoodIn wsX2_quarrelAt (wsV RX2 96 RX2 yX2_ofProduct wsX2_ofProduct) := goodIn_app (goodIn_of _ (by decide +kernel)) ggX2_quarrelAt_X2_ofProduct
set_option maxRecDepth 20000 in
theorem ggX2_quarrelAt_X8_holds : GoodIn wsX2_quarrelAt wsX8_holds := goodIn_r _ [20] (by decide +kernel) (by decide +kernel)
set_option maxRecDepth 20000 in
theorem gX2_quarrelAt_X8_holds_n69 : GoodIn wsX2_quarrelAt (wsX8_holds) := ggX2_quarrelAt_X8_holds
set_option maxRecDepth 20000 in
theorem ggX2_quarrelAt_X2_foughtAt : GoodIn wsX2_quarrelAt wsX2_foughtAt := goodIn_r _ [24, 25, 26, 37, 38, 39, 40, 41, 57, 58, 59] (by decide +kernel) (by decide +kernel)
set_option maxRecDepth 20000 in
theorem gX2_quarrelAt_X2_foughtAt : GoodIn wsX2_quarrelAt (wsV RX2 100 RX2 yX2_foughtAt wsX2_foughtAt) := goodIn_app (goodIn_of _ (by decide +kernel)) ggX2_quarrelAt_X2_foughtAt
set_option maxRecDepth 20000 in
theorem ggX2_quarrelAt_J13_bitCount_95d88 : GoodIn wsX2_quarrelAt wsJ13_bitCount_95d88 := goodIn_r _ [30, 31, 32, 33] (by decide +kernel) (by decide +kernel)
set_option maxRecDepth 20000 in
theorem gX2_quarrelAt_J13_bitCount_95d88 : GoodIn wsX2_quarrelAt (va_wsS RX2 104 yJ13_bitCount_95d88 wsJ13_bitCount_95d88) := goodIn_app (goodIn_of _ (by decide +kernel)) ggX2_quarrelAt_J13_bitCount_95d88
set_option maxRecDepth 20000 in
theorem ggX2_quarrelAt_X2_pairAt : GoodIn wsX2_quarrelAt wsX2_pairAt := goodIn_r _ [36, 18, 19, 20] (by decide +kernel) (by decide +kernel)
set_option maxRecDepth 20000 in
theorem gX2_quarrelAt_X2_pairAt : GoodIn wsX2_quarrelAt (va_wsS RX2 116 yX2_pairAt wsX2_pairAt) := goodIn_app (goodIn_of _ (by decide +kernel)) ggX2_quarrelAt_X2_pairAt
theorem dX2_quarrelAt_0 : decode cX2_quarrelAt 0 = .ok (.aload_n 0, 1) := by decide +kernel
theorem dX2_quarrelAt_1 : decode cX2_quarrelAt 1 = .ok (.aload_n 0, 1) := by decide +kernel
theorem dX2_quarrelAt_2 : decode cX2_quarrelAt 2 = .ok (.getfield 26, 3) := by decide +kernel
theorem dX2_quarrelAt_5 : decode cX2_quarrelAt 5 = .ok (.getfield 109, 3) := by decide +kernel
theorem dX2_quarrelAt_8 : decode cX2_quarrelAt 8 = .ok (.invokevirtual 96, 3) := by decide +kernel
theorem dX2_quarrelAt_11 : decode cX2_quarrelAt 11 = .ok (.istore_n 2, 1) := by decide +kernel
theorem dX2_quarrelAt_12 : decode cX2_quarrelAt 12 = .ok (.iconst 0, 1) := by decide +kernel
theorem dX2_quarrelAt_13 : decode cX2_quarrelAt 13 = .ok (.istore_n 3, 1) := by decide +kernel
theorem dX2_quarrelAt_14 : decode cX2_quarrelAt 14 = .ok (.iconst 0, 1) := by decide +kernel
theorem dX2_quarrelAt_15 : decode cX2_quarrelAt 15 = .ok (.istore 4, 2) := by decide +kernel
theorem dX2_quarrelAt_17 : decode cX2_quarrelAt 17 = .ok (.iload 4, 2) := by decide +kernel
theorem dX2_quarrelAt_19 : decode cX2_quarrelAt 19 = .ok (.aload_n 0, 1) := by decide +kernel
theorem dX2_quarrelAt_20 : decode cX2_quarrelAt 20 = .ok (.getfield 22, 3) := by decide +kernel
theorem dX2_quarrelAt_23 : decode cX2_quarrelAt 23 = .ok (.getfield 85, 3) := by decide +kernel
theorem dX2_quarrelAt_26 : decode cX2_quarrelAt 26 = .ok (.if_icmp .ge 76, 3) := by decide +kernel
theorem dX2_quarrelAt_29 : decode cX2_quarrelAt 29 = .ok (.iload_n 2, 1) := by decide +kernel
theorem dX2_quarrelAt_30 : decode cX2_quarrelAt 30 = .ok (.i2l, 1) := by decide +kernel
theorem dX2_quarrelAt_31 : decode cX2_quarrelAt 31 = .ok (.iload 4, 2) := by decide +kernel
theorem dX2_quarrelAt_33 : decode cX2_quarrelAt 33 = .ok (.invokestatic 69, 3) := by decide +kernel
theorem dX2_quarrelAt_36 : decode cX2_quarrelAt 36 = .ok (.ifCond .eq 22, 3) := by decide +kernel
theorem dX2_quarrelAt_39 : decode cX2_quarrelAt 39 = .ok (.aload_n 0, 1) := by decide +kernel
theorem dX2_quarrelAt_40 : decode cX2_quarrelAt 40 = .ok (.iload 4, 2) := by decide +kernel
theorem dX2_quarrelAt_42 : decode cX2_quarrelAt 42 = .ok (.aload_n 0, 1) := by decide +kernel
theorem dX2_quarrelAt_43 : decode cX2_quarrelAt 43 = .ok (.getfield 22, 3) := by decide +kernel
theorem dX2_quarrelAt_46 : decode cX2_quarrelAt 46 = .ok (.getfield 113, 3) := by decide +kernel
theorem dX2_quarrelAt_49 : decode cX2_quarrelAt 49 = .ok (.iload 4, 2) := by decide +kernel
theorem dX2_quarrelAt_51 : decode cX2_quarrelAt 51 = .ok (.iaload, 1) := by decide +kernel
theorem dX2_quarrelAt_52 : decode cX2_quarrelAt 52 = .ok (.invokevirtual 100, 3) := by decide +kernel
theorem dX2_quarrelAt_55 : decode cX2_quarrelAt 55 = .ok (.goto 4, 3) := by decide +kernel
theorem dX2_quarrelAt_58 : decode cX2_quarrelAt 58 = .ok (.lconst 0, 1) := by decide +kernel
theorem dX2_quarrelAt_59 : decode cX2_quarrelAt 59 = .ok (.lstore 5, 2) := by decide +kernel
theorem dX2_quarrelAt_61 : decode cX2_quarrelAt 61 = .ok (.lload 5, 2) := by decide +kernel
theorem dX2_quarrelAt_63 : decode cX2_quarrelAt 63 = .ok (.invokestatic 104, 3) := by decide +kernel
theorem dX2_quarrelAt_66 : decode cX2_quarrelAt 66 = .ok (.istore 7, 2) := by decide +kernel
theorem dX2_quarrelAt_68 : decode cX2_quarrelAt 68 = .ok (.iload_n 1, 1) := by decide +kernel
theorem dX2_quarrelAt_69 : decode cX2_quarrelAt 69 = .ok (.iload_n 3, 1) := by decide +kernel
theorem dX2_quarrelAt_70 : decode cX2_quarrelAt 70 = .ok (.iload 7, 2) := by decide +kernel
theorem dX2_quarrelAt_72 : decode cX2_quarrelAt 72 = .ok (.iadd, 1) := by decide +kernel
theorem dX2_quarrelAt_73 : decode cX2_quarrelAt 73 = .ok (.if_icmp .ge 18, 3) := by decide +kernel
theorem dX2_quarrelAt_76 : decode cX2_quarrelAt 76 = .ok (.iload 4, 2) := by decide +kernel
theorem dX2_quarrelAt_78 : decode cX2_quarrelAt 78 = .ok (.bipush 64, 2) := by decide +kernel
theorem dX2_quarrelAt_80 : decode cX2_quarrelAt 80 = .ok (.imul, 1) := by decide +kernel
theorem dX2_quarrelAt_81 : decode cX2_quarrelAt 81 = .ok (.lload 5, 2) := by decide +kernel
theorem dX2_quarrelAt_83 : decode cX2_quarrelAt 83 = .ok (.iload_n 1, 1) := by decide +kernel
theorem dX2_quarrelAt_84 : decode cX2_quarrelAt 84 = .ok (.iload_n 3, 1) := by decide +kernel
theorem dX2_quarrelAt_85 : decode cX2_quarrelAt 85 = .ok (.isub, 1) := by decide +kernel
theorem dX2_quarrelAt_86 : decode cX2_quarrelAt 86 = .ok (.invokestatic 116, 3) := by decide +kernel
theorem dX2_quarrelAt_89 : decode cX2_quarrelAt 89 = .ok (.iadd, 1) := by decide +kernel
theorem dX2_quarrelAt_90 : decode cX2_quarrelAt 90 = .ok (.ireturn, 1) := by decide +kernel
theorem dX2_quarrelAt_91 : decode cX2_quarrelAt 91 = .ok (.iload_n 3, 1) := by decide +kernel
theorem dX2_quarrelAt_92 : decode cX2_quarrelAt 92 = .ok (.iload 7, 2) := by decide +kernel
theorem dX2_quarrelAt_94 : decode cX2_quarrelAt 94 = .ok (.iadd, 1) := by decide +kernel
theorem dX2_quarrelAt_95 : decode cX2_quarrelAt 95 = .ok (.istore_n 3, 1) := by decide +kernel
theorem dX2_quarrelAt_96 : decode cX2_quarrelAt 96 = .ok (.iinc 4 1, 3) := by decide +kernel
theorem dX2_quarrelAt_99 : decode cX2_quarrelAt 99 = .ok (.goto (-82), 3) := by decide +kernel
theorem dX2_quarrelAt_102 : decode cX2_quarrelAt 102 = .ok (.iconst (-1), 1) := by decide +kernel
theorem dX2_quarrelAt_103 : decode cX2_quarrelAt 103 = .ok (.ireturn, 1) := by decide +kernel
set_option maxRecDepth 20000 in
theorem ggX2_pairAt_X8_holds : GoodIn wsX2_pairAt wsX8_holds := goodIn_r _ [3] (by decide +kernel) (by decide +kernel)
set_option maxRecDepth 20000 in
theorem gX2_pairAt_X8_holds_n69 : GoodIn wsX2_pairAt (wsX8_holds) := ggX2_pairAt_X8_holds
theorem dX2_pairAt_0 : decode cX2_pairAt 0 = .ok (.iconst 0, 1) := by decide +kernel
theorem dX2_pairAt_1 : decode cX2_pairAt 1 = .ok (.istore_n 3, 1) := by decide +kernel
theorem dX2_pairAt_2 : decode cX2_pairAt 2 = .ok (.iconst 0, 1) := by decide +kernel
theorem dX2_pairAt_3 : decode cX2_pairAt 3 = .ok (.istore 4, 2) := by decide +kernel
theorem dX2_pairAt_5 : decode cX2_pairAt 5 = .ok (.iload 4, 2) := by decide +kernel
theorem dX2_pairAt_7 : decode cX2_pairAt 7 = .ok (.bipush 64, 2) := by decide +kernel
theorem dX2_pairAt_9 : decode cX2_pairAt 9 = .ok (.if_icmp .ge 29, 3) := by decide +kernel
theorem dX2_pairAt_12 : decode cX2_pairAt 12 = .ok (.lload_n 0, 1) := by decide +kernel
theorem dX2_pairAt_13 : decode cX2_pairAt 13 = .ok (.iload 4, 2) := by decide +kernel
theorem dX2_pairAt_15 : decode cX2_pairAt 15 = .ok (.invokestatic 69, 3) := by decide +kernel
theorem dX2_pairAt_18 : decode cX2_pairAt 18 = .ok (.ifCond .eq 14, 3) := by decide +kernel
theorem dX2_pairAt_21 : decode cX2_pairAt 21 = .ok (.iload_n 3, 1) := by decide +kernel
theorem dX2_pairAt_22 : decode cX2_pairAt 22 = .ok (.iload_n 2, 1) := by decide +kernel
theorem dX2_pairAt_23 : decode cX2_pairAt 23 = .ok (.if_icmp .ne 6, 3) := by decide +kernel
theorem dX2_pairAt_26 : decode cX2_pairAt 26 = .ok (.iload 4, 2) := by decide +kernel
theorem dX2_pairAt_28 : decode cX2_pairAt 28 = .ok (.ireturn, 1) := by decide +kernel
theorem dX2_pairAt_29 : decode cX2_pairAt 29 = .ok (.iinc 3 1, 3) := by decide +kernel
theorem dX2_pairAt_32 : decode cX2_pairAt 32 = .ok (.iinc 4 1, 3) := by decide +kernel
theorem dX2_pairAt_35 : decode cX2_pairAt 35 = .ok (.goto (-30), 3) := by decide +kernel
theorem dX2_pairAt_38 : decode cX2_pairAt 38 = .ok (.iconst (-1), 1) := by decide +kernel
theorem dX2_pairAt_39 : decode cX2_pairAt 39 = .ok (.ireturn, 1) := by decide +kernel
set_option maxRecDepth 20000 in
theorem ggX2_unlike_X2_run : GoodIn wsX2_unlike wsX2_run := goodIn_r _ [13, 2, 14, 15, 16, 12, 17, 18, 1, 19, 20, 21, 22, 23, 24, 25, 26, 27, 28, 29, 30, 3, 31, 32, 47, 48, 49, 50, 51, 58, 59, 60, 61, 62, 63, 64, 65, 66, 67, 68, 69, 52, 53, 54, 55, 56, 57] (by decide +kernel) (by decide +kernel)
set_option maxRecDepth 20000 in
theorem gX2_unlike_X2_run : GoodIn wsX2_unlike (wsV RX2 120 RX2 yX2_run wsX2_run) := goodIn_app (goodIn_of _ (by decide +kernel)) ggX2_unlike_X2_run
set_option maxRecDepth 20000 in
theorem ggX2_unlike_X2_ofProduct : GoodIn wsX2_unlike wsX2_ofProduct := goodIn_r _ [36, 1, 2, 37, 38, 39, 40, 41, 42, 43, 44, 45, 46, 31, 21, 32, 47, 48, 49, 50, 51, 52, 53, 54, 55, 56, 57, 58, 59, 60, 61, 62, 63, 64, 65, 66] (by decide +kernel) (by decide +kernel)
set_option maxRecDepth 20000 in
theorem gX2_unlike_X2_ofProduct : GoodIn wsX2_unlike (wsV RX2 96 RX2 yX2_ofProduct wsX2_ofProduct) := goodIn_app (goodIn_of _ (by decide +kernel)) ggX2_unlike_X2_ofProduct
theorem dX2_unlike_0 : decode cX2_unlike 0 = .ok (.aload_n 0, 1) := by decide +kernel
theorem dX2_unlike_1 : decode cX2_unlike 1 = .ok (.iload_n 1, 1) := by decide +kernel
theorem dX2_unlike_2 : decode cX2_unlike 2 = .ok (.aload_n 0, 1) := by decide +kernel
theorem dX2_unlike_3 : decode cX2_unlike 3 = .ok (.getfield 22, 3) := by decide +kernel
theorem dX2_unlike_6 : decode cX2_unlike 6 = .ok (.getfield 113, 3) := by decide +kernel
theorem dX2_unlike_9 : decode cX2_unlike 9 = .ok (.aload_n 0, 1) := by decide +kernel
theorem dX2_unlike_10 : decode cX2_unlike 10 = .ok (.getfield 26, 3) := by decide +kernel
theorem dX2_unlike_13 : decode cX2_unlike 13 = .ok (.getfield 109, 3) := by decide +kernel
theorem dX2_unlike_16 : decode cX2_unlike 16 = .ok (.invokevirtual 120, 3) := by decide +kernel
theorem dX2_unlike_19 : decode cX2_unlike 19 = .ok (.aload_n 0, 1) := by decide +kernel
theorem dX2_unlike_20 : decode cX2_unlike 20 = .ok (.getfield 9, 3) := by decide +kernel
theorem dX2_unlike_23 : decode cX2_unlike 23 = .ok (.iconst 0, 1) := by decide +kernel
theorem dX2_unlike_24 : decode cX2_unlike 24 = .ok (.aload_n 0, 1) := by decide +kernel
theorem dX2_unlike_25 : decode cX2_unlike 25 = .ok (.getfield 15, 3) := by decide +kernel
theorem dX2_unlike_28 : decode cX2_unlike 28 = .ok (.iconst 0, 1) := by decide +kernel
theorem dX2_unlike_29 : decode cX2_unlike 29 = .ok (.bipush 24, 2) := by decide +kernel
theorem dX2_unlike_31 : decode cX2_unlike 31 = .ok (.invokestatic 124, 3) := by decide +kernel
theorem dX2_unlike_34 : decode cX2_unlike 34 = .ok (.aload_n 0, 1) := by decide +kernel
theorem dX2_unlike_35 : decode cX2_unlike 35 = .ok (.iload_n 2, 1) := by decide +kernel
theorem dX2_unlike_36 : decode cX2_unlike 36 = .ok (.aload_n 0, 1) := by decide +kernel
theorem dX2_unlike_37 : decode cX2_unlike 37 = .ok (.getfield 22, 3) := by decide +kernel
theorem dX2_unlike_40 : decode cX2_unlike 40 = .ok (.getfield 113, 3) := by decide +kernel
theorem dX2_unlike_43 : decode cX2_unlike 43 = .ok (.aload_n 0, 1) := by decide +kernel
theorem dX2_unlike_44 : decode cX2_unlike 44 = .ok (.getfield 26, 3) := by decide +kernel
theorem dX2_unlike_47 : decode cX2_unlike 47 = .ok (.getfield 109, 3) := by decide +kernel
theorem dX2_unlike_50 : decode cX2_unlike 50 = .ok (.invokevirtual 120, 3) := by decide +kernel
theorem dX2_unlike_53 : decode cX2_unlike 53 = .ok (.iconst 0, 1) := by decide +kernel
theorem dX2_unlike_54 : decode cX2_unlike 54 = .ok (.istore_n 3, 1) := by decide +kernel
theorem dX2_unlike_55 : decode cX2_unlike 55 = .ok (.iconst 0, 1) := by decide +kernel
theorem dX2_unlike_56 : decode cX2_unlike 56 = .ok (.istore 4, 2) := by decide +kernel
theorem dX2_unlike_58 : decode cX2_unlike 58 = .ok (.iload 4, 2) := by decide +kernel
theorem dX2_unlike_60 : decode cX2_unlike 60 = .ok (.bipush 24, 2) := by decide +kernel
theorem dX2_unlike_62 : decode cX2_unlike 62 = .ok (.if_icmp .ge 34, 3) := by decide +kernel
theorem dX2_unlike_65 : decode cX2_unlike 65 = .ok (.aload_n 0, 1) := by decide +kernel
theorem dX2_unlike_66 : decode cX2_unlike 66 = .ok (.getfield 9, 3) := by decide +kernel
theorem dX2_unlike_69 : decode cX2_unlike 69 = .ok (.iload 4, 2) := by decide +kernel
theorem dX2_unlike_71 : decode cX2_unlike 71 = .ok (.laload, 1) := by decide +kernel
theorem dX2_unlike_72 : decode cX2_unlike 72 = .ok (.aload_n 0, 1) := by decide +kernel
theorem dX2_unlike_73 : decode cX2_unlike 73 = .ok (.getfield 15, 3) := by decide +kernel
theorem dX2_unlike_76 : decode cX2_unlike 76 = .ok (.iload 4, 2) := by decide +kernel
theorem dX2_unlike_78 : decode cX2_unlike 78 = .ok (.laload, 1) := by decide +kernel
theorem dX2_unlike_79 : decode cX2_unlike 79 = .ok (.lcmp, 1) := by decide +kernel
theorem dX2_unlike_80 : decode cX2_unlike 80 = .ok (.ifCond .eq 10, 3) := by decide +kernel
theorem dX2_unlike_83 : decode cX2_unlike 83 = .ok (.iload_n 3, 1) := by decide +kernel
theorem dX2_unlike_84 : decode cX2_unlike 84 = .ok (.iconst 1, 1) := by decide +kernel
theorem dX2_unlike_85 : decode cX2_unlike 85 = .ok (.iload 4, 2) := by decide +kernel
theorem dX2_unlike_87 : decode cX2_unlike 87 = .ok (.ishl, 1) := by decide +kernel
theorem dX2_unlike_88 : decode cX2_unlike 88 = .ok (.ior, 1) := by decide +kernel
theorem dX2_unlike_89 : decode cX2_unlike 89 = .ok (.istore_n 3, 1) := by decide +kernel
theorem dX2_unlike_90 : decode cX2_unlike 90 = .ok (.iinc 4 1, 3) := by decide +kernel
theorem dX2_unlike_93 : decode cX2_unlike 93 = .ok (.goto (-35), 3) := by decide +kernel
theorem dX2_unlike_96 : decode cX2_unlike 96 = .ok (.iload_n 3, 1) := by decide +kernel
theorem dX2_unlike_97 : decode cX2_unlike 97 = .ok (.aload_n 0, 1) := by decide +kernel
theorem dX2_unlike_98 : decode cX2_unlike 98 = .ok (.aload_n 0, 1) := by decide +kernel
theorem dX2_unlike_99 : decode cX2_unlike 99 = .ok (.getfield 26, 3) := by decide +kernel
theorem dX2_unlike_102 : decode cX2_unlike 102 = .ok (.getfield 109, 3) := by decide +kernel
theorem dX2_unlike_105 : decode cX2_unlike 105 = .ok (.invokevirtual 96, 3) := by decide +kernel
theorem dX2_unlike_108 : decode cX2_unlike 108 = .ok (.iand, 1) := by decide +kernel
theorem dX2_unlike_109 : decode cX2_unlike 109 = .ok (.ireturn, 1) := by decide +kernel
set_option maxRecDepth 20000 in
theorem ggX2_wayCount_X2_ofProduct : GoodIn wsX2_wayCount wsX2_ofProduct := goodIn_r _ [7, 2, 1, 8, 9, 10, 11, 12, 13, 14, 15, 16, 17, 18, 19, 20, 21, 22, 23, 24, 25, 35, 36, 37, 38, 39, 40, 26, 27, 28, 29, 30, 31, 32, 33, 34] (by decide +kernel) (by decide +kernel)
set_option maxRecDepth 20000 in
theorem gX2_wayCount_X2_ofProduct : GoodIn wsX2_wayCount (wsV RX2 96 RX2 yX2_ofProduct wsX2_ofProduct) := goodIn_app (goodIn_of _ (by decide +kernel)) ggX2_wayCount_X2_ofProduct
set_option maxRecDepth 20000 in
theorem ggX2_wayCount_X8_holds : GoodIn wsX2_wayCount wsX8_holds := goodIn_r _ [20] (by decide +kernel) (by decide +kernel)
set_option maxRecDepth 20000 in
theorem gX2_wayCount_X8_holds_n69 : GoodIn wsX2_wayCount (wsX8_holds) := ggX2_wayCount_X8_holds
theorem dX2_wayCount_0 : decode cX2_wayCount 0 = .ok (.aload_n 0, 1) := by decide +kernel
theorem dX2_wayCount_1 : decode cX2_wayCount 1 = .ok (.aload_n 0, 1) := by decide +kernel
theorem dX2_wayCount_2 : decode cX2_wayCount 2 = .ok (.getfield 26, 3) := by decide +kernel
theorem dX2_wayCount_5 : decode cX2_wayCount 5 = .ok (.getfield 109, 3) := by decide +kernel
theorem dX2_wayCount_8 : decode cX2_wayCount 8 = .ok (.invokevirtual 96, 3) := by decide +kernel
theorem dX2_wayCount_11 : decode cX2_wayCount 11 = .ok (.istore_n 1, 1) := by decide +kernel
theorem dX2_wayCount_12 : decode cX2_wayCount 12 = .ok (.iconst 1, 1) := by decide +kernel
theorem dX2_wayCount_13 : decode cX2_wayCount 13 = .ok (.istore_n 2, 1) := by decide +kernel
theorem dX2_wayCount_14 : decode cX2_wayCount 14 = .ok (.iconst 0, 1) := by decide +kernel
theorem dX2_wayCount_15 : decode cX2_wayCount 15 = .ok (.istore_n 3, 1) := by decide +kernel
theorem dX2_wayCount_16 : decode cX2_wayCount 16 = .ok (.iload_n 3, 1) := by decide +kernel
theorem dX2_wayCount_17 : decode cX2_wayCount 17 = .ok (.aload_n 0, 1) := by decide +kernel
theorem dX2_wayCount_18 : decode cX2_wayCount 18 = .ok (.getfield 22, 3) := by decide +kernel
theorem dX2_wayCount_21 : decode cX2_wayCount 21 = .ok (.getfield 85, 3) := by decide +kernel
theorem dX2_wayCount_24 : decode cX2_wayCount 24 = .ok (.if_icmp .ge 39, 3) := by decide +kernel
theorem dX2_wayCount_27 : decode cX2_wayCount 27 = .ok (.iload_n 1, 1) := by decide +kernel
theorem dX2_wayCount_28 : decode cX2_wayCount 28 = .ok (.i2l, 1) := by decide +kernel
theorem dX2_wayCount_29 : decode cX2_wayCount 29 = .ok (.iload_n 3, 1) := by decide +kernel
theorem dX2_wayCount_30 : decode cX2_wayCount 30 = .ok (.invokestatic 69, 3) := by decide +kernel
theorem dX2_wayCount_33 : decode cX2_wayCount 33 = .ok (.ifCond .eq 15, 3) := by decide +kernel
theorem dX2_wayCount_36 : decode cX2_wayCount 36 = .ok (.iload_n 2, 1) := by decide +kernel
theorem dX2_wayCount_37 : decode cX2_wayCount 37 = .ok (.aload_n 0, 1) := by decide +kernel
theorem dX2_wayCount_38 : decode cX2_wayCount 38 = .ok (.getfield 22, 3) := by decide +kernel
theorem dX2_wayCount_41 : decode cX2_wayCount 41 = .ok (.getfield 130, 3) := by decide +kernel
theorem dX2_wayCount_44 : decode cX2_wayCount 44 = .ok (.iload_n 3, 1) := by decide +kernel
theorem dX2_wayCount_45 : decode cX2_wayCount 45 = .ok (.iaload, 1) := by decide +kernel
theorem dX2_wayCount_46 : decode cX2_wayCount 46 = .ok (.imul, 1) := by decide +kernel
theorem dX2_wayCount_47 : decode cX2_wayCount 47 = .ok (.istore_n 2, 1) := by decide +kernel
theorem dX2_wayCount_48 : decode cX2_wayCount 48 = .ok (.iload_n 2, 1) := by decide +kernel
theorem dX2_wayCount_49 : decode cX2_wayCount 49 = .ok (.sipush 6561, 3) := by decide +kernel
theorem dX2_wayCount_52 : decode cX2_wayCount 52 = .ok (.if_icmp .le 5, 3) := by decide +kernel
theorem dX2_wayCount_55 : decode cX2_wayCount 55 = .ok (.iconst (-1), 1) := by decide +kernel
theorem dX2_wayCount_56 : decode cX2_wayCount 56 = .ok (.ireturn, 1) := by decide +kernel
theorem dX2_wayCount_57 : decode cX2_wayCount 57 = .ok (.iinc 3 1, 3) := by decide +kernel
theorem dX2_wayCount_60 : decode cX2_wayCount 60 = .ok (.goto (-44), 3) := by decide +kernel
theorem dX2_wayCount_63 : decode cX2_wayCount 63 = .ok (.iload_n 2, 1) := by decide +kernel
theorem dX2_wayCount_64 : decode cX2_wayCount 64 = .ok (.ireturn, 1) := by decide +kernel
theorem dX3_init_0 : decode cX3_init 0 = .ok (.aload_n 0, 1) := by decide +kernel
theorem dX3_init_1 : decode cX3_init 1 = .ok (.invokespecial 3, 3) := by decide +kernel
theorem dX3_init_4 : decode cX3_init 4 = .ok (.aload_n 0, 1) := by decide +kernel
theorem dX3_init_5 : decode cX3_init 5 = .ok (.bipush 40, 2) := by decide +kernel
theorem dX3_init_7 : decode cX3_init 7 = .ok (.newarray .int, 2) := by decide +kernel
theorem dX3_init_9 : decode cX3_init 9 = .ok (.putfield 9, 3) := by decide +kernel
theorem dX3_init_12 : decode cX3_init 12 = .ok (.aload_n 0, 1) := by decide +kernel
theorem dX3_init_13 : decode cX3_init 13 = .ok (.bipush 40, 2) := by decide +kernel
theorem dX3_init_15 : decode cX3_init 15 = .ok (.newarray .int, 2) := by decide +kernel
theorem dX3_init_17 : decode cX3_init 17 = .ok (.putfield 15, 3) := by decide +kernel
theorem dX3_init_20 : decode cX3_init 20 = .ok (.aload_n 0, 1) := by decide +kernel
theorem dX3_init_21 : decode cX3_init 21 = .ok (.bipush 40, 2) := by decide +kernel
theorem dX3_init_23 : decode cX3_init 23 = .ok (.newarray .int, 2) := by decide +kernel
theorem dX3_init_25 : decode cX3_init 25 = .ok (.putfield 18, 3) := by decide +kernel
theorem dX3_init_28 : decode cX3_init 28 = .ok (.aload_n 0, 1) := by decide +kernel
theorem dX3_init_29 : decode cX3_init 29 = .ok (.bipush 24, 2) := by decide +kernel
theorem dX3_init_31 : decode cX3_init 31 = .ok (.newarray .int, 2) := by decide +kernel
theorem dX3_init_33 : decode cX3_init 33 = .ok (.putfield 21, 3) := by decide +kernel
theorem dX3_init_36 : decode cX3_init 36 = .ok (.aload_n 0, 1) := by decide +kernel
theorem dX3_init_37 : decode cX3_init 37 = .ok (.bipush 40, 2) := by decide +kernel
theorem dX3_init_39 : decode cX3_init 39 = .ok (.newarray .int, 2) := by decide +kernel
theorem dX3_init_41 : decode cX3_init 41 = .ok (.putfield 24, 3) := by decide +kernel
theorem dX3_init_44 : decode cX3_init 44 = .ok (.aload_n 0, 1) := by decide +kernel
theorem dX3_init_45 : decode cX3_init 45 = .ok (.bipush 24, 2) := by decide +kernel
theorem dX3_init_47 : decode cX3_init 47 = .ok (.newarray .int, 2) := by decide +kernel
theorem dX3_init_49 : decode cX3_init 49 = .ok (.putfield 27, 3) := by decide +kernel
theorem dX3_init_52 : decode cX3_init 52 = .ok (.aload_n 0, 1) := by decide +kernel
theorem dX3_init_53 : decode cX3_init 53 = .ok (.bipush 24, 2) := by decide +kernel
theorem dX3_init_55 : decode cX3_init 55 = .ok (.newarray .int, 2) := by decide +kernel
theorem dX3_init_57 : decode cX3_init 57 = .ok (.putfield 30, 3) := by decide +kernel
theorem dX3_init_60 : decode cX3_init 60 = .ok (.iconst 0, 1) := by decide +kernel
theorem dX3_init_61 : decode cX3_init 61 = .ok (.istore_n 1, 1) := by decide +kernel
theorem dX3_init_62 : decode cX3_init 62 = .ok (.iload_n 1, 1) := by decide +kernel
theorem dX3_init_63 : decode cX3_init 63 = .ok (.bipush 24, 2) := by decide +kernel
theorem dX3_init_65 : decode cX3_init 65 = .ok (.if_icmp .ge 16, 3) := by decide +kernel
theorem dX3_init_68 : decode cX3_init 68 = .ok (.aload_n 0, 1) := by decide +kernel
theorem dX3_init_69 : decode cX3_init 69 = .ok (.getfield 21, 3) := by decide +kernel
theorem dX3_init_72 : decode cX3_init 72 = .ok (.iload_n 1, 1) := by decide +kernel
theorem dX3_init_73 : decode cX3_init 73 = .ok (.iload_n 1, 1) := by decide +kernel
theorem dX3_init_74 : decode cX3_init 74 = .ok (.iastore, 1) := by decide +kernel
theorem dX3_init_75 : decode cX3_init 75 = .ok (.iinc 1 1, 3) := by decide +kernel
theorem dX3_init_78 : decode cX3_init 78 = .ok (.goto (-16), 3) := by decide +kernel
theorem dX3_init_81 : decode cX3_init 81 = .ok (.return_, 1) := by decide +kernel
set_option maxRecDepth 20000 in
theorem ggX3_isThere_X8_within : GoodIn wsX3_isThere wsX8_within := goodIn_r _ [5] (by decide +kernel) (by decide +kernel)
set_option maxRecDepth 20000 in
theorem gX3_isThere_X8_within_n37 : GoodIn wsX3_isThere (wsX8_within) := ggX3_isThere_X8_within
set_option maxRecDepth 20000 in
theorem ggX3_isThere_X8_holds : GoodIn wsX3_isThere wsX8_holds := goodIn_r _ [7] (by decide +kernel) (by decide +kernel)
set_option maxRecDepth 20000 in
theorem gX3_isThere_X8_holds_n45 : GoodIn wsX3_isThere (wsX8_holds) := ggX3_isThere_X8_holds
theorem dX3_isThere_0 : decode cX3_isThere 0 = .ok (.iload_n 1, 1) := by decide +kernel
theorem dX3_isThere_1 : decode cX3_isThere 1 = .ok (.aload_n 0, 1) := by decide +kernel
theorem dX3_isThere_2 : decode cX3_isThere 2 = .ok (.getfield 33, 3) := by decide +kernel
theorem dX3_isThere_5 : decode cX3_isThere 5 = .ok (.invokestatic 37, 3) := by decide +kernel
theorem dX3_isThere_8 : decode cX3_isThere 8 = .ok (.ifCond .eq 18, 3) := by decide +kernel
theorem dX3_isThere_11 : decode cX3_isThere 11 = .ok (.aload_n 0, 1) := by decide +kernel
theorem dX3_isThere_12 : decode cX3_isThere 12 = .ok (.getfield 41, 3) := by decide +kernel
theorem dX3_isThere_15 : decode cX3_isThere 15 = .ok (.iload_n 1, 1) := by decide +kernel
theorem dX3_isThere_16 : decode cX3_isThere 16 = .ok (.invokestatic 45, 3) := by decide +kernel
theorem dX3_isThere_19 : decode cX3_isThere 19 = .ok (.ifCond .eq 7, 3) := by decide +kernel
theorem dX3_isThere_22 : decode cX3_isThere 22 = .ok (.iconst 1, 1) := by decide +kernel
