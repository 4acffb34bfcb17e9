set_option maxRecDepth 20000 in
theorem ggX8_differ_X2_unlike : GoodIn wsX8_differ wsX2_unlike := goodIn_r _ [10, 11, 12, 13, 14, 15, 16, 17, 18, 19, 20, 21, 9, 22, 23, 24, 25, 26, 27, 28, 29, 4, 30, 31, 32, 33, 34, 35, 36, 37, 38, 39, 40, 41, 42, 43, 44, 45, 46, 47, 48, 49, 50, 51, 52, 53, 54, 67, 68, 69, 70, 71, 72, 73, 74, 75, 76, 77, 78, 79, 80, 81, 82, 83, 84, 85, 86, 87, 88, 89] (by decide +kernel) (by decide +kernel)
set_option maxRecDepth 20000 in
theorem gX8_differ_X2_unlike : GoodIn wsX8_differ (wsV RX8 191 RX2 yX2_unlike wsX2_unlike) := goodIn_app (goodIn_of _ (by decide +kernel)) ggX8_differ_X2_unlike
set_option maxRecDepth 20000 in
theorem ggX8_differ_X8_memberAt : GoodIn wsX8_differ wsX8_memberAt := goodIn_r _ [57, 58, 39, 4, 40] (by decide +kernel) (by decide +kernel)
set_option maxRecDepth 20000 in
theorem gX8_differ_X8_memberAt : GoodIn wsX8_differ (va_wsS RX8 188 yX8_memberAt wsX8_memberAt) := goodIn_app (goodIn_of _ (by decide +kernel)) ggX8_differ_X8_memberAt
theorem dX8_differ_0 : decode cX8_differ 0 = .ok (.iload_n 1, 1) := by decide +kernel
theorem dX8_differ_1 : decode cX8_differ 1 = .ok (.iconst 4, 1) := by decide +kernel
theorem dX8_differ_2 : decode cX8_differ 2 = .ok (.invokestatic 77, 3) := by decide +kernel
theorem dX8_differ_5 : decode cX8_differ 5 = .ok (.ifCond .eq 11, 3) := by decide +kernel
theorem dX8_differ_8 : decode cX8_differ 8 = .ok (.iload_n 2, 1) := by decide +kernel
theorem dX8_differ_9 : decode cX8_differ 9 = .ok (.iconst 4, 1) := by decide +kernel
theorem dX8_differ_10 : decode cX8_differ 10 = .ok (.invokestatic 77, 3) := by decide +kernel
theorem dX8_differ_13 : decode cX8_differ 13 = .ok (.ifCond .ne 5, 3) := by decide +kernel
theorem dX8_differ_16 : decode cX8_differ 16 = .ok (.iconst (-1), 1) := by decide +kernel
theorem dX8_differ_17 : decode cX8_differ 17 = .ok (.ireturn, 1) := by decide +kernel
theorem dX8_differ_18 : decode cX8_differ 18 = .ok (.aload_n 0, 1) := by decide +kernel
theorem dX8_differ_19 : decode cX8_differ 19 = .ok (.getfield 42, 3) := by decide +kernel
theorem dX8_differ_22 : decode cX8_differ 22 = .ok (.iload_n 1, 1) := by decide +kernel
theorem dX8_differ_23 : decode cX8_differ 23 = .ok (.iload_n 2, 1) := by decide +kernel
theorem dX8_differ_24 : decode cX8_differ 24 = .ok (.invokevirtual 191, 3) := by decide +kernel
theorem dX8_differ_27 : decode cX8_differ 27 = .ok (.iload_n 3, 1) := by decide +kernel
theorem dX8_differ_28 : decode cX8_differ 28 = .ok (.invokestatic 188, 3) := by decide +kernel
theorem dX8_differ_31 : decode cX8_differ 31 = .ok (.ireturn, 1) := by decide +kernel
set_option maxRecDepth 20000 in
theorem ggX8_look_X5_has : GoodIn wsX8_look wsX5_has := goodIn_r _ [8, 9, 10, 11, 12, 60, 61, 62, 63, 64, 65] (by decide +kernel) (by decide +kernel)
set_option maxRecDepth 20000 in
theorem gX8_look_X5_has : GoodIn wsX8_look (wsV RX8 104 RX5 yX5_has wsX5_has) := goodIn_app (goodIn_of _ (by decide +kernel)) ggX8_look_X5_has
set_option maxRecDepth 20000 in
theorem ggX8_look_X2_ofProduct : GoodIn wsX8_look wsX2_ofProduct := goodIn_r _ [17, 18, 19, 20, 21, 22, 23, 24, 25, 26, 27, 28, 29, 30, 11, 31, 75, 76, 77, 78, 79, 60, 61, 62, 63, 64, 65, 66, 67, 68, 69, 70, 71, 72, 73, 74] (by decide +kernel) (by decide +kernel)
set_option maxRecDepth 20000 in
theorem gX8_look_X2_ofProduct : GoodIn wsX8_look (wsV RX8 194 RX2 yX2_ofProduct wsX2_ofProduct) := goodIn_app (goodIn_of _ (by decide +kernel)) ggX8_look_X2_ofProduct
set_option maxRecDepth 20000 in
theorem ggX8_look_X8_holds : GoodIn wsX8_look wsX8_holds := goodIn_r _ [31] (by decide +kernel) (by decide +kernel)
set_option maxRecDepth 20000 in
theorem gX8_look_X8_holds : GoodIn wsX8_look (va_wsS RX8 130 yX8_holds wsX8_holds) := goodIn_app (goodIn_of _ (by decide +kernel)) ggX8_look_X8_holds
set_option maxRecDepth 20000 in
theorem ggX8_look_X3_countInto : GoodIn wsX8_look wsX3_countInto := goodIn_r _ [36, 27, 26, 66, 67, 68, 69, 70, 71, 72, 73, 74] (by decide +kernel) (by decide +kernel)
set_option maxRecDepth 20000 in
theorem gX8_look_X3_countInto : GoodIn wsX8_look (wsV RX8 198 RX3 yX3_countInto wsX3_countInto) := goodIn_app (goodIn_of _ (by decide +kernel)) ggX8_look_X3_countInto
set_option maxRecDepth 20000 in
theorem ggX8_look_X3_countOutOf : GoodIn wsX8_look wsX3_countOutOf := goodIn_r _ [40, 41, 29, 42, 30, 11, 31, 66, 67, 68, 69, 70, 71, 72, 73, 74] (by decide +kernel) (by decide +kernel)
set_option maxRecDepth 20000 in
theorem gX8_look_X3_countOutOf : GoodIn wsX8_look (wsV RX8 201 RX3 yX3_countOutOf wsX3_countOutOf) := goodIn_app (goodIn_of _ (by decide +kernel)) ggX8_look_X3_countOutOf
set_option maxRecDepth 20000 in
theorem ggX8_look_X8_choiceOrNone : GoodIn wsX8_look wsX8_choiceOrNone := goodIn_r _ [46, 1, 47, 48, 49, 7, 50, 51, 52, 53, 54, 55, 56, 57, 58, 59, 60, 61, 62, 63, 64, 65] (by decide +kernel) (by decide +kernel)
set_option maxRecDepth 20000 in
theorem gX8_look_X8_choiceOrNone : GoodIn wsX8_look (wsV RX8 204 RX8 yX8_choiceOrNone wsX8_choiceOrNone) := goodIn_app (goodIn_of _ (by decide +kernel)) ggX8_look_X8_choiceOrNone
theorem dX8_look_0 : decode cX8_look 0 = .ok (.aload_n 0, 1) := by decide +kernel
theorem dX8_look_1 : decode cX8_look 1 = .ok (.getfield 19, 3) := by decide +kernel
theorem dX8_look_4 : decode cX8_look 4 = .ok (.iload_n 1, 1) := by decide +kernel
theorem dX8_look_5 : decode cX8_look 5 = .ok (.invokevirtual 104, 3) := by decide +kernel
theorem dX8_look_8 : decode cX8_look 8 = .ok (.ifCond .ne 5, 3) := by decide +kernel
theorem dX8_look_11 : decode cX8_look 11 = .ok (.iconst (-1), 1) := by decide +kernel
theorem dX8_look_12 : decode cX8_look 12 = .ok (.ireturn, 1) := by decide +kernel
theorem dX8_look_13 : decode cX8_look 13 = .ok (.iload_n 2, 1) := by decide +kernel
theorem dX8_look_14 : decode cX8_look 14 = .ok (.tableswitch 100 0 4 #[34, 44, 54, 82, 91], 34) := by decide +kernel
theorem dX8_look_48 : decode cX8_look 48 = .ok (.aload_n 0, 1) := by decide +kernel
theorem dX8_look_49 : decode cX8_look 49 = .ok (.getfield 19, 3) := by decide +kernel
theorem dX8_look_52 : decode cX8_look 52 = .ok (.getfield 115, 3) := by decide +kernel
theorem dX8_look_55 : decode cX8_look 55 = .ok (.iload_n 1, 1) := by decide +kernel
theorem dX8_look_56 : decode cX8_look 56 = .ok (.iaload, 1) := by decide +kernel
theorem dX8_look_57 : decode cX8_look 57 = .ok (.ireturn, 1) := by decide +kernel
theorem dX8_look_58 : decode cX8_look 58 = .ok (.aload_n 0, 1) := by decide +kernel
theorem dX8_look_59 : decode cX8_look 59 = .ok (.getfield 19, 3) := by decide +kernel
theorem dX8_look_62 : decode cX8_look 62 = .ok (.getfield 108, 3) := by decide +kernel
theorem dX8_look_65 : decode cX8_look 65 = .ok (.iload_n 1, 1) := by decide +kernel
theorem dX8_look_66 : decode cX8_look 66 = .ok (.iaload, 1) := by decide +kernel
theorem dX8_look_67 : decode cX8_look 67 = .ok (.ireturn, 1) := by decide +kernel
theorem dX8_look_68 : decode cX8_look 68 = .ok (.aload_n 0, 1) := by decide +kernel
theorem dX8_look_69 : decode cX8_look 69 = .ok (.getfield 42, 3) := by decide +kernel
theorem dX8_look_72 : decode cX8_look 72 = .ok (.aload_n 0, 1) := by decide +kernel
theorem dX8_look_73 : decode cX8_look 73 = .ok (.getfield 26, 3) := by decide +kernel
theorem dX8_look_76 : decode cX8_look 76 = .ok (.getfield 122, 3) := by decide +kernel
theorem dX8_look_79 : decode cX8_look 79 = .ok (.invokevirtual 194, 3) := by decide +kernel
theorem dX8_look_82 : decode cX8_look 82 = .ok (.i2l, 1) := by decide +kernel
theorem dX8_look_83 : decode cX8_look 83 = .ok (.iload_n 1, 1) := by decide +kernel
theorem dX8_look_84 : decode cX8_look 84 = .ok (.invokestatic 130, 3) := by decide +kernel
theorem dX8_look_87 : decode cX8_look 87 = .ok (.ifCond .eq 7, 3) := by decide +kernel
theorem dX8_look_90 : decode cX8_look 90 = .ok (.iconst 1, 1) := by decide +kernel
theorem dX8_look_91 : decode cX8_look 91 = .ok (.goto 4, 3) := by decide +kernel
theorem dX8_look_94 : decode cX8_look 94 = .ok (.iconst 0, 1) := by decide +kernel
theorem dX8_look_95 : decode cX8_look 95 = .ok (.ireturn, 1) := by decide +kernel
theorem dX8_look_96 : decode cX8_look 96 = .ok (.aload_n 0, 1) := by decide +kernel
theorem dX8_look_97 : decode cX8_look 97 = .ok (.getfield 26, 3) := by decide +kernel
theorem dX8_look_100 : decode cX8_look 100 = .ok (.iload_n 1, 1) := by decide +kernel
theorem dX8_look_101 : decode cX8_look 101 = .ok (.invokevirtual 198, 3) := by decide +kernel
theorem dX8_look_104 : decode cX8_look 104 = .ok (.ireturn, 1) := by decide +kernel
theorem dX8_look_105 : decode cX8_look 105 = .ok (.aload_n 0, 1) := by decide +kernel
theorem dX8_look_106 : decode cX8_look 106 = .ok (.getfield 26, 3) := by decide +kernel
theorem dX8_look_109 : decode cX8_look 109 = .ok (.iload_n 1, 1) := by decide +kernel
theorem dX8_look_110 : decode cX8_look 110 = .ok (.invokevirtual 201, 3) := by decide +kernel
theorem dX8_look_113 : decode cX8_look 113 = .ok (.ireturn, 1) := by decide +kernel
theorem dX8_look_114 : decode cX8_look 114 = .ok (.aload_n 0, 1) := by decide +kernel
theorem dX8_look_115 : decode cX8_look 115 = .ok (.iload_n 1, 1) := by decide +kernel
theorem dX8_look_116 : decode cX8_look 116 = .ok (.iload_n 2, 1) := by decide +kernel
theorem dX8_look_117 : decode cX8_look 117 = .ok (.invokevirtual 204, 3) := by decide +kernel
theorem dX8_look_120 : decode cX8_look 120 = .ok (.ireturn, 1) := by decide +kernel
set_option maxRecDepth 20000 in
theorem ggX8_count_J13_bitCount_95d88 : GoodIn wsX8_count wsJ13_bitCount_95d88 := goodIn_r _ [8, 9, 10, 11] (by decide +kernel) (by decide +kernel)
set_option maxRecDepth 20000 in
theorem gX8_count_J13_bitCount_95d88 : GoodIn wsX8_count (va_wsS RX8 207 yJ13_bitCount_95d88 wsJ13_bitCount_95d88) := goodIn_app (goodIn_of _ (by decide +kernel)) ggX8_count_J13_bitCount_95d88
set_option maxRecDepth 20000 in
theorem ggX8_count_X2_ofProduct : GoodIn wsX8_count wsX2_ofProduct := goodIn_r _ [16, 17, 18, 19, 20, 21, 22, 23, 24, 25, 26, 27, 28, 29, 30, 31, 72, 73, 74, 75, 76, 52, 53, 54, 55, 56, 57, 58, 59, 60, 61, 62, 63, 64, 65, 66] (by decide +kernel) (by decide +kernel)
set_option maxRecDepth 20000 in
theorem gX8_count_X2_ofProduct : GoodIn wsX8_count (wsV RX8 194 RX2 yX2_ofProduct wsX2_ofProduct) := goodIn_app (goodIn_of _ (by decide +kernel)) ggX8_count_X2_ofProduct
set_option maxRecDepth 20000 in
theorem ggX8_count_J6_bitCount_0f7a4 : GoodIn wsX8_count wsJ6_bitCount_0f7a4 := goodIn_r _ [35, 36, 37, 38] (by decide +kernel) (by decide +kernel)
set_option maxRecDepth 20000 in
theorem gX8_count_J6_bitCount_0f7a4 : GoodIn wsX8_count (va_wsS RX8 212 yJ6_bitCount_0f7a4 wsJ6_bitCount_0f7a4) := goodIn_app (goodIn_of _ (by decide +kernel)) ggX8_count_J6_bitCount_0f7a4
set_option maxRecDepth 20000 in
theorem ggX8_count_X2_wayCount : GoodIn wsX8_count wsX2_wayCount := goodIn_r _ [42, 18, 17, 43, 13, 14, 15, 16, 19, 20, 21, 22, 23, 24, 25, 26, 27, 28, 29, 30, 31, 72, 73, 74, 75, 76, 58, 59, 60, 61, 62, 63, 64, 65, 66, 52, 53, 54, 55, 56, 57] (by decide +kernel) (by decide +kernel)
set_option maxRecDepth 20000 in
theorem gX8_count_X2_wayCount : GoodIn wsX8_count (wsV RX8 169 RX2 yX2_wayCount wsX2_wayCount) := goodIn_app (goodIn_of _ (by decide +kernel)) ggX8_count_X2_wayCount
theorem dX8_count_0 : decode cX8_count 0 = .ok (.iload_n 1, 1) := by decide +kernel
theorem dX8_count_1 : decode cX8_count 1 = .ok (.tableswitch 112 0 6 #[43, 51, 59, 70, 88, 96, 104], 43) := by decide +kernel
theorem dX8_count_44 : decode cX8_count 44 = .ok (.aload_n 0, 1) := by decide +kernel
theorem dX8_count_45 : decode cX8_count 45 = .ok (.getfield 19, 3) := by decide +kernel
theorem dX8_count_48 : decode cX8_count 48 = .ok (.getfield 96, 3) := by decide +kernel
theorem dX8_count_51 : decode cX8_count 51 = .ok (.ireturn, 1) := by decide +kernel
theorem dX8_count_52 : decode cX8_count 52 = .ok (.aload_n 0, 1) := by decide +kernel
theorem dX8_count_53 : decode cX8_count 53 = .ok (.getfield 26, 3) := by decide +kernel
theorem dX8_count_56 : decode cX8_count 56 = .ok (.getfield 118, 3) := by decide +kernel
theorem dX8_count_59 : decode cX8_count 59 = .ok (.ireturn, 1) := by decide +kernel
theorem dX8_count_60 : decode cX8_count 60 = .ok (.aload_n 0, 1) := by decide +kernel
theorem dX8_count_61 : decode cX8_count 61 = .ok (.getfield 26, 3) := by decide +kernel
theorem dX8_count_64 : decode cX8_count 64 = .ok (.getfield 122, 3) := by decide +kernel
theorem dX8_count_67 : decode cX8_count 67 = .ok (.invokestatic 207, 3) := by decide +kernel
theorem dX8_count_70 : decode cX8_count 70 = .ok (.ireturn, 1) := by decide +kernel
theorem dX8_count_71 : decode cX8_count 71 = .ok (.aload_n 0, 1) := by decide +kernel
theorem dX8_count_72 : decode cX8_count 72 = .ok (.getfield 42, 3) := by decide +kernel
theorem dX8_count_75 : decode cX8_count 75 = .ok (.aload_n 0, 1) := by decide +kernel
theorem dX8_count_76 : decode cX8_count 76 = .ok (.getfield 26, 3) := by decide +kernel
theorem dX8_count_79 : decode cX8_count 79 = .ok (.getfield 122, 3) := by decide +kernel
theorem dX8_count_82 : decode cX8_count 82 = .ok (.invokevirtual 194, 3) := by decide +kernel
theorem dX8_count_85 : decode cX8_count 85 = .ok (.invokestatic 212, 3) := by decide +kernel
theorem dX8_count_88 : decode cX8_count 88 = .ok (.ireturn, 1) := by decide +kernel
theorem dX8_count_89 : decode cX8_count 89 = .ok (.aload_n 0, 1) := by decide +kernel
theorem dX8_count_90 : decode cX8_count 90 = .ok (.getfield 33, 3) := by decide +kernel
theorem dX8_count_93 : decode cX8_count 93 = .ok (.getfield 150, 3) := by decide +kernel
theorem dX8_count_96 : decode cX8_count 96 = .ok (.ireturn, 1) := by decide +kernel
theorem dX8_count_97 : decode cX8_count 97 = .ok (.aload_n 0, 1) := by decide +kernel
theorem dX8_count_98 : decode cX8_count 98 = .ok (.getfield 19, 3) := by decide +kernel
theorem dX8_count_101 : decode cX8_count 101 = .ok (.getfield 146, 3) := by decide +kernel
theorem dX8_count_104 : decode cX8_count 104 = .ok (.ireturn, 1) := by decide +kernel
theorem dX8_count_105 : decode cX8_count 105 = .ok (.aload_n 0, 1) := by decide +kernel
theorem dX8_count_106 : decode cX8_count 106 = .ok (.getfield 42, 3) := by decide +kernel
theorem dX8_count_109 : decode cX8_count 109 = .ok (.invokevirtual 169, 3) := by decide +kernel
theorem dX8_count_112 : decode cX8_count 112 = .ok (.ireturn, 1) := by decide +kernel
theorem dX8_count_113 : decode cX8_count 113 = .ok (.iconst (-1), 1) := by decide +kernel
theorem dX8_count_114 : decode cX8_count 114 = .ok (.ireturn, 1) := by decide +kernel
set_option maxRecDepth 20000 in
theorem ggX8_choiceOrNone_X5_choiceOf : GoodIn wsX8_choiceOrNone wsX5_choiceOf := goodIn_r _ [6, 7, 16, 17, 18, 19, 20, 21] (by decide +kernel) (by decide +kernel)
set_option maxRecDepth 20000 in
theorem gX8_choiceOrNone_X5_choiceOf : GoodIn wsX8_choiceOrNone (wsV RX8 112 RX5 yX5_choiceOf wsX5_choiceOf) := goodIn_app (goodIn_of _ (by decide +kernel)) ggX8_choiceOrNone_X5_choiceOf
theorem dX8_choiceOrNone_0 : decode cX8_choiceOrNone 0 = .ok (.iload_n 2, 1) := by decide +kernel
theorem dX8_choiceOrNone_1 : decode cX8_choiceOrNone 1 = .ok (.iconst 5, 1) := by decide +kernel
theorem dX8_choiceOrNone_2 : decode cX8_choiceOrNone 2 = .ok (.if_icmp .lt 18, 3) := by decide +kernel
theorem dX8_choiceOrNone_5 : decode cX8_choiceOrNone 5 = .ok (.iload_n 2, 1) := by decide +kernel
theorem dX8_choiceOrNone_6 : decode cX8_choiceOrNone 6 = .ok (.iconst 5, 1) := by decide +kernel
theorem dX8_choiceOrNone_7 : decode cX8_choiceOrNone 7 = .ok (.isub, 1) := by decide +kernel
theorem dX8_choiceOrNone_8 : decode cX8_choiceOrNone 8 = .ok (.aload_n 0, 1) := by decide +kernel
theorem dX8_choiceOrNone_9 : decode cX8_choiceOrNone 9 = .ok (.getfield 19, 3) := by decide +kernel
theorem dX8_choiceOrNone_12 : decode cX8_choiceOrNone 12 = .ok (.getfield 108, 3) := by decide +kernel
theorem dX8_choiceOrNone_15 : decode cX8_choiceOrNone 15 = .ok (.iload_n 1, 1) := by decide +kernel
theorem dX8_choiceOrNone_16 : decode cX8_choiceOrNone 16 = .ok (.iaload, 1) := by decide +kernel
theorem dX8_choiceOrNone_17 : decode cX8_choiceOrNone 17 = .ok (.if_icmp .lt 5, 3) := by decide +kernel
theorem dX8_choiceOrNone_20 : decode cX8_choiceOrNone 20 = .ok (.iconst (-1), 1) := by decide +kernel
theorem dX8_choiceOrNone_21 : decode cX8_choiceOrNone 21 = .ok (.ireturn, 1) := by decide +kernel
theorem dX8_choiceOrNone_22 : decode cX8_choiceOrNone 22 = .ok (.aload_n 0, 1) := by decide +kernel
theorem dX8_choiceOrNone_23 : decode cX8_choiceOrNone 23 = .ok (.getfield 19, 3) := by decide +kernel
theorem dX8_choiceOrNone_26 : decode cX8_choiceOrNone 26 = .ok (.iload_n 1, 1) := by decide +kernel
theorem dX8_choiceOrNone_27 : decode cX8_choiceOrNone 27 = .ok (.iload_n 2, 1) := by decide +kernel
theorem dX8_choiceOrNone_28 : decode cX8_choiceOrNone 28 = .ok (.iconst 5, 1) := by decide +kernel
theorem dX8_choiceOrNone_29 : decode cX8_choiceOrNone 29 = .ok (.isub, 1) := by decide +kernel
theorem dX8_choiceOrNone_30 : decode cX8_choiceOrNone 30 = .ok (.invokevirtual 112, 3) := by decide +kernel
theorem dX8_choiceOrNone_33 : decode cX8_choiceOrNone 33 = .ok (.ireturn, 1) := by decide +kernel
theorem dX8_within_0 : decode cX8_within 0 = .ok (.iload_n 0, 1) := by decide +kernel
theorem dX8_within_1 : decode cX8_within 1 = .ok (.ifCond .lt 12, 3) := by decide +kernel
theorem dX8_within_4 : decode cX8_within 4 = .ok (.iload_n 0, 1) := by decide +kernel
theorem dX8_within_5 : decode cX8_within 5 = .ok (.iload_n 1, 1) := by decide +kernel
theorem dX8_within_6 : decode cX8_within 6 = .ok (.if_icmp .ge 7, 3) := by decide +kernel
theorem dX8_within_9 : decode cX8_within 9 = .ok (.iconst 1, 1) := by decide +kernel
theorem dX8_within_10 : decode cX8_within 10 = .ok (.goto 4, 3) := by decide +kernel
theorem dX8_within_13 : decode cX8_within 13 = .ok (.iconst 0, 1) := by decide +kernel
theorem dX8_within_14 : decode cX8_within 14 = .ok (.ireturn, 1) := by decide +kernel
set_option maxRecDepth 20000 in
theorem ggX8_isPair_X8_within : GoodIn wsX8_isPair wsX8_within := goodIn_r _ [4] (by decide +kernel) (by decide +kernel)
set_option maxRecDepth 20000 in
theorem gX8_isPair_X8_within : GoodIn wsX8_isPair (va_wsS RX8 77 yX8_within wsX8_within) := goodIn_app (goodIn_of _ (by decide +kernel)) ggX8_isPair_X8_within
theorem dX8_isPair_0 : decode cX8_isPair 0 = .ok (.iload_n 0, 1) := by decide +kernel
theorem dX8_isPair_1 : decode cX8_isPair 1 = .ok (.bipush 8, 2) := by decide +kernel
theorem dX8_isPair_3 : decode cX8_isPair 3 = .ok (.invokestatic 77, 3) := by decide +kernel
theorem dX8_isPair_6 : decode cX8_isPair 6 = .ok (.ifCond .eq 16, 3) := by decide +kernel
theorem dX8_isPair_9 : decode cX8_isPair 9 = .ok (.iload_n 1, 1) := by decide +kernel
theorem dX8_isPair_10 : decode cX8_isPair 10 = .ok (.bipush 8, 2) := by decide +kernel
theorem dX8_isPair_12 : decode cX8_isPair 12 = .ok (.invokestatic 77, 3) := by decide +kernel
theorem dX8_isPair_15 : decode cX8_isPair 15 = .ok (.ifCond .eq 7, 3) := by decide +kernel
theorem dX8_isPair_18 : decode cX8_isPair 18 = .ok (.iconst 1, 1) := by decide +kernel
theorem dX8_isPair_19 : decode cX8_isPair 19 = .ok (.goto 4, 3) := by decide +kernel
theorem dX8_isPair_22 : decode cX8_isPair 22 = .ok (.iconst 0, 1) := by decide +kernel
theorem dX8_isPair_23 : decode cX8_isPair 23 = .ok (.ireturn, 1) := by decide +kernel
theorem dX8_pairOf_0 : decode cX8_pairOf 0 = .ok (.iload_n 0, 1) := by decide +kernel
theorem dX8_pairOf_1 : decode cX8_pairOf 1 = .ok (.bipush 8, 2) := by decide +kernel
theorem dX8_pairOf_3 : decode cX8_pairOf 3 = .ok (.imul, 1) := by decide +kernel
theorem dX8_pairOf_4 : decode cX8_pairOf 4 = .ok (.iload_n 1, 1) := by decide +kernel
theorem dX8_pairOf_5 : decode cX8_pairOf 5 = .ok (.iadd, 1) := by decide +kernel
theorem dX8_pairOf_6 : decode cX8_pairOf 6 = .ok (.ireturn, 1) := by decide +kernel
theorem dX8_holds_0 : decode cX8_holds 0 = .ok (.lload_n 0, 1) := by decide +kernel
theorem dX8_holds_1 : decode cX8_holds 1 = .ok (.iload_n 2, 1) := by decide +kernel
theorem dX8_holds_2 : decode cX8_holds 2 = .ok (.lushr, 1) := by decide +kernel
theorem dX8_holds_3 : decode cX8_holds 3 = .ok (.lconst 1, 1) := by decide +kernel
theorem dX8_holds_4 : decode cX8_holds 4 = .ok (.land, 1) := by decide +kernel
theorem dX8_holds_5 : decode cX8_holds 5 = .ok (.lconst 0, 1) := by decide +kernel
theorem dX8_holds_6 : decode cX8_holds 6 = .ok (.lcmp, 1) := by decide +kernel
theorem dX8_holds_7 : decode cX8_holds 7 = .ok (.ifCond .eq 7, 3) := by decide +kernel
theorem dX8_holds_10 : decode cX8_holds 10 = .ok (.iconst 1, 1) := by decide +kernel
theorem dX8_holds_11 : decode cX8_holds 11 = .ok (.goto 4, 3) := by decide +kernel
theorem dX8_holds_14 : decode cX8_holds 14 = .ok (.iconst 0, 1) := by decide +kernel
theorem dX8_holds_15 : decode cX8_holds 15 = .ok (.ireturn, 1) := by decide +kernel
set_option maxRecDepth 20000 in
theorem ggX8_pairsOf_X8_pairOf : GoodIn wsX8_pairsOf wsX8_pairOf := goodIn_r _ [5] (by decide +kernel) (by decide +kernel)
set_option maxRecDepth 20000 in
theorem gX8_pairsOf_X8_pairOf : GoodIn wsX8_pairsOf (va_wsS RX8 80 yX8_pairOf wsX8_pairOf) := goodIn_app (goodIn_of _ (by decide +kernel)) ggX8_pairsOf_X8_pairOf
theorem dX8_pairsOf_0 : decode cX8_pairsOf 0 = .ok (.ldc2_w 216, 3) := by decide +kernel
theorem dX8_pairsOf_3 : decode cX8_pairsOf 3 = .ok (.iload_n 0, 1) := by decide +kernel
theorem dX8_pairsOf_4 : decode cX8_pairsOf 4 = .ok (.iconst 0, 1) := by decide +kernel
theorem dX8_pairsOf_5 : decode cX8_pairsOf 5 = .ok (.invokestatic 80, 3) := by decide +kernel
theorem dX8_pairsOf_8 : decode cX8_pairsOf 8 = .ok (.lshl, 1) := by decide +kernel
theorem dX8_pairsOf_9 : decode cX8_pairsOf 9 = .ok (.lreturn, 1) := by decide +kernel
set_option maxRecDepth 20000 in
theorem ggX8_isRowOfChoices_X8_within : GoodIn wsX8_isRowOfChoices wsX8_within := goodIn_r _ [4] (by decide +kernel) (by decide +kernel)
set_option maxRecDepth 20000 in
theorem gX8_isRowOfChoices_X8_within : GoodIn wsX8_isRowOfChoices (va_wsS RX8 77 yX8_within wsX8_within) := goodIn_app (goodIn_of _ (by decide +kernel)) ggX8_isRowOfChoices_X8_within
theorem dX8_isRowOfChoices_0 : decode cX8_isRowOfChoices 0 = .ok (.iload_n 0, 1) := by decide +kernel
theorem dX8_isRowOfChoices_1 : decode cX8_isRowOfChoices 1 = .ok (.bipush 8, 2) := by decide +kernel
theorem dX8_isRowOfChoices_3 : decode cX8_isRowOfChoices 3 = .ok (.invokestatic 77, 3) := by decide +kernel
theorem dX8_isRowOfChoices_6 : decode cX8_isRowOfChoices 6 = .ok (.ifCond .ne 5, 3) := by decide +kernel
theorem dX8_isRowOfChoices_9 : decode cX8_isRowOfChoices 9 = .ok (.iconst 0, 1) := by decide +kernel
theorem dX8_isRowOfChoices_10 : decode cX8_isRowOfChoices 10 = .ok (.ireturn, 1) := by decide +kernel
theorem dX8_isRowOfChoices_11 : decode cX8_isRowOfChoices 11 = .ok (.iload_n 1, 1) := by decide +kernel
theorem dX8_isRowOfChoices_12 : decode cX8_isRowOfChoices 12 = .ok (.iconst (-1), 1) := by decide +kernel
theorem dX8_isRowOfChoices_13 : decode cX8_isRowOfChoices 13 = .ok (.if_icmp .ne 14, 3) := by decide +kernel
theorem dX8_isRowOfChoices_16 : decode cX8_isRowOfChoices 16 = .ok (.iload_n 2, 1) := by decide +kernel
theorem dX8_isRowOfChoices_17 : decode cX8_isRowOfChoices 17 = .ok (.iconst (-1), 1) := by decide +kernel
theorem dX8_isRowOfChoices_18 : decode cX8_isRowOfChoices 18 = .ok (.if_icmp .ne 7, 3) := by decide +kernel
theorem dX8_isRowOfChoices_21 : decode cX8_isRowOfChoices 21 = .ok (.iconst 1, 1) := by decide +kernel
theorem dX8_isRowOfChoices_22 : decode cX8_isRowOfChoices 22 = .ok (.goto 4, 3) := by decide +kernel
theorem dX8_isRowOfChoices_25 : decode cX8_isRowOfChoices 25 = .ok (.iconst 0, 1) := by decide +kernel
theorem dX8_isRowOfChoices_26 : decode cX8_isRowOfChoices 26 = .ok (.ireturn, 1) := by decide +kernel
theorem dX8_isRowOfChoices_27 : decode cX8_isRowOfChoices 27 = .ok (.iload_n 1, 1) := by decide +kernel
theorem dX8_isRowOfChoices_28 : decode cX8_isRowOfChoices 28 = .ok (.bipush 8, 2) := by decide +kernel
theorem dX8_isRowOfChoices_30 : decode cX8_isRowOfChoices 30 = .ok (.invokestatic 77, 3) := by decide +kernel
theorem dX8_isRowOfChoices_33 : decode cX8_isRowOfChoices 33 = .ok (.ifCond .eq 8, 3) := by decide +kernel
theorem dX8_isRowOfChoices_36 : decode cX8_isRowOfChoices 36 = .ok (.iload_n 0, 1) := by decide +kernel
theorem dX8_isRowOfChoices_37 : decode cX8_isRowOfChoices 37 = .ok (.iload_n 1, 1) := by decide +kernel
theorem dX8_isRowOfChoices_38 : decode cX8_isRowOfChoices 38 = .ok (.if_icmp .ne 5, 3) := by decide +kernel
theorem dX8_isRowOfChoices_41 : decode cX8_isRowOfChoices 41 = .ok (.iconst 0, 1) := by decide +kernel
theorem dX8_isRowOfChoices_42 : decode cX8_isRowOfChoices 42 = .ok (.ireturn, 1) := by decide +kernel
theorem dX8_isRowOfChoices_43 : decode cX8_isRowOfChoices 43 = .ok (.iload_n 2, 1) := by decide +kernel
theorem dX8_isRowOfChoices_44 : decode cX8_isRowOfChoices 44 = .ok (.iconst (-1), 1) := by decide +kernel
theorem dX8_isRowOfChoices_45 : decode cX8_isRowOfChoices 45 = .ok (.if_icmp .eq 22, 3) := by decide +kernel
theorem dX8_isRowOfChoices_48 : decode cX8_isRowOfChoices 48 = .ok (.iload_n 2, 1) := by decide +kernel
theorem dX8_isRowOfChoices_49 : decode cX8_isRowOfChoices 49 = .ok (.bipush 8, 2) := by decide +kernel
theorem dX8_isRowOfChoices_51 : decode cX8_isRowOfChoices 51 = .ok (.invokestatic 77, 3) := by decide +kernel
theorem dX8_isRowOfChoices_54 : decode cX8_isRowOfChoices 54 = .ok (.ifCond .eq 17, 3) := by decide +kernel
theorem dX8_isRowOfChoices_57 : decode cX8_isRowOfChoices 57 = .ok (.iload_n 2, 1) := by decide +kernel
theorem dX8_isRowOfChoices_58 : decode cX8_isRowOfChoices 58 = .ok (.iload_n 0, 1) := by decide +kernel
theorem dX8_isRowOfChoices_59 : decode cX8_isRowOfChoices 59 = .ok (.if_icmp .eq 12, 3) := by decide +kernel
theorem dX8_isRowOfChoices_62 : decode cX8_isRowOfChoices 62 = .ok (.iload_n 2, 1) := by decide +kernel
theorem dX8_isRowOfChoices_63 : decode cX8_isRowOfChoices 63 = .ok (.iload_n 1, 1) := by decide +kernel
theorem dX8_isRowOfChoices_64 : decode cX8_isRowOfChoices 64 = .ok (.if_icmp .eq 7, 3) := by decide +kernel
theorem dX8_isRowOfChoices_67 : decode cX8_isRowOfChoices 67 = .ok (.iconst 1, 1) := by decide +kernel
theorem dX8_isRowOfChoices_68 : decode cX8_isRowOfChoices 68 = .ok (.goto 4, 3) := by decide +kernel
theorem dX8_isRowOfChoices_71 : decode cX8_isRowOfChoices 71 = .ok (.iconst 0, 1) := by decide +kernel
theorem dX8_isRowOfChoices_72 : decode cX8_isRowOfChoices 72 = .ok (.ireturn, 1) := by decide +kernel
set_option maxRecDepth 20000 in
theorem ggX8_memberAt_X8_holds : GoodIn wsX8_memberAt wsX8_holds := goodIn_r _ [4] (by decide +kernel) (by decide +kernel)
set_option maxRecDepth 20000 in
theorem gX8_memberAt_X8_holds : GoodIn wsX8_memberAt (va_wsS RX8 130 yX8_holds wsX8_holds) := goodIn_app (goodIn_of _ (by decide +kernel)) ggX8_memberAt_X8_holds
theorem dX8_memberAt_0 : decode cX8_memberAt 0 = .ok (.iconst 0, 1) := by decide +kernel
theorem dX8_memberAt_1 : decode cX8_memberAt 1 = .ok (.istore_n 2, 1) := by decide +kernel
theorem dX8_memberAt_2 : decode cX8_memberAt 2 = .ok (.iconst 0, 1) := by decide +kernel
theorem dX8_memberAt_3 : decode cX8_memberAt 3 = .ok (.istore_n 3, 1) := by decide +kernel
theorem dX8_memberAt_4 : decode cX8_memberAt 4 = .ok (.iload_n 3, 1) := by decide +kernel
theorem dX8_memberAt_5 : decode cX8_memberAt 5 = .ok (.bipush 24, 2) := by decide +kernel
theorem dX8_memberAt_7 : decode cX8_memberAt 7 = .ok (.if_icmp .ge 28, 3) := by decide +kernel
theorem dX8_memberAt_10 : decode cX8_memberAt 10 = .ok (.iload_n 0, 1) := by decide +kernel
theorem dX8_memberAt_11 : decode cX8_memberAt 11 = .ok (.i2l, 1) := by decide +kernel
theorem dX8_memberAt_12 : decode cX8_memberAt 12 = .ok (.iload_n 3, 1) := by decide +kernel
theorem dX8_memberAt_13 : decode cX8_memberAt 13 = .ok (.invokestatic 130, 3) := by decide +kernel
theorem dX8_memberAt_16 : decode cX8_memberAt 16 = .ok (.ifCond .eq 13, 3) := by decide +kernel
theorem dX8_memberAt_19 : decode cX8_memberAt 19 = .ok (.iload_n 2, 1) := by decide +kernel
theorem dX8_memberAt_20 : decode cX8_memberAt 20 = .ok (.iload_n 1, 1) := by decide +kernel
theorem dX8_memberAt_21 : decode cX8_memberAt 21 = .ok (.if_icmp .ne 5, 3) := by decide +kernel
theorem dX8_memberAt_24 : decode cX8_memberAt 24 = .ok (.iload_n 3, 1) := by decide +kernel
theorem dX8_memberAt_25 : decode cX8_memberAt 25 = .ok (.ireturn, 1) := by decide +kernel
theorem dX8_memberAt_26 : decode cX8_memberAt 26 = .ok (.iinc 2 1, 3) := by decide +kernel
theorem dX8_memberAt_29 : decode cX8_memberAt 29 = .ok (.iinc 3 1, 3) := by decide +kernel
theorem dX8_memberAt_32 : decode cX8_memberAt 32 = .ok (.goto (-28), 3) := by decide +kernel
theorem dX8_memberAt_35 : decode cX8_memberAt 35 = .ok (.iconst (-1), 1) := by decide +kernel
theorem dX8_memberAt_36 : decode cX8_memberAt 36 = .ok (.ireturn, 1) := by decide +kernel
theorem dX9_init_0 : decode cX9_init 0 = .ok (.aload_n 0, 1) := by decide +kernel
theorem dX9_init_1 : decode cX9_init 1 = .ok (.invokespecial 1, 3) := by decide +kernel
theorem dX9_init_4 : decode cX9_init 4 = .ok (.aload_n 0, 1) := by decide +kernel
theorem dX9_init_5 : decode cX9_init 5 = .ok (.bipush 32, 2) := by decide +kernel
theorem dX9_init_7 : decode cX9_init 7 = .ok (.newarray .int, 2) := by decide +kernel
theorem dX9_init_9 : decode cX9_init 9 = .ok (.putfield 7, 3) := by decide +kernel
theorem dX9_init_12 : decode cX9_init 12 = .ok (.aload_n 0, 1) := by decide +kernel
theorem dX9_init_13 : decode cX9_init 13 = .ok (.iconst 4, 1) := by decide +kernel
theorem dX9_init_14 : decode cX9_init 14 = .ok (.newarray .long, 2) := by decide +kernel
theorem dX9_init_16 : decode cX9_init 16 = .ok (.putfield 13, 3) := by decide +kernel
theorem dX9_init_19 : decode cX9_init 19 = .ok (.aload_n 0, 1) := by decide +kernel
theorem dX9_init_20 : decode cX9_init 20 = .ok (.bipush 8, 2) := by decide +kernel
theorem dX9_init_22 : decode cX9_init 22 = .ok (.newarray .int, 2) := by decide +kernel
theorem dX9_init_24 : decode cX9_init 24 = .ok (.putfield 17, 3) := by decide +kernel
theorem dX9_init_27 : decode cX9_init 27 = .ok (.aload_n 0, 1) := by decide +kernel
theorem dX9_init_28 : decode cX9_init 28 = .ok (.bipush 72, 2) := by decide +kernel
theorem dX9_init_30 : decode cX9_init 30 = .ok (.newarray .int, 2) := by decide +kernel
theorem dX9_init_32 : decode cX9_init 32 = .ok (.putfield 20, 3) := by decide +kernel
theorem dX9_init_35 : decode cX9_init 35 = .ok (.aload_n 0, 1) := by decide +kernel
theorem dX9_init_36 : decode cX9_init 36 = .ok (.bipush 24, 2) := by decide +kernel
theorem dX9_init_38 : decode cX9_init 38 = .ok (.newarray .int, 2) := by decide +kernel
theorem dX9_init_40 : decode cX9_init 40 = .ok (.putfield 23, 3) := by decide +kernel
theorem dX9_init_43 : decode cX9_init 43 = .ok (.aload_n 0, 1) := by decide +kernel
theorem dX9_init_44 : decode cX9_init 44 = .ok (.bipush 24, 2) := by decide +kernel
theorem dX9_init_46 : decode cX9_init 46 = .ok (.newarray .int, 2) := by decide +kernel
theorem dX9_init_48 : decode cX9_init 48 = .ok (.putfield 26, 3) := by decide +kernel
theorem dX9_init_51 : decode cX9_init 51 = .ok (.aload_n 0, 1) := by decide +kernel
theorem dX9_init_52 : decode cX9_init 52 = .ok (.bipush 24, 2) := by decide +kernel
theorem dX9_init_54 : decode cX9_init 54 = .ok (.newarray .long, 2) := by decide +kernel
theorem dX9_init_56 : decode cX9_init 56 = .ok (.putfield 29, 3) := by decide +kernel
theorem dX9_init_59 : decode cX9_init 59 = .ok (.aload_n 0, 1) := by decide +kernel
theorem dX9_init_60 : decode cX9_init 60 = .ok (.bipush 40, 2) := by decide +kernel
theorem dX9_init_62 : decode cX9_init 62 = .ok (.newarray .int, 2) := by decide +kernel
theorem dX9_init_64 : decode cX9_init 64 = .ok (.putfield 32, 3) := by decide +kernel
theorem dX9_init_67 : decode cX9_init 67 = .ok (.aload_n 0, 1) := by decide +kernel
theorem dX9_init_68 : decode cX9_init 68 = .ok (.bipush 40, 2) := by decide +kernel
theorem dX9_init_70 : decode cX9_init 70 = .ok (.newarray .int, 2) := by decide +kernel
theorem dX9_init_72 : decode cX9_init 72 = .ok (.putfield 35, 3) := by decide +kernel
theorem dX9_init_75 : decode cX9_init 75 = .ok (.aload_n 0, 1) := by decide +kernel
theorem dX9_init_76 : decode cX9_init 76 = .ok (.bipush 40, 2) := by decide +kernel
theorem dX9_init_78 : decode cX9_init 78 = .ok (.newarray .int, 2) := by decide +kernel
theorem dX9_init_80 : decode cX9_init 80 = .ok (.putfield 38, 3) := by decide +kernel
theorem dX9_init_83 : decode cX9_init 83 = .ok (.aload_n 0, 1) := by decide +kernel
theorem dX9_init_84 : decode cX9_init 84 = .ok (.bipush 40, 2) := by decide +kernel
theorem dX9_init_86 : decode cX9_init 86 = .ok (.newarray .boolean, 2) := by decide +kernel
theorem dX9_init_88 : decode cX9_init 88 = .ok (.putfield 41, 3) := by decide +kernel
theorem dX9_init_91 : decode cX9_init 91 = .ok (.aload_n 0, 1) := by decide +kernel
theorem dX9_init_92 : decode cX9_init 92 = .ok (.bipush 10, 2) := by decide +kernel
theorem dX9_init_94 : decode cX9_init 94 = .ok (.newarray .int, 2) := by decide +kernel
theorem dX9_init_96 : decode cX9_init 96 = .ok (.putfield 45, 3) := by decide +kernel
theorem dX9_init_99 : decode cX9_init 99 = .ok (.aload_n 0, 1) := by decide +kernel
theorem dX9_init_100 : decode cX9_init 100 = .ok (.bipush 10, 2) := by decide +kernel
theorem dX9_init_102 : decode cX9_init 102 = .ok (.newarray .int, 2) := by decide +kernel
theorem dX9_init_104 : decode cX9_init 104 = .ok (.putfield 48, 3) := by decide +kernel
theorem dX9_init_107 : decode cX9_init 107 = .ok (.aload_n 0, 1) := by decide +kernel
theorem dX9_init_108 : decode cX9_init 108 = .ok (.bipush 10, 2) := by decide +kernel
theorem dX9_init_110 : decode cX9_init 110 = .ok (.newarray .int, 2) := by decide +kernel
theorem dX9_init_112 : decode cX9_init 112 = .ok (.putfield 51, 3) := by decide +kernel
theorem dX9_init_115 : decode cX9_init 115 = .ok (.aload_n 0, 1) := by decide +kernel
theorem dX9_init_116 : decode cX9_init 116 = .ok (.bipush 10, 2) := by decide +kernel
theorem dX9_init_118 : decode cX9_init 118 = .ok (.newarray .int, 2) := by decide +kernel
theorem dX9_init_120 : decode cX9_init 120 = .ok (.putfield 54, 3) := by decide +kernel
theorem dX9_init_123 : decode cX9_init 123 = .ok (.aload_n 0, 1) := by decide +kernel
theorem dX9_init_124 : decode cX9_init 124 = .ok (.bipush 24, 2) := by decide +kernel
theorem dX9_init_126 : decode cX9_init 126 = .ok (.newarray .boolean, 2) := by decide +kernel
theorem dX9_init_128 : decode cX9_init 128 = .ok (.putfield 57, 3) := by decide +kernel
theorem dX9_init_131 : decode cX9_init 131 = .ok (.aload_n 0, 1) := by decide +kernel
theorem dX9_init_132 : decode cX9_init 132 = .ok (.bipush 40, 2) := by decide +kernel
theorem dX9_init_134 : decode cX9_init 134 = .ok (.newarray .boolean, 2) := by decide +kernel
theorem dX9_init_136 : decode cX9_init 136 = .ok (.putfield 60, 3) := by decide +kernel
theorem dX9_init_139 : decode cX9_init 139 = .ok (.aload_n 0, 1) := by decide +kernel
theorem dX9_init_140 : decode cX9_init 140 = .ok (.bipush 24, 2) := by decide +kernel
theorem dX9_init_142 : decode cX9_init 142 = .ok (.newarray .int, 2) := by decide +kernel
theorem dX9_init_144 : decode cX9_init 144 = .ok (.putfield 63, 3) := by decide +kernel
theorem dX9_init_147 : decode cX9_init 147 = .ok (.aload_n 0, 1) := by decide +kernel
theorem dX9_init_148 : decode cX9_init 148 = .ok (.bipush 24, 2) := by decide +kernel
theorem dX9_init_150 : decode cX9_init 150 = .ok (.newarray .long, 2) := by decide +kernel
theorem dX9_init_152 : decode cX9_init 152 = .ok (.putfield 66, 3) := by decide +kernel
theorem dX9_init_155 : decode cX9_init 155 = .ok (.aload_n 0, 1) := by decide +kernel
theorem dX9_init_156 : decode cX9_init 156 = .ok (.bipush 40, 2) := by decide +kernel
theorem dX9_init_158 : decode cX9_init 158 = .ok (.newarray .int, 2) := by decide +kernel
theorem dX9_init_160 : decode cX9_init 160 = .ok (.putfield 69, 3) := by decide +kernel
theorem dX9_init_163 : decode cX9_init 163 = .ok (.aload_n 0, 1) := by decide +kernel
theorem dX9_init_164 : decode cX9_init 164 = .ok (.bipush 24, 2) := by decide +kernel
theorem dX9_init_166 : decode cX9_init 166 = .ok (.newarray .int, 2) := by decide +kernel
theorem dX9_init_168 : decode cX9_init 168 = .ok (.putfield 72, 3) := by decide +kernel
theorem dX9_init_171 : decode cX9_init 171 = .ok (.aload_n 0, 1) := by decide +kernel
theorem dX9_init_172 : decode cX9_init 172 = .ok (.bipush 24, 2) := by decide +kernel
theorem dX9_init_174 : decode cX9_init 174 = .ok (.newarray .int, 2) := by decide +kernel
theorem dX9_init_176 : decode cX9_init 176 = .ok (.putfield 75, 3) := by decide +kernel
theorem dX9_init_179 : decode cX9_init 179 = .ok (.aload_n 0, 1) := by decide +kernel
theorem dX9_init_180 : decode cX9_init 180 = .ok (.bipush 24, 2) := by decide +kernel
theorem dX9_init_182 : decode cX9_init 182 = .ok (.newarray .int, 2) := by decide +kernel
theorem dX9_init_184 : decode cX9_init 184 = .ok (.putfield 78, 3) := by decide +kernel
theorem dX9_init_187 : decode cX9_init 187 = .ok (.aload_n 0, 1) := by decide +kernel
theorem dX9_init_188 : decode cX9_init 188 = .ok (.bipush 24, 2) := by decide +kernel
theorem dX9_init_190 : decode cX9_init 190 = .ok (.newarray .int, 2) := by decide +kernel
theorem dX9_init_192 : decode cX9_init 192 = .ok (.putfield 81, 3) := by decide +kernel
theorem dX9_init_195 : decode cX9_init 195 = .ok (.aload_n 0, 1) := by decide +kernel
theorem dX9_init_196 : decode cX9_init 196 = .ok (.bipush 24, 2) := by decide +kernel
theorem dX9_init_198 : decode cX9_init 198 = .ok (.newarray .long, 2) := by decide +kernel
theorem dX9_init_200 : decode cX9_init 200 = .ok (.putfield 84, 3) := by decide +kernel
theorem dX9_init_203 : decode cX9_init 203 = .ok (.return_, 1) := by decide +kernel
theorem dX9_lies_0 : decode cX9_lies 0 = .ok (.iload_n 0, 1) := by decide +kernel
theorem dX9_lies_1 : decode cX9_lies 1 = .ok (.iload_n 1, 1) := by decide +kernel
theorem dX9_lies_2 : decode cX9_lies 2 = .ok (.if_icmp .lt 12, 3) := by decide +kernel
theorem dX9_lies_5 : decode cX9_lies 5 = .ok (.iload_n 0, 1) := by decide +kernel
theorem dX9_lies_6 : decode cX9_lies 6 = .ok (.iload_n 2, 1) := by decide +kernel
theorem dX9_lies_7 : decode cX9_lies 7 = .ok (.if_icmp .gt 7, 3) := by decide +kernel
theorem dX9_lies_10 : decode cX9_lies 10 = .ok (.iconst 1, 1) := by decide +kernel
theorem dX9_lies_11 : decode cX9_lies 11 = .ok (.goto 4, 3) := by decide +kernel
theorem dX9_lies_14 : decode cX9_lies 14 = .ok (.iconst 0, 1) := by decide +kernel
theorem dX9_lies_15 : decode cX9_lies 15 = .ok (.ireturn, 1) := by decide +kernel
set_option maxRecDepth 20000 in
theorem ggX9_isPart_X9_lies : GoodIn wsX9_isPart wsX9_lies := goodIn_r _ [5] (by decide +kernel) (by decide +kernel)
set_option maxRecDepth 20000 in
theorem gX9_isPart_X9_lies : GoodIn wsX9_isPart (va_wsS RX9 91 yX9_lies wsX9_lies) := goodIn_app (goodIn_of _ (by decide +kernel)) ggX9_isPart_X9_lies
theorem dX9_isPart_0 : decode cX9_isPart 0 = .ok (.iload_n 1, 1) := by decide +kernel
theorem dX9_isPart_1 : decode cX9_isPart 1 = .ok (.iconst 0, 1) := by decide +kernel
theorem dX9_isPart_2 : decode cX9_isPart 2 = .ok (.aload_n 0, 1) := by decide +kernel
theorem dX9_isPart_3 : decode cX9_isPart 3 = .ok (.getfield 87, 3) := by decide +kernel
theorem dX9_isPart_6 : decode cX9_isPart 6 = .ok (.iconst 1, 1) := by decide +kernel
theorem dX9_isPart_7 : decode cX9_isPart 7 = .ok (.isub, 1) := by decide +kernel
theorem dX9_isPart_8 : decode cX9_isPart 8 = .ok (.invokestatic 91, 3) := by decide +kernel
theorem dX9_isPart_11 : decode cX9_isPart 11 = .ok (.ireturn, 1) := by decide +kernel
set_option maxRecDepth 20000 in
theorem ggX9_isLicence_X9_lies : GoodIn wsX9_isLicence wsX9_lies := goodIn_r _ [4] (by decide +kernel) (by decide +kernel)
set_option maxRecDepth 20000 in
theorem gX9_isLicence_X9_lies : GoodIn wsX9_isLicence (va_wsS RX9 91 yX9_lies wsX9_lies) := goodIn_app (goodIn_of _ (by decide +kernel)) ggX9_isLicence_X9_lies
theorem dX9_isLicence_0 : decode cX9_isLicence 0 = .ok (.iload_n 0, 1) := by decide +kernel
theorem dX9_isLicence_1 : decode cX9_isLicence 1 = .ok (.iconst 0, 1) := by decide +kernel
theorem dX9_isLicence_2 : decode cX9_isLicence 2 = .ok (.bipush 7, 2) := by decide +kernel
theorem dX9_isLicence_4 : decode cX9_isLicence 4 = .ok (.invokestatic 91, 3) := by decide +kernel
theorem dX9_isLicence_7 : decode cX9_isLicence 7 = .ok (.ireturn, 1) := by decide +kernel
set_option maxRecDepth 20000 in
theorem ggX9_isShipping_X9_lies : GoodIn wsX9_isShipping wsX9_lies := goodIn_r _ [4] (by decide +kernel) (by decide +kernel)
set_option maxRecDepth 20000 in
theorem gX9_isShipping_X9_lies : GoodIn wsX9_isShipping (va_wsS RX9 91 yX9_lies wsX9_lies) := goodIn_app (goodIn_of _ (by decide +kernel)) ggX9_isShipping_X9_lies
theorem dX9_isShipping_0 : decode cX9_isShipping 0 = .ok (.iload_n 0, 1) := by decide +kernel
theorem dX9_isShipping_1 : decode cX9_isShipping 1 = .ok (.iconst 0, 1) := by decide +kernel
theorem dX9_isShipping_2 : decode cX9_isShipping 2 = .ok (.iconst 3, 1) := by decide +kernel
theorem dX9_isShipping_3 : decode cX9_isShipping 3 = .ok (.invokestatic 91, 3) := by decide +kernel
theorem dX9_isShipping_6 : decode cX9_isShipping 6 = .ok (.ireturn, 1) := by decide +kernel
theorem dX9_bit_0 : decode cX9_bit 0 = .ok (.lconst 1, 1) := by decide +kernel
theorem dX9_bit_1 : decode cX9_bit 1 = .ok (.bipush 8, 2) := by decide +kernel
theorem dX9_bit_3 : decode cX9_bit 3 = .ok (.iload_n 0, 1) := by decide +kernel
theorem dX9_bit_4 : decode cX9_bit 4 = .ok (.imul, 1) := by decide +kernel
theorem dX9_bit_5 : decode cX9_bit 5 = .ok (.iload_n 1, 1) := by decide +kernel
theorem dX9_bit_6 : decode cX9_bit 6 = .ok (.iadd, 1) := by decide +kernel
theorem dX9_bit_7 : decode cX9_bit 7 = .ok (.lshl, 1) := by decide +kernel
theorem dX9_bit_8 : decode cX9_bit 8 = .ok (.lreturn, 1) := by decide +kernel
set_option maxRecDepth 20000 in
theorem ggX9_asks_X9_isLicence : GoodIn wsX9_asks wsX9_isLicence := goodIn_r _ [7, 8, 9, 6, 10] (by decide +kernel) (by decide +kernel)
set_option maxRecDepth 20000 in
theorem gX9_asks_X9_isLicence : GoodIn wsX9_asks (va_wsS RX9 95 yX9_isLicence wsX9_isLicence) := goodIn_app (goodIn_of _ (by decide +kernel)) ggX9_asks_X9_isLicence
set_option maxRecDepth 20000 in
theorem ggX9_asks_X9_lies : GoodIn wsX9_asks wsX9_lies := goodIn_r _ [10] (by decide +kernel) (by decide +kernel)
set_option maxRecDepth 20000 in
theorem gX9_asks_X9_lies : GoodIn wsX9_asks (va_wsS RX9 91 yX9_lies wsX9_lies) := goodIn_app (goodIn_of _ (by decide +kernel)) ggX9_asks_X9_lies
set_option maxRecDepth 20000 in
theorem ggX9_asks_X9_bit : GoodIn wsX9_asks wsX9_bit := goodIn_r _ [13] (by decide +kernel) (by decide +kernel)
set_option maxRecDepth 20000 in
theorem gX9_asks_X9_bit : GoodIn wsX9_asks (va_wsS RX9 99 yX9_bit wsX9_bit) := goodIn_app (goodIn_of _ (by decide +kernel)) ggX9_asks_X9_bit
theorem dX9_asks_0 : decode cX9_asks 0 = .ok (.iload_n 1, 1) := by decide +kernel
theorem dX9_asks_1 : decode cX9_asks 1 = .ok (.invokestatic 95, 3) := by decide +kernel
theorem dX9_asks_4 : decode cX9_asks 4 = .ok (.ifCond .eq 34, 3) := by decide +kernel
theorem dX9_asks_7 : decode cX9_asks 7 = .ok (.iload_n 2, 1) := by decide +kernel
theorem dX9_asks_8 : decode cX9_asks 8 = .ok (.iconst 0, 1) := by decide +kernel
theorem dX9_asks_9 : decode cX9_asks 9 = .ok (.bipush 7, 2) := by decide +kernel
theorem dX9_asks_11 : decode cX9_asks 11 = .ok (.invokestatic 91, 3) := by decide +kernel
theorem dX9_asks_14 : decode cX9_asks 14 = .ok (.ifCond .eq 24, 3) := by decide +kernel
theorem dX9_asks_17 : decode cX9_asks 17 = .ok (.iload_n 3, 1) := by decide +kernel
theorem dX9_asks_18 : decode cX9_asks 18 = .ok (.iconst 0, 1) := by decide +kernel
theorem dX9_asks_19 : decode cX9_asks 19 = .ok (.bipush 15, 2) := by decide +kernel
theorem dX9_asks_21 : decode cX9_asks 21 = .ok (.invokestatic 91, 3) := by decide +kernel
theorem dX9_asks_24 : decode cX9_asks 24 = .ok (.ifCond .eq 14, 3) := by decide +kernel
theorem dX9_asks_27 : decode cX9_asks 27 = .ok (.iload 4, 2) := by decide +kernel
theorem dX9_asks_29 : decode cX9_asks 29 = .ok (.iconst 0, 1) := by decide +kernel
theorem dX9_asks_30 : decode cX9_asks 30 = .ok (.bipush 15, 2) := by decide +kernel
theorem dX9_asks_32 : decode cX9_asks 32 = .ok (.invokestatic 91, 3) := by decide +kernel
theorem dX9_asks_35 : decode cX9_asks 35 = .ok (.ifCond .ne 5, 3) := by decide +kernel
theorem dX9_asks_38 : decode cX9_asks 38 = .ok (.iconst 0, 1) := by decide +kernel
theorem dX9_asks_39 : decode cX9_asks 39 = .ok (.ireturn, 1) := by decide +kernel
theorem dX9_asks_40 : decode cX9_asks 40 = .ok (.iconst 0, 1) := by decide +kernel
theorem dX9_asks_41 : decode cX9_asks 41 = .ok (.istore 5, 2) := by decide +kernel
theorem dX9_asks_43 : decode cX9_asks 43 = .ok (.iload 5, 2) := by decide +kernel
theorem dX9_asks_45 : decode cX9_asks 45 = .ok (.iconst 4, 1) := by decide +kernel
theorem dX9_asks_46 : decode cX9_asks 46 = .ok (.if_icmp .ge 100, 3) := by decide +kernel
theorem dX9_asks_49 : decode cX9_asks 49 = .ok (.aload_n 0, 1) := by decide +kernel
theorem dX9_asks_50 : decode cX9_asks 50 = .ok (.getfield 7, 3) := by decide +kernel
theorem dX9_asks_53 : decode cX9_asks 53 = .ok (.iconst 4, 1) := by decide +kernel
theorem dX9_asks_54 : decode cX9_asks 54 = .ok (.iload_n 1, 1) := by decide +kernel
theorem dX9_asks_55 : decode cX9_asks 55 = .ok (.imul, 1) := by decide +kernel
theorem dX9_asks_56 : decode cX9_asks 56 = .ok (.iload 5, 2) := by decide +kernel
theorem dX9_asks_58 : decode cX9_asks 58 = .ok (.iadd, 1) := by decide +kernel
theorem dX9_asks_59 : decode cX9_asks 59 = .ok (.dup2, 1) := by decide +kernel
theorem dX9_asks_60 : decode cX9_asks 60 = .ok (.iaload, 1) := by decide +kernel
theorem dX9_asks_61 : decode cX9_asks 61 = .ok (.iconst 1, 1) := by decide +kernel
theorem dX9_asks_62 : decode cX9_asks 62 = .ok (.iload_n 2, 1) := by decide +kernel
theorem dX9_asks_63 : decode cX9_asks 63 = .ok (.ishl, 1) := by decide +kernel
theorem dX9_asks_64 : decode cX9_asks 64 = .ok (.iconst (-1), 1) := by decide +kernel
theorem dX9_asks_65 : decode cX9_asks 65 = .ok (.ixor, 1) := by decide +kernel
theorem dX9_asks_66 : decode cX9_asks 66 = .ok (.iand, 1) := by decide +kernel
theorem dX9_asks_67 : decode cX9_asks 67 = .ok (.iastore, 1) := by decide +kernel
theorem dX9_asks_68 : decode cX9_asks 68 = .ok (.iload_n 3, 1) := by decide +kernel
theorem dX9_asks_69 : decode cX9_asks 69 = .ok (.iload 5, 2) := by decide +kernel
theorem dX9_asks_71 : decode cX9_asks 71 = .ok (.ishr, 1) := by decide +kernel
theorem dX9_asks_72 : decode cX9_asks 72 = .ok (.iconst 1, 1) := by decide +kernel
theorem dX9_asks_73 : decode cX9_asks 73 = .ok (.iand, 1) := by decide +kernel
theorem dX9_asks_74 : decode cX9_asks 74 = .ok (.iconst 1, 1) := by decide +kernel
theorem dX9_asks_75 : decode cX9_asks 75 = .ok (.if_icmp .ne 20, 3) := by decide +kernel
theorem dX9_asks_78 : decode cX9_asks 78 = .ok (.aload_n 0, 1) := by decide +kernel
theorem dX9_asks_79 : decode cX9_asks 79 = .ok (.getfield 7, 3) := by decide +kernel
theorem dX9_asks_82 : decode cX9_asks 82 = .ok (.iconst 4, 1) := by decide +kernel
theorem dX9_asks_83 : decode cX9_asks 83 = .ok (.iload_n 1, 1) := by decide +kernel
theorem dX9_asks_84 : decode cX9_asks 84 = .ok (.imul, 1) := by decide +kernel
theorem dX9_asks_85 : decode cX9_asks 85 = .ok (.iload 5, 2) := by decide +kernel
theorem dX9_asks_87 : decode cX9_asks 87 = .ok (.iadd, 1) := by decide +kernel
theorem dX9_asks_88 : decode cX9_asks 88 = .ok (.dup2, 1) := by decide +kernel
theorem dX9_asks_89 : decode cX9_asks 89 = .ok (.iaload, 1) := by decide +kernel
theorem dX9_asks_90 : decode cX9_asks 90 = .ok (.iconst 1, 1) := by decide +kernel
theorem dX9_asks_91 : decode cX9_asks 91 = .ok (.iload_n 2, 1) := by decide +kernel
theorem dX9_asks_92 : decode cX9_asks 92 = .ok (.ishl, 1) := by decide +kernel
theorem dX9_asks_93 : decode cX9_asks 93 = .ok (.ior, 1) := by decide +kernel
theorem dX9_asks_94 : decode cX9_asks 94 = .ok (.iastore, 1) := by decide +kernel
theorem dX9_asks_95 : decode cX9_asks 95 = .ok (.aload_n 0, 1) := by decide +kernel
theorem dX9_asks_96 : decode cX9_asks 96 = .ok (.getfield 13, 3) := by decide +kernel
theorem dX9_asks_99 : decode cX9_asks 99 = .ok (.iload 5, 2) := by decide +kernel
theorem dX9_asks_101 : decode cX9_asks 101 = .ok (.dup2, 1) := by decide +kernel
theorem dX9_asks_102 : decode cX9_asks 102 = .ok (.laload, 1) := by decide +kernel
theorem dX9_asks_103 : decode cX9_asks 103 = .ok (.iload_n 1, 1) := by decide +kernel
theorem dX9_asks_104 : decode cX9_asks 104 = .ok (.iload_n 2, 1) := by decide +kernel
theorem dX9_asks_105 : decode cX9_asks 105 = .ok (.invokestatic 99, 3) := by decide +kernel
theorem dX9_asks_108 : decode cX9_asks 108 = .ok (.ldc2_w 103, 3) := by decide +kernel
theorem dX9_asks_111 : decode cX9_asks 111 = .ok (.lxor, 1) := by decide +kernel
theorem dX9_asks_112 : decode cX9_asks 112 = .ok (.land, 1) := by decide +kernel
theorem dX9_asks_113 : decode cX9_asks 113 = .ok (.lastore, 1) := by decide +kernel
theorem dX9_asks_114 : decode cX9_asks 114 = .ok (.iload 4, 2) := by decide +kernel
theorem dX9_asks_116 : decode cX9_asks 116 = .ok (.iload 5, 2) := by decide +kernel
theorem dX9_asks_118 : decode cX9_asks 118 = .ok (.ishr, 1) := by decide +kernel
theorem dX9_asks_119 : decode cX9_asks 119 = .ok (.iconst 1, 1) := by decide +kernel
theorem dX9_asks_120 : decode cX9_asks 120 = .ok (.iand, 1) := by decide +kernel
theorem dX9_asks_121 : decode cX9_asks 121 = .ok (.iconst 1, 1) := by decide +kernel
theorem dX9_asks_122 : decode cX9_asks 122 = .ok (.if_icmp .ne 18, 3) := by decide +kernel
theorem dX9_asks_125 : decode cX9_asks 125 = .ok (.aload_n 0, 1) := by decide +kernel
theorem dX9_asks_126 : decode cX9_asks 126 = .ok (.getfield 13, 3) := by decide +kernel
theorem dX9_asks_129 : decode cX9_asks 129 = .ok (.iload 5, 2) := by decide +kernel
theorem dX9_asks_131 : decode cX9_asks 131 = .ok (.dup2, 1) := by decide +kernel
theorem dX9_asks_132 : decode cX9_asks 132 = .ok (.laload, 1) := by decide +kernel
theorem dX9_asks_133 : decode cX9_asks 133 = .ok (.iload_n 1, 1) := by decide +kernel
theorem dX9_asks_134 : decode cX9_asks 134 = .ok (.iload_n 2, 1) := by decide +kernel
theorem dX9_asks_135 : decode cX9_asks 135 = .ok (.invokestatic 99, 3) := by decide +kernel
theorem dX9_asks_138 : decode cX9_asks 138 = .ok (.lor, 1) := by decide +kernel
theorem dX9_asks_139 : decode cX9_asks 139 = .ok (.lastore, 1) := by decide +kernel
theorem dX9_asks_140 : decode cX9_asks 140 = .ok (.iinc 5 1, 3) := by decide +kernel
theorem dX9_asks_143 : decode cX9_asks 143 = .ok (.goto (-100), 3) := by decide +kernel
theorem dX9_asks_146 : decode cX9_asks 146 = .ok (.iconst 1, 1) := by decide +kernel
theorem dX9_asks_147 : decode cX9_asks 147 = .ok (.ireturn, 1) := by decide +kernel
set_option maxRecDepth 20000 in
theorem ggX9_bars_X9_isLicence : GoodIn wsX9_bars wsX9_isLicence := goodIn_r _ [5, 6, 7, 4, 8] (by decide +kernel) (by decide +kernel)
set_option maxRecDepth 20000 in
theorem gX9_bars_X9_isLicence : GoodIn wsX9_bars (va_wsS RX9 95 yX9_isLicence wsX9_isLicence) := goodIn_app (goodIn_of _ (by decide +kernel)) ggX9_bars_X9_isLicence
set_option maxRecDepth 20000 in
theorem ggX9_bars_X9_lies : GoodIn wsX9_bars wsX9_lies := goodIn_r _ [8] (by decide +kernel) (by decide +kernel)
set_option maxRecDepth 20000 in
theorem gX9_bars_X9_lies : GoodIn wsX9_bars (va_wsS RX9 91 yX9_lies wsX9_lies) := goodIn_app (goodIn_of _ (by decide +kernel)) ggX9_bars_X9_lies
theorem dX9_bars_0 : decode cX9_bars 0 = .ok (.iload_n 1, 1) := by decide +kernel
theorem dX9_bars_1 : decode cX9_bars 1 = .ok (.invokestatic 95, 3) := by decide +kernel
theorem dX9_bars_4 : decode cX9_bars 4 = .ok (.ifCond .eq 14, 3) := by decide +kernel
theorem dX9_bars_7 : decode cX9_bars 7 = .ok (.iload_n 2, 1) := by decide +kernel
theorem dX9_bars_8 : decode cX9_bars 8 = .ok (.iconst 0, 1) := by decide +kernel
theorem dX9_bars_9 : decode cX9_bars 9 = .ok (.sipush 255, 3) := by decide +kernel
theorem dX9_bars_12 : decode cX9_bars 12 = .ok (.invokestatic 91, 3) := by decide +kernel
theorem dX9_bars_15 : decode cX9_bars 15 = .ok (.ifCond .ne 5, 3) := by decide +kernel
theorem dX9_bars_18 : decode cX9_bars 18 = .ok (.iconst 0, 1) := by decide +kernel
theorem dX9_bars_19 : decode cX9_bars 19 = .ok (.ireturn, 1) := by decide +kernel
theorem dX9_bars_20 : decode cX9_bars 20 = .ok (.aload_n 0, 1) := by decide +kernel
theorem dX9_bars_21 : decode cX9_bars 21 = .ok (.getfield 17, 3) := by decide +kernel
theorem dX9_bars_24 : decode cX9_bars 24 = .ok (.iload_n 1, 1) := by decide +kernel
theorem dX9_bars_25 : decode cX9_bars 25 = .ok (.iload_n 2, 1) := by decide +kernel
theorem dX9_bars_26 : decode cX9_bars 26 = .ok (.iastore, 1) := by decide +kernel
theorem dX9_bars_27 : decode cX9_bars 27 = .ok (.iconst 1, 1) := by decide +kernel
theorem dX9_bars_28 : decode cX9_bars 28 = .ok (.ireturn, 1) := by decide +kernel
set_option maxRecDepth 20000 in
theorem ggX9_part_X9_isLicence : GoodIn wsX9_part wsX9_isLicence := goodIn_r _ [7, 8, 9, 6, 10] (by decide +kernel) (by decide +kernel)
set_option maxRecDepth 20000 in
theorem gX9_part_X9_isLicence : GoodIn wsX9_part (va_wsS RX9 95 yX9_isLicence wsX9_isLicence) := goodIn_app (goodIn_of _ (by decide +kernel)) ggX9_part_X9_isLicence
theorem dX9_part_0 : decode cX9_part 0 = .ok (.aload_n 0, 1) := by decide +kernel
theorem dX9_part_1 : decode cX9_part 1 = .ok (.getfield 87, 3) := by decide +kernel
theorem dX9_part_4 : decode cX9_part 4 = .ok (.bipush 24, 2) := by decide +kernel
theorem dX9_part_6 : decode cX9_part 6 = .ok (.if_icmp .eq 20, 3) := by decide +kernel
theorem dX9_part_9 : decode cX9_part 9 = .ok (.iload_n 1, 1) := by decide +kernel
theorem dX9_part_10 : decode cX9_part 10 = .ok (.invokestatic 95, 3) := by decide +kernel
theorem dX9_part_13 : decode cX9_part 13 = .ok (.ifCond .eq 13, 3) := by decide +kernel
theorem dX9_part_16 : decode cX9_part 16 = .ok (.iload_n 2, 1) := by decide +kernel
theorem dX9_part_17 : decode cX9_part 17 = .ok (.iconst (-1), 1) := by decide +kernel
theorem dX9_part_18 : decode cX9_part 18 = .ok (.if_icmp .ne 10, 3) := by decide +kernel
theorem dX9_part_21 : decode cX9_part 21 = .ok (.iload_n 3, 1) := by decide +kernel
theorem dX9_part_22 : decode cX9_part 22 = .ok (.iconst (-1), 1) := by decide +kernel
theorem dX9_part_23 : decode cX9_part 23 = .ok (.if_icmp .eq 5, 3) := by decide +kernel
theorem dX9_part_26 : decode cX9_part 26 = .ok (.iconst (-1), 1) := by decide +kernel
theorem dX9_part_27 : decode cX9_part 27 = .ok (.ireturn, 1) := by decide +kernel
theorem dX9_part_28 : decode cX9_part 28 = .ok (.iload_n 2, 1) := by decide +kernel
theorem dX9_part_29 : decode cX9_part 29 = .ok (.iconst (-1), 1) := by decide +kernel
theorem dX9_part_30 : decode cX9_part 30 = .ok (.if_icmp .eq 15, 3) := by decide +kernel
theorem dX9_part_33 : decode cX9_part 33 = .ok (.iload_n 2, 1) := by decide +kernel
theorem dX9_part_34 : decode cX9_part 34 = .ok (.invokestatic 95, 3) := by decide +kernel
theorem dX9_part_37 : decode cX9_part 37 = .ok (.ifCond .eq 30, 3) := by decide +kernel
theorem dX9_part_40 : decode cX9_part 40 = .ok (.iload_n 2, 1) := by decide +kernel
theorem dX9_part_41 : decode cX9_part 41 = .ok (.iload_n 1, 1) := by decide +kernel
theorem dX9_part_42 : decode cX9_part 42 = .ok (.if_icmp .eq 25, 3) := by decide +kernel
theorem dX9_part_45 : decode cX9_part 45 = .ok (.iload_n 3, 1) := by decide +kernel
theorem dX9_part_46 : decode cX9_part 46 = .ok (.iconst (-1), 1) := by decide +kernel
theorem dX9_part_47 : decode cX9_part 47 = .ok (.if_icmp .eq 22, 3) := by decide +kernel
theorem dX9_part_50 : decode cX9_part 50 = .ok (.iload_n 3, 1) := by decide +kernel
theorem dX9_part_51 : decode cX9_part 51 = .ok (.invokestatic 95, 3) := by decide +kernel
theorem dX9_part_54 : decode cX9_part 54 = .ok (.ifCond .eq 13, 3) := by decide +kernel
theorem dX9_part_57 : decode cX9_part 57 = .ok (.iload_n 3, 1) := by decide +kernel
theorem dX9_part_58 : decode cX9_part 58 = .ok (.iload_n 1, 1) := by decide +kernel
theorem dX9_part_59 : decode cX9_part 59 = .ok (.if_icmp .eq 8, 3) := by decide +kernel
theorem dX9_part_62 : decode cX9_part 62 = .ok (.iload_n 3, 1) := by decide +kernel
theorem dX9_part_63 : decode cX9_part 63 = .ok (.iload_n 2, 1) := by decide +kernel
theorem dX9_part_64 : decode cX9_part 64 = .ok (.if_icmp .ne 5, 3) := by decide +kernel
theorem dX9_part_67 : decode cX9_part 67 = .ok (.iconst (-1), 1) := by decide +kernel
theorem dX9_part_68 : decode cX9_part 68 = .ok (.ireturn, 1) := by decide +kernel
theorem dX9_part_69 : decode cX9_part 69 = .ok (.aload_n 0, 1) := by decide +kernel
theorem dX9_part_70 : decode cX9_part 70 = .ok (.getfield 20, 3) := by decide +kernel
theorem dX9_part_73 : decode cX9_part 73 = .ok (.iconst 3, 1) := by decide +kernel
theorem dX9_part_74 : decode cX9_part 74 = .ok (.aload_n 0, 1) := by decide +kernel
theorem dX9_part_75 : decode cX9_part 75 = .ok (.getfield 87, 3) := by decide +kernel
theorem dX9_part_78 : decode cX9_part 78 = .ok (.imul, 1) := by decide +kernel
theorem dX9_part_79 : decode cX9_part 79 = .ok (.iload_n 1, 1) := by decide +kernel
theorem dX9_part_80 : decode cX9_part 80 = .ok (.iastore, 1) := by decide +kernel
theorem dX9_part_81 : decode cX9_part 81 = .ok (.aload_n 0, 1) := by decide +kernel
theorem dX9_part_82 : decode cX9_part 82 = .ok (.getfield 20, 3) := by decide +kernel
theorem dX9_part_85 : decode cX9_part 85 = .ok (.iconst 3, 1) := by decide +kernel
theorem dX9_part_86 : decode cX9_part 86 = .ok (.aload_n 0, 1) := by decide +kernel
theorem dX9_part_87 : decode cX9_part 87 = .ok (.getfield 87, 3) := by decide +kernel
theorem dX9_part_90 : decode cX9_part 90 = .ok (.imul, 1) := by decide +kernel
theorem dX9_part_91 : decode cX9_part 91 = .ok (.iconst 1, 1) := by decide +kernel
theorem dX9_part_92 : decode cX9_part 92 = .ok (.iadd, 1) := by decide +kernel
theorem dX9_part_93 : decode cX9_part 93 = .ok (.iload_n 2, 1) := by decide +kernel
theorem dX9_part_94 : decode cX9_part 94 = .ok (.iastore, 1) := by decide +kernel
theorem dX9_part_95 : decode cX9_part 95 = .ok (.aload_n 0, 1) := by decide +kernel
theorem dX9_part_96 : decode cX9_part 96 = .ok (.getfield 20, 3) := by decide +kernel
theorem dX9_part_99 : decode cX9_part 99 = .ok (.iconst 3, 1) := by decide +kernel
theorem dX9_part_100 : decode cX9_part 100 = .ok (.aload_n 0, 1) := by decide +kernel
theorem dX9_part_101 : decode cX9_part 101 = .ok (.getfield 87, 3) := by decide +kernel
theorem dX9_part_104 : decode cX9_part 104 = .ok (.imul, 1) := by decide +kernel
theorem dX9_part_105 : decode cX9_part 105 = .ok (.iconst 2, 1) := by decide +kernel
theorem dX9_part_106 : decode cX9_part 106 = .ok (.iadd, 1) := by decide +kernel
theorem dX9_part_107 : decode cX9_part 107 = .ok (.iload_n 3, 1) := by decide +kernel
theorem dX9_part_108 : decode cX9_part 108 = .ok (.iastore, 1) := by decide +kernel
theorem dX9_part_109 : decode cX9_part 109 = .ok (.aload_n 0, 1) := by decide +kernel
theorem dX9_part_110 : decode cX9_part 110 = .ok (.getfield 23, 3) := by decide +kernel
theorem dX9_part_113 : decode cX9_part 113 = .ok (.aload_n 0, 1) := by decide +kernel
theorem dX9_part_114 : decode cX9_part 114 = .ok (.getfield 87, 3) := by decide +kernel
theorem dX9_part_117 : decode cX9_part 117 = .ok (.iload_n 2, 1) := by decide +kernel
theorem dX9_part_118 : decode cX9_part 118 = .ok (.iconst (-1), 1) := by decide +kernel
theorem dX9_part_119 : decode cX9_part 119 = .ok (.if_icmp .ne 7, 3) := by decide +kernel
theorem dX9_part_122 : decode cX9_part 122 = .ok (.iconst 1, 1) := by decide +kernel
theorem dX9_part_123 : decode cX9_part 123 = .ok (.goto 13, 3) := by decide +kernel
theorem dX9_part_126 : decode cX9_part 126 = .ok (.iload_n 3, 1) := by decide +kernel
theorem dX9_part_127 : decode cX9_part 127 = .ok (.iconst (-1), 1) := by decide +kernel
theorem dX9_part_128 : decode cX9_part 128 = .ok (.if_icmp .ne 7, 3) := by decide +kernel
theorem dX9_part_131 : decode cX9_part 131 = .ok (.iconst 2, 1) := by decide +kernel
theorem dX9_part_132 : decode cX9_part 132 = .ok (.goto 4, 3) := by decide +kernel
theorem dX9_part_135 : decode cX9_part 135 = .ok (.iconst 3, 1) := by decide +kernel
theorem dX9_part_136 : decode cX9_part 136 = .ok (.iastore, 1) := by decide +kernel
theorem dX9_part_137 : decode cX9_part 137 = .ok (.aload_n 0, 1) := by decide +kernel
theorem dX9_part_138 : decode cX9_part 138 = .ok (.dup, 1) := by decide +kernel
theorem dX9_part_139 : decode cX9_part 139 = .ok (.getfield 87, 3) := by decide +kernel
theorem dX9_part_142 : decode cX9_part 142 = .ok (.iconst 1, 1) := by decide +kernel
theorem dX9_part_143 : decode cX9_part 143 = .ok (.iadd, 1) := by decide +kernel
theorem dX9_part_144 : decode cX9_part 144 = .ok (.putfield 87, 3) := by decide +kernel
theorem dX9_part_147 : decode cX9_part 147 = .ok (.aload_n 0, 1) := by decide +kernel
theorem dX9_part_148 : decode cX9_part 148 = .ok (.getfield 87, 3) := by decide +kernel
theorem dX9_part_151 : decode cX9_part 151 = .ok (.iconst 1, 1) := by decide +kernel
theorem dX9_part_152 : decode cX9_part 152 = .ok (.isub, 1) := by decide +kernel
theorem dX9_part_153 : decode cX9_part 153 = .ok (.ireturn, 1) := by decide +kernel
set_option maxRecDepth 20000 in
theorem ggX9_take_X9_isPart : GoodIn wsX9_take wsX9_isPart := goodIn_r _ [7, 8, 9, 10, 6, 11, 12, 13, 14, 15, 16, 17, 18, 19, 20, 21, 22, 23, 24, 25, 26, 27, 28, 29, 30, 31, 32, 33, 34, 35, 36, 37, 38, 39, 40, 41] (by decide +kernel) (by decide +kernel)
set_option maxRecDepth 20000 in
theorem gX9_take_X9_isPart : GoodIn wsX9_take (wsV RX9 105 RX9 yX9_isPart wsX9_isPart) := goodIn_app (goodIn_of _ (by decide +kernel)) ggX9_take_X9_isPart
set_option maxRecDepth 20000 in
theorem ggX9_take_X9_lies : GoodIn wsX9_take wsX9_lies := goodIn_r _ [11] (by decide +kernel) (by decide +kernel)
set_option maxRecDepth 20000 in
theorem gX9_take_X9_lies : GoodIn wsX9_take (va_wsS RX9 91 yX9_lies wsX9_lies) := goodIn_app (goodIn_of _ (by decide +kernel)) ggX9_take_X9_lies
theorem dX9_take_0 : decode cX9_take 0 = .ok (.aload_n 0, 1) := by decide +kernel
theorem dX9_take_1 : decode cX9_take 1 = .ok (.iload_n 1, 1) := by decide +kernel
theorem dX9_take_2 : decode cX9_take 2 = .ok (.invokevirtual 105, 3) := by decide +kernel
theorem dX9_take_5 : decode cX9_take 5 = .ok (.ifCond .eq 29, 3) := by decide +kernel
theorem dX9_take_8 : decode cX9_take 8 = .ok (.iload_n 2, 1) := by decide +kernel
theorem dX9_take_9 : decode cX9_take 9 = .ok (.iconst 0, 1) := by decide +kernel
theorem dX9_take_10 : decode cX9_take 10 = .ok (.aload_n 0, 1) := by decide +kernel
theorem dX9_take_11 : decode cX9_take 11 = .ok (.getfield 23, 3) := by decide +kernel
theorem dX9_take_14 : decode cX9_take 14 = .ok (.iload_n 1, 1) := by decide +kernel
theorem dX9_take_15 : decode cX9_take 15 = .ok (.iaload, 1) := by decide +kernel
theorem dX9_take_16 : decode cX9_take 16 = .ok (.iconst 1, 1) := by decide +kernel
theorem dX9_take_17 : decode cX9_take 17 = .ok (.isub, 1) := by decide +kernel
theorem dX9_take_18 : decode cX9_take 18 = .ok (.invokestatic 91, 3) := by decide +kernel
theorem dX9_take_21 : decode cX9_take 21 = .ok (.ifCond .eq 13, 3) := by decide +kernel
theorem dX9_take_24 : decode cX9_take 24 = .ok (.aload_n 0, 1) := by decide +kernel
theorem dX9_take_25 : decode cX9_take 25 = .ok (.getfield 26, 3) := by decide +kernel
theorem dX9_take_28 : decode cX9_take 28 = .ok (.iload_n 1, 1) := by decide +kernel
theorem dX9_take_29 : decode cX9_take 29 = .ok (.iaload, 1) := by decide +kernel
theorem dX9_take_30 : decode cX9_take 30 = .ok (.iload_n 2, 1) := by decide +kernel
theorem dX9_take_31 : decode cX9_take 31 = .ok (.if_icmp .ne 5, 3) := by decide +kernel
theorem dX9_take_34 : decode cX9_take 34 = .ok (.iconst 0, 1) := by decide +kernel
theorem dX9_take_35 : decode cX9_take 35 = .ok (.ireturn, 1) := by decide +kernel
theorem dX9_take_36 : decode cX9_take 36 = .ok (.aload_n 0, 1) := by decide +kernel
theorem dX9_take_37 : decode cX9_take 37 = .ok (.getfield 26, 3) := by decide +kernel
theorem dX9_take_40 : decode cX9_take 40 = .ok (.iload_n 1, 1) := by decide +kernel
theorem dX9_take_41 : decode cX9_take 41 = .ok (.iload_n 2, 1) := by decide +kernel
theorem dX9_take_42 : decode cX9_take 42 = .ok (.iastore, 1) := by decide +kernel
theorem dX9_take_43 : decode cX9_take 43 = .ok (.iconst 1, 1) := by decide +kernel
theorem dX9_take_44 : decode cX9_take 44 = .ok (.ireturn, 1) := by decide +kernel
theorem dX9_reaches_0 : decode cX9_reaches 0 = .ok (.iconst 0, 1) := by decide +kernel
theorem dX9_reaches_1 : decode cX9_reaches 1 = .ok (.istore_n 2, 1) := by decide +kernel
theorem dX9_reaches_2 : decode cX9_reaches 2 = .ok (.iload_n 2, 1) := by decide +kernel
theorem dX9_reaches_3 : decode cX9_reaches 3 = .ok (.bipush 24, 2) := by decide +kernel
theorem dX9_reaches_5 : decode cX9_reaches 5 = .ok (.if_icmp .ge 25, 3) := by decide +kernel
theorem dX9_reaches_8 : decode cX9_reaches 8 = .ok (.aload_n 0, 1) := by decide +kernel
theorem dX9_reaches_9 : decode cX9_reaches 9 = .ok (.getfield 57, 3) := by decide +kernel
theorem dX9_reaches_12 : decode cX9_reaches 12 = .ok (.iload_n 2, 1) := by decide +kernel
theorem dX9_reaches_13 : decode cX9_reaches 13 = .ok (.iload_n 2, 1) := by decide +kernel
theorem dX9_reaches_14 : decode cX9_reaches 14 = .ok (.iload_n 1, 1) := by decide +kernel
theorem dX9_reaches_15 : decode cX9_reaches 15 = .ok (.if_icmp .ne 7, 3) := by decide +kernel
theorem dX9_reaches_18 : decode cX9_reaches 18 = .ok (.iconst 1, 1) := by decide +kernel
theorem dX9_reaches_19 : decode cX9_reaches 19 = .ok (.goto 4, 3) := by decide +kernel
theorem dX9_reaches_22 : decode cX9_reaches 22 = .ok (.iconst 0, 1) := by decide +kernel
theorem dX9_reaches_23 : decode cX9_reaches 23 = .ok (.bastore, 1) := by decide +kernel
theorem dX9_reaches_24 : decode cX9_reaches 24 = .ok (.iinc 2 1, 3) := by decide +kernel
theorem dX9_reaches_27 : decode cX9_reaches 27 = .ok (.goto (-25), 3) := by decide +kernel
theorem dX9_reaches_30 : decode cX9_reaches 30 = .ok (.iconst 1, 1) := by decide +kernel
theorem dX9_reaches_31 : decode cX9_reaches 31 = .ok (.istore_n 2, 1) := by decide +kernel
theorem dX9_reaches_32 : decode cX9_reaches 32 = .ok (.iload_n 2, 1) := by decide +kernel
theorem dX9_reaches_33 : decode cX9_reaches 33 = .ok (.ifCond .eq 78, 3) := by decide +kernel
theorem dX9_reaches_36 : decode cX9_reaches 36 = .ok (.iconst 0, 1) := by decide +kernel
theorem dX9_reaches_37 : decode cX9_reaches 37 = .ok (.istore_n 2, 1) := by decide +kernel
theorem dX9_reaches_38 : decode cX9_reaches 38 = .ok (.iconst 0, 1) := by decide +kernel
theorem dX9_reaches_39 : decode cX9_reaches 39 = .ok (.istore_n 3, 1) := by decide +kernel
theorem dX9_reaches_40 : decode cX9_reaches 40 = .ok (.iload_n 3, 1) := by decide +kernel
theorem dX9_reaches_41 : decode cX9_reaches 41 = .ok (.aload_n 0, 1) := by decide +kernel
theorem dX9_reaches_42 : decode cX9_reaches 42 = .ok (.getfield 108, 3) := by decide +kernel
theorem dX9_reaches_45 : decode cX9_reaches 45 = .ok (.if_icmp .ge 63, 3) := by decide +kernel
theorem dX9_reaches_48 : decode cX9_reaches 48 = .ok (.aload_n 0, 1) := by decide +kernel
theorem dX9_reaches_49 : decode cX9_reaches 49 = .ok (.getfield 60, 3) := by decide +kernel
theorem dX9_reaches_52 : decode cX9_reaches 52 = .ok (.iload_n 3, 1) := by decide +kernel
theorem dX9_reaches_53 : decode cX9_reaches 53 = .ok (.baload, 1) := by decide +kernel
theorem dX9_reaches_54 : decode cX9_reaches 54 = .ok (.ifCond .ne 48, 3) := by decide +kernel
theorem dX9_reaches_57 : decode cX9_reaches 57 = .ok (.aload_n 0, 1) := by decide +kernel
theorem dX9_reaches_58 : decode cX9_reaches 58 = .ok (.getfield 57, 3) := by decide +kernel
theorem dX9_reaches_61 : decode cX9_reaches 61 = .ok (.aload_n 0, 1) := by decide +kernel
theorem dX9_reaches_62 : decode cX9_reaches 62 = .ok (.getfield 35, 3) := by decide +kernel
theorem dX9_reaches_65 : decode cX9_reaches 65 = .ok (.iload_n 3, 1) := by decide +kernel
theorem dX9_reaches_66 : decode cX9_reaches 66 = .ok (.iaload, 1) := by decide +kernel
theorem dX9_reaches_67 : decode cX9_reaches 67 = .ok (.baload, 1) := by decide +kernel
theorem dX9_reaches_68 : decode cX9_reaches 68 = .ok (.ifCond .eq 34, 3) := by decide +kernel
theorem dX9_reaches_71 : decode cX9_reaches 71 = .ok (.aload_n 0, 1) := by decide +kernel
theorem dX9_reaches_72 : decode cX9_reaches 72 = .ok (.getfield 57, 3) := by decide +kernel
theorem dX9_reaches_75 : decode cX9_reaches 75 = .ok (.aload_n 0, 1) := by decide +kernel
theorem dX9_reaches_76 : decode cX9_reaches 76 = .ok (.getfield 32, 3) := by decide +kernel
theorem dX9_reaches_79 : decode cX9_reaches 79 = .ok (.iload_n 3, 1) := by decide +kernel
theorem dX9_reaches_80 : decode cX9_reaches 80 = .ok (.iaload, 1) := by decide +kernel
theorem dX9_reaches_81 : decode cX9_reaches 81 = .ok (.baload, 1) := by decide +kernel
theorem dX9_reaches_82 : decode cX9_reaches 82 = .ok (.ifCond .eq 6, 3) := by decide +kernel
theorem dX9_reaches_85 : decode cX9_reaches 85 = .ok (.goto 17, 3) := by decide +kernel
theorem dX9_reaches_88 : decode cX9_reaches 88 = .ok (.aload_n 0, 1) := by decide +kernel
theorem dX9_reaches_89 : decode cX9_reaches 89 = .ok (.getfield 57, 3) := by decide +kernel
theorem dX9_reaches_92 : decode cX9_reaches 92 = .ok (.aload_n 0, 1) := by decide +kernel
theorem dX9_reaches_93 : decode cX9_reaches 93 = .ok (.getfield 32, 3) := by decide +kernel
theorem dX9_reaches_96 : decode cX9_reaches 96 = .ok (.iload_n 3, 1) := by decide +kernel
theorem dX9_reaches_97 : decode cX9_reaches 97 = .ok (.iaload, 1) := by decide +kernel
theorem dX9_reaches_98 : decode cX9_reaches 98 = .ok (.iconst 1, 1) := by decide +kernel
theorem dX9_reaches_99 : decode cX9_reaches 99 = .ok (.bastore, 1) := by decide +kernel
theorem dX9_reaches_100 : decode cX9_reaches 100 = .ok (.iconst 1, 1) := by decide +kernel
theorem dX9_reaches_101 : decode cX9_reaches 101 = .ok (.istore_n 2, 1) := by decide +kernel
theorem dX9_reaches_102 : decode cX9_reaches 102 = .ok (.iinc 3 1, 3) := by decide +kernel
theorem dX9_reaches_105 : decode cX9_reaches 105 = .ok (.goto (-65), 3) := by decide +kernel
theorem dX9_reaches_108 : decode cX9_reaches 108 = .ok (.goto (-76), 3) := by decide +kernel
theorem dX9_reaches_111 : decode cX9_reaches 111 = .ok (.return_, 1) := by decide +kernel
theorem dX9_asItIs_0 : decode cX9_asItIs 0 = .ok (.iconst 0, 1) := by decide +kernel
theorem dX9_asItIs_1 : decode cX9_asItIs 1 = .ok (.istore_n 1, 1) := by decide +kernel
theorem dX9_asItIs_2 : decode cX9_asItIs 2 = .ok (.iload_n 1, 1) := by decide +kernel
theorem dX9_asItIs_3 : decode cX9_asItIs 3 = .ok (.aload_n 0, 1) := by decide +kernel
theorem dX9_asItIs_4 : decode cX9_asItIs 4 = .ok (.getfield 108, 3) := by decide +kernel
theorem dX9_asItIs_7 : decode cX9_asItIs 7 = .ok (.if_icmp .ge 21, 3) := by decide +kernel
theorem dX9_asItIs_10 : decode cX9_asItIs 10 = .ok (.aload_n 0, 1) := by decide +kernel
theorem dX9_asItIs_11 : decode cX9_asItIs 11 = .ok (.getfield 60, 3) := by decide +kernel
theorem dX9_asItIs_14 : decode cX9_asItIs 14 = .ok (.iload_n 1, 1) := by decide +kernel
theorem dX9_asItIs_15 : decode cX9_asItIs 15 = .ok (.aload_n 0, 1) := by decide +kernel
theorem dX9_asItIs_16 : decode cX9_asItIs 16 = .ok (.getfield 41, 3) := by decide +kernel
theorem dX9_asItIs_19 : decode cX9_asItIs 19 = .ok (.iload_n 1, 1) := by decide +kernel
theorem dX9_asItIs_20 : decode cX9_asItIs 20 = .ok (.baload, 1) := by decide +kernel
theorem dX9_asItIs_21 : decode cX9_asItIs 21 = .ok (.bastore, 1) := by decide +kernel
theorem dX9_asItIs_22 : decode cX9_asItIs 22 = .ok (.iinc 1 1, 3) := by decide +kernel
theorem dX9_asItIs_25 : decode cX9_asItIs 25 = .ok (.goto (-23), 3) := by decide +kernel
theorem dX9_asItIs_28 : decode cX9_asItIs 28 = .ok (.iconst 0, 1) := by decide +kernel
theorem dX9_asItIs_29 : decode cX9_asItIs 29 = .ok (.istore_n 1, 1) := by decide +kernel
theorem dX9_asItIs_30 : decode cX9_asItIs 30 = .ok (.iload_n 1, 1) := by decide +kernel
theorem dX9_asItIs_31 : decode cX9_asItIs 31 = .ok (.aload_n 0, 1) := by decide +kernel
theorem dX9_asItIs_32 : decode cX9_asItIs 32 = .ok (.getfield 87, 3) := by decide +kernel
theorem dX9_asItIs_35 : decode cX9_asItIs 35 = .ok (.if_icmp .ge 30, 3) := by decide +kernel
theorem dX9_asItIs_38 : decode cX9_asItIs 38 = .ok (.aload_n 0, 1) := by decide +kernel
theorem dX9_asItIs_39 : decode cX9_asItIs 39 = .ok (.getfield 63, 3) := by decide +kernel
theorem dX9_asItIs_42 : decode cX9_asItIs 42 = .ok (.iload_n 1, 1) := by decide +kernel
theorem dX9_asItIs_43 : decode cX9_asItIs 43 = .ok (.aload_n 0, 1) := by decide +kernel
theorem dX9_asItIs_44 : decode cX9_asItIs 44 = .ok (.getfield 20, 3) := by decide +kernel
theorem dX9_asItIs_47 : decode cX9_asItIs 47 = .ok (.iconst 3, 1) := by decide +kernel
theorem dX9_asItIs_48 : decode cX9_asItIs 48 = .ok (.iload_n 1, 1) := by decide +kernel
theorem dX9_asItIs_49 : decode cX9_asItIs 49 = .ok (.imul, 1) := by decide +kernel
theorem dX9_asItIs_50 : decode cX9_asItIs 50 = .ok (.aload_n 0, 1) := by decide +kernel
theorem dX9_asItIs_51 : decode cX9_asItIs 51 = .ok (.getfield 26, 3) := by decide +kernel
theorem dX9_asItIs_54 : decode cX9_asItIs 54 = .ok (.iload_n 1, 1) := by decide +kernel
theorem dX9_asItIs_55 : decode cX9_asItIs 55 = .ok (.iaload, 1) := by decide +kernel
theorem dX9_asItIs_56 : decode cX9_asItIs 56 = .ok (.iadd, 1) := by decide +kernel
theorem dX9_asItIs_57 : decode cX9_asItIs 57 = .ok (.iaload, 1) := by decide +kernel
theorem dX9_asItIs_58 : decode cX9_asItIs 58 = .ok (.iastore, 1) := by decide +kernel
theorem dX9_asItIs_59 : decode cX9_asItIs 59 = .ok (.iinc 1 1, 3) := by decide +kernel
theorem dX9_asItIs_62 : decode cX9_asItIs 62 = .ok (.goto (-32), 3) := by decide +kernel
theorem dX9_asItIs_65 : decode cX9_asItIs 65 = .ok (.return_, 1) := by decide +kernel
set_option maxRecDepth 20000 in
theorem ggX9_join_X9_isPart : GoodIn wsX9_join wsX9_isPart := goodIn_r _ [11, 12, 13, 14, 10, 15, 28, 29, 30, 31, 32, 33, 34, 35, 36, 37, 38, 39, 40, 41, 42, 43, 44, 45, 46, 47, 48, 49, 50, 51, 52, 53, 54, 55, 56, 57] (by decide +kernel) (by decide +kernel)
set_option maxRecDepth 20000 in
theorem gX9_join_X9_isPart : GoodIn wsX9_join (wsV RX9 105 RX9 yX9_isPart wsX9_isPart) := goodIn_app (goodIn_of _ (by decide +kernel)) ggX9_join_X9_isPart
set_option maxRecDepth 20000 in
theorem ggX9_join_X9_lies : GoodIn wsX9_join wsX9_lies := goodIn_r _ [15] (by decide +kernel) (by decide +kernel)
set_option maxRecDepth 20000 in
theorem gX9_join_X9_lies : GoodIn wsX9_join (va_wsS RX9 91 yX9_lies wsX9_lies) := goodIn_app (goodIn_of _ (by decide +kernel)) ggX9_join_X9_lies
set_option maxRecDepth 20000 in
theorem ggX9_join_X9_asItIs : GoodIn wsX9_join wsX9_asItIs := goodIn_r _ [19, 1, 20, 2, 12, 21, 22, 23, 28, 29, 30, 31, 32, 33, 34, 35, 36, 37, 38, 39, 40, 41, 42, 43, 44, 45, 46, 47, 48, 49, 50, 51, 52, 53, 54, 55, 56, 57] (by decide +kernel) (by decide +kernel)
set_option maxRecDepth 20000 in
theorem gX9_join_X9_asItIs : GoodIn wsX9_join (wsV RX9 111 RX9 yX9_asItIs wsX9_asItIs) := goodIn_app (goodIn_of _ (by decide +kernel)) ggX9_join_X9_asItIs
set_option maxRecDepth 20000 in
theorem ggX9_join_X9_reaches : GoodIn wsX9_join wsX9_reaches := goodIn_r _ [27, 5, 1, 20, 4, 3, 28, 29, 30, 31, 32, 33, 34, 35, 36, 37, 38, 39, 40, 41, 42, 43, 44, 45, 46, 47, 48, 49, 50, 51, 52, 53, 54, 55, 56, 57] (by decide +kernel) (by decide +kernel)
set_option maxRecDepth 20000 in
theorem gX9_join_X9_reaches : GoodIn wsX9_join (wsV RX9 114 RX9 yX9_reaches wsX9_reaches) := goodIn_app (goodIn_of _ (by decide +kernel)) ggX9_join_X9_reaches
theorem dX9_join_0 : decode cX9_join 0 = .ok (.aload_n 0, 1) := by decide +kernel
theorem dX9_join_1 : decode cX9_join 1 = .ok (.getfield 108, 3) := by decide +kernel
theorem dX9_join_4 : decode cX9_join 4 = .ok (.bipush 40, 2) := by decide +kernel
theorem dX9_join_6 : decode cX9_join 6 = .ok (.if_icmp .eq 33, 3) := by decide +kernel
theorem dX9_join_9 : decode cX9_join 9 = .ok (.aload_n 0, 1) := by decide +kernel
theorem dX9_join_10 : decode cX9_join 10 = .ok (.iload_n 1, 1) := by decide +kernel
theorem dX9_join_11 : decode cX9_join 11 = .ok (.invokevirtual 105, 3) := by decide +kernel
theorem dX9_join_14 : decode cX9_join 14 = .ok (.ifCond .eq 25, 3) := by decide +kernel
theorem dX9_join_17 : decode cX9_join 17 = .ok (.aload_n 0, 1) := by decide +kernel
theorem dX9_join_18 : decode cX9_join 18 = .ok (.iload_n 2, 1) := by decide +kernel
theorem dX9_join_19 : decode cX9_join 19 = .ok (.invokevirtual 105, 3) := by decide +kernel
theorem dX9_join_22 : decode cX9_join 22 = .ok (.ifCond .eq 17, 3) := by decide +kernel
theorem dX9_join_25 : decode cX9_join 25 = .ok (.iload_n 1, 1) := by decide +kernel
theorem dX9_join_26 : decode cX9_join 26 = .ok (.iload_n 2, 1) := by decide +kernel
theorem dX9_join_27 : decode cX9_join 27 = .ok (.if_icmp .eq 12, 3) := by decide +kernel
theorem dX9_join_30 : decode cX9_join 30 = .ok (.iload_n 3, 1) := by decide +kernel
theorem dX9_join_31 : decode cX9_join 31 = .ok (.iconst 0, 1) := by decide +kernel
theorem dX9_join_32 : decode cX9_join 32 = .ok (.iconst 3, 1) := by decide +kernel
theorem dX9_join_33 : decode cX9_join 33 = .ok (.invokestatic 91, 3) := by decide +kernel
theorem dX9_join_36 : decode cX9_join 36 = .ok (.ifCond .ne 5, 3) := by decide +kernel
theorem dX9_join_39 : decode cX9_join 39 = .ok (.iconst (-1), 1) := by decide +kernel
theorem dX9_join_40 : decode cX9_join 40 = .ok (.ireturn, 1) := by decide +kernel
theorem dX9_join_41 : decode cX9_join 41 = .ok (.iconst 0, 1) := by decide +kernel
theorem dX9_join_42 : decode cX9_join 42 = .ok (.istore 4, 2) := by decide +kernel
theorem dX9_join_44 : decode cX9_join 44 = .ok (.iload 4, 2) := by decide +kernel
theorem dX9_join_46 : decode cX9_join 46 = .ok (.aload_n 0, 1) := by decide +kernel
theorem dX9_join_47 : decode cX9_join 47 = .ok (.getfield 108, 3) := by decide +kernel
theorem dX9_join_50 : decode cX9_join 50 = .ok (.if_icmp .ge 43, 3) := by decide +kernel
theorem dX9_join_53 : decode cX9_join 53 = .ok (.aload_n 0, 1) := by decide +kernel
theorem dX9_join_54 : decode cX9_join 54 = .ok (.getfield 41, 3) := by decide +kernel
theorem dX9_join_57 : decode cX9_join 57 = .ok (.iload 4, 2) := by decide +kernel
theorem dX9_join_59 : decode cX9_join 59 = .ok (.baload, 1) := by decide +kernel
theorem dX9_join_60 : decode cX9_join 60 = .ok (.ifCond .ne 27, 3) := by decide +kernel
theorem dX9_join_63 : decode cX9_join 63 = .ok (.aload_n 0, 1) := by decide +kernel
theorem dX9_join_64 : decode cX9_join 64 = .ok (.getfield 32, 3) := by decide +kernel
theorem dX9_join_67 : decode cX9_join 67 = .ok (.iload 4, 2) := by decide +kernel
theorem dX9_join_69 : decode cX9_join 69 = .ok (.iaload, 1) := by decide +kernel
theorem dX9_join_70 : decode cX9_join 70 = .ok (.iload_n 1, 1) := by decide +kernel
theorem dX9_join_71 : decode cX9_join 71 = .ok (.if_icmp .ne 16, 3) := by decide +kernel
theorem dX9_join_74 : decode cX9_join 74 = .ok (.aload_n 0, 1) := by decide +kernel
theorem dX9_join_75 : decode cX9_join 75 = .ok (.getfield 35, 3) := by decide +kernel
theorem dX9_join_78 : decode cX9_join 78 = .ok (.iload 4, 2) := by decide +kernel
theorem dX9_join_80 : decode cX9_join 80 = .ok (.iaload, 1) := by decide +kernel
theorem dX9_join_81 : decode cX9_join 81 = .ok (.iload_n 2, 1) := by decide +kernel
theorem dX9_join_82 : decode cX9_join 82 = .ok (.if_icmp .ne 5, 3) := by decide +kernel
theorem dX9_join_85 : decode cX9_join 85 = .ok (.iconst (-1), 1) := by decide +kernel
theorem dX9_join_86 : decode cX9_join 86 = .ok (.ireturn, 1) := by decide +kernel
theorem dX9_join_87 : decode cX9_join 87 = .ok (.iinc 4 1, 3) := by decide +kernel
theorem dX9_join_90 : decode cX9_join 90 = .ok (.goto (-46), 3) := by decide +kernel
theorem dX9_join_93 : decode cX9_join 93 = .ok (.aload_n 0, 1) := by decide +kernel
theorem dX9_join_94 : decode cX9_join 94 = .ok (.invokevirtual 111, 3) := by decide +kernel
theorem dX9_join_97 : decode cX9_join 97 = .ok (.aload_n 0, 1) := by decide +kernel
theorem dX9_join_98 : decode cX9_join 98 = .ok (.iload_n 1, 1) := by decide +kernel
theorem dX9_join_99 : decode cX9_join 99 = .ok (.invokevirtual 114, 3) := by decide +kernel
theorem dX9_join_102 : decode cX9_join 102 = .ok (.aload_n 0, 1) := by decide +kernel
theorem dX9_join_103 : decode cX9_join 103 = .ok (.getfield 57, 3) := by decide +kernel
theorem dX9_join_106 : decode cX9_join 106 = .ok (.iload_n 2, 1) := by decide +kernel
theorem dX9_join_107 : decode cX9_join 107 = .ok (.baload, 1) := by decide +kernel
