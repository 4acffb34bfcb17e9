theorem dX7_measureInto_26 : decode cX7_measureInto 26 = .ok (.getfield 91, 3) := by decide +kernel
theorem dX7_measureInto_29 : decode cX7_measureInto 29 = .ok (.iload_n 2, 1) := by decide +kernel
theorem dX7_measureInto_30 : decode cX7_measureInto 30 = .ok (.iaload, 1) := by decide +kernel
theorem dX7_measureInto_31 : decode cX7_measureInto 31 = .ok (.if_icmp .ge 73, 3) := by decide +kernel
theorem dX7_measureInto_34 : decode cX7_measureInto 34 = .ok (.aload_n 0, 1) := by decide +kernel
theorem dX7_measureInto_35 : decode cX7_measureInto 35 = .ok (.getfield 23, 3) := by decide +kernel
theorem dX7_measureInto_38 : decode cX7_measureInto 38 = .ok (.getfield 94, 3) := by decide +kernel
theorem dX7_measureInto_41 : decode cX7_measureInto 41 = .ok (.iload 4, 2) := by decide +kernel
theorem dX7_measureInto_43 : decode cX7_measureInto 43 = .ok (.iaload, 1) := by decide +kernel
theorem dX7_measureInto_44 : decode cX7_measureInto 44 = .ok (.istore 5, 2) := by decide +kernel
theorem dX7_measureInto_46 : decode cX7_measureInto 46 = .ok (.aload_n 0, 1) := by decide +kernel
theorem dX7_measureInto_47 : decode cX7_measureInto 47 = .ok (.getfield 23, 3) := by decide +kernel
theorem dX7_measureInto_50 : decode cX7_measureInto 50 = .ok (.getfield 97, 3) := by decide +kernel
theorem dX7_measureInto_53 : decode cX7_measureInto 53 = .ok (.iload 5, 2) := by decide +kernel
theorem dX7_measureInto_55 : decode cX7_measureInto 55 = .ok (.iaload, 1) := by decide +kernel
theorem dX7_measureInto_56 : decode cX7_measureInto 56 = .ok (.istore 6, 2) := by decide +kernel
theorem dX7_measureInto_58 : decode cX7_measureInto 58 = .ok (.aload_n 0, 1) := by decide +kernel
theorem dX7_measureInto_59 : decode cX7_measureInto 59 = .ok (.iload_n 1, 1) := by decide +kernel
theorem dX7_measureInto_60 : decode cX7_measureInto 60 = .ok (.iload 5, 2) := by decide +kernel
theorem dX7_measureInto_62 : decode cX7_measureInto 62 = .ok (.invokevirtual 100, 3) := by decide +kernel
theorem dX7_measureInto_65 : decode cX7_measureInto 65 = .ok (.ifCond .eq 33, 3) := by decide +kernel
theorem dX7_measureInto_68 : decode cX7_measureInto 68 = .ok (.aload_n 0, 1) := by decide +kernel
theorem dX7_measureInto_69 : decode cX7_measureInto 69 = .ok (.getfield 9, 3) := by decide +kernel
theorem dX7_measureInto_72 : decode cX7_measureInto 72 = .ok (.iload 6, 2) := by decide +kernel
theorem dX7_measureInto_74 : decode cX7_measureInto 74 = .ok (.iaload, 1) := by decide +kernel
theorem dX7_measureInto_75 : decode cX7_measureInto 75 = .ok (.iconst (-1), 1) := by decide +kernel
theorem dX7_measureInto_76 : decode cX7_measureInto 76 = .ok (.if_icmp .eq 14, 3) := by decide +kernel
theorem dX7_measureInto_79 : decode cX7_measureInto 79 = .ok (.aload_n 0, 1) := by decide +kernel
theorem dX7_measureInto_80 : decode cX7_measureInto 80 = .ok (.getfield 9, 3) := by decide +kernel
theorem dX7_measureInto_83 : decode cX7_measureInto 83 = .ok (.iload 6, 2) := by decide +kernel
theorem dX7_measureInto_85 : decode cX7_measureInto 85 = .ok (.iaload, 1) := by decide +kernel
theorem dX7_measureInto_86 : decode cX7_measureInto 86 = .ok (.iload_n 3, 1) := by decide +kernel
theorem dX7_measureInto_87 : decode cX7_measureInto 87 = .ok (.if_icmp .le 11, 3) := by decide +kernel
theorem dX7_measureInto_90 : decode cX7_measureInto 90 = .ok (.aload_n 0, 1) := by decide +kernel
theorem dX7_measureInto_91 : decode cX7_measureInto 91 = .ok (.getfield 9, 3) := by decide +kernel
theorem dX7_measureInto_94 : decode cX7_measureInto 94 = .ok (.iload 6, 2) := by decide +kernel
theorem dX7_measureInto_96 : decode cX7_measureInto 96 = .ok (.iload_n 3, 1) := by decide +kernel
theorem dX7_measureInto_97 : decode cX7_measureInto 97 = .ok (.iastore, 1) := by decide +kernel
theorem dX7_measureInto_98 : decode cX7_measureInto 98 = .ok (.iinc 4 1, 3) := by decide +kernel
theorem dX7_measureInto_101 : decode cX7_measureInto 101 = .ok (.goto (-81), 3) := by decide +kernel
theorem dX7_measureInto_104 : decode cX7_measureInto 104 = .ok (.return_, 1) := by decide +kernel
set_option maxRecDepth 20000 in
theorem ggX7_source_X7_brings : GoodIn wsX7_source wsX7_brings := goodIn_r _ [7, 8, 1, 9, 10, 11, 12, 13, 14, 15, 16, 17, 18, 19, 20, 21, 22, 23, 24, 25, 26, 27, 28, 29, 30, 31, 32, 33, 34, 35, 36, 37, 38, 39, 40, 41, 42, 43, 44] (by decide +kernel) (by decide +kernel)
set_option maxRecDepth 20000 in
theorem gX7_source_X7_brings : GoodIn wsX7_source (wsV RX7 54 RX7 yX7_brings wsX7_brings) := goodIn_app (goodIn_of _ (by decide +kernel)) ggX7_source_X7_brings
theorem dX7_source_0 : decode cX7_source 0 = .ok (.iconst (-1), 1) := by decide +kernel
theorem dX7_source_1 : decode cX7_source 1 = .ok (.istore_n 3, 1) := by decide +kernel
theorem dX7_source_2 : decode cX7_source 2 = .ok (.iconst 0, 1) := by decide +kernel
theorem dX7_source_3 : decode cX7_source 3 = .ok (.istore 4, 2) := by decide +kernel
theorem dX7_source_5 : decode cX7_source 5 = .ok (.iload 4, 2) := by decide +kernel
theorem dX7_source_7 : decode cX7_source 7 = .ok (.aload_n 0, 1) := by decide +kernel
theorem dX7_source_8 : decode cX7_source 8 = .ok (.getfield 19, 3) := by decide +kernel
theorem dX7_source_11 : decode cX7_source 11 = .ok (.getfield 51, 3) := by decide +kernel
theorem dX7_source_14 : decode cX7_source 14 = .ok (.if_icmp .ge 67, 3) := by decide +kernel
theorem dX7_source_17 : decode cX7_source 17 = .ok (.aload_n 0, 1) := by decide +kernel
theorem dX7_source_18 : decode cX7_source 18 = .ok (.getfield 9, 3) := by decide +kernel
theorem dX7_source_21 : decode cX7_source 21 = .ok (.iload 4, 2) := by decide +kernel
theorem dX7_source_23 : decode cX7_source 23 = .ok (.iaload, 1) := by decide +kernel
theorem dX7_source_24 : decode cX7_source 24 = .ok (.iconst (-1), 1) := by decide +kernel
theorem dX7_source_25 : decode cX7_source 25 = .ok (.if_icmp .eq 28, 3) := by decide +kernel
theorem dX7_source_28 : decode cX7_source 28 = .ok (.iload_n 3, 1) := by decide +kernel
theorem dX7_source_29 : decode cX7_source 29 = .ok (.iconst (-1), 1) := by decide +kernel
theorem dX7_source_30 : decode cX7_source 30 = .ok (.if_icmp .eq 19, 3) := by decide +kernel
theorem dX7_source_33 : decode cX7_source 33 = .ok (.aload_n 0, 1) := by decide +kernel
theorem dX7_source_34 : decode cX7_source 34 = .ok (.getfield 9, 3) := by decide +kernel
theorem dX7_source_37 : decode cX7_source 37 = .ok (.iload 4, 2) := by decide +kernel
theorem dX7_source_39 : decode cX7_source 39 = .ok (.iaload, 1) := by decide +kernel
theorem dX7_source_40 : decode cX7_source 40 = .ok (.aload_n 0, 1) := by decide +kernel
theorem dX7_source_41 : decode cX7_source 41 = .ok (.getfield 9, 3) := by decide +kernel
theorem dX7_source_44 : decode cX7_source 44 = .ok (.iload_n 3, 1) := by decide +kernel
theorem dX7_source_45 : decode cX7_source 45 = .ok (.iaload, 1) := by decide +kernel
theorem dX7_source_46 : decode cX7_source 46 = .ok (.if_icmp .ge 7, 3) := by decide +kernel
theorem dX7_source_49 : decode cX7_source 49 = .ok (.iconst 1, 1) := by decide +kernel
theorem dX7_source_50 : decode cX7_source 50 = .ok (.goto 4, 3) := by decide +kernel
theorem dX7_source_53 : decode cX7_source 53 = .ok (.iconst 0, 1) := by decide +kernel
theorem dX7_source_54 : decode cX7_source 54 = .ok (.istore 5, 2) := by decide +kernel
theorem dX7_source_56 : decode cX7_source 56 = .ok (.iload 5, 2) := by decide +kernel
theorem dX7_source_58 : decode cX7_source 58 = .ok (.ifCond .eq 17, 3) := by decide +kernel
theorem dX7_source_61 : decode cX7_source 61 = .ok (.aload_n 0, 1) := by decide +kernel
theorem dX7_source_62 : decode cX7_source 62 = .ok (.iload_n 1, 1) := by decide +kernel
theorem dX7_source_63 : decode cX7_source 63 = .ok (.iload 4, 2) := by decide +kernel
theorem dX7_source_65 : decode cX7_source 65 = .ok (.iload_n 2, 1) := by decide +kernel
theorem dX7_source_66 : decode cX7_source 66 = .ok (.invokevirtual 54, 3) := by decide +kernel
theorem dX7_source_69 : decode cX7_source 69 = .ok (.ifCond .eq 6, 3) := by decide +kernel
theorem dX7_source_72 : decode cX7_source 72 = .ok (.iload 4, 2) := by decide +kernel
theorem dX7_source_74 : decode cX7_source 74 = .ok (.istore_n 3, 1) := by decide +kernel
theorem dX7_source_75 : decode cX7_source 75 = .ok (.iinc 4 1, 3) := by decide +kernel
theorem dX7_source_78 : decode cX7_source 78 = .ok (.goto (-73), 3) := by decide +kernel
theorem dX7_source_81 : decode cX7_source 81 = .ok (.iload_n 3, 1) := by decide +kernel
theorem dX7_source_82 : decode cX7_source 82 = .ok (.ireturn, 1) := by decide +kernel
set_option maxRecDepth 20000 in
theorem ggX7_next_X3_isThere : GoodIn wsX7_next wsX3_isThere := goodIn_r _ [7, 8, 9, 10, 11, 12, 13, 14, 26, 27, 28, 29, 30, 31, 32, 33, 34] (by decide +kernel) (by decide +kernel)
set_option maxRecDepth 20000 in
theorem gX7_next_X3_isThere : GoodIn wsX7_next (wsV RX7 108 RX3 yX3_isThere wsX3_isThere) := goodIn_app (goodIn_of _ (by decide +kernel)) ggX7_next_X3_isThere
set_option maxRecDepth 20000 in
theorem ggX7_next_X7_goes : GoodIn wsX7_next wsX7_goes := goodIn_r _ [19, 20, 1, 13, 11, 14, 21, 22, 23, 24, 25, 35, 36, 37, 26, 27, 28, 29, 30, 31, 32, 33, 34] (by decide +kernel) (by decide +kernel)
set_option maxRecDepth 20000 in
theorem gX7_next_X7_goes : GoodIn wsX7_next (wsV RX7 100 RX7 yX7_goes wsX7_goes) := goodIn_app (goodIn_of _ (by decide +kernel)) ggX7_next_X7_goes
theorem dX7_next_0 : decode cX7_next 0 = .ok (.iconst (-1), 1) := by decide +kernel
theorem dX7_next_1 : decode cX7_next 1 = .ok (.istore_n 3, 1) := by decide +kernel
theorem dX7_next_2 : decode cX7_next 2 = .ok (.iconst 0, 1) := by decide +kernel
theorem dX7_next_3 : decode cX7_next 3 = .ok (.istore 4, 2) := by decide +kernel
theorem dX7_next_5 : decode cX7_next 5 = .ok (.iload 4, 2) := by decide +kernel
theorem dX7_next_7 : decode cX7_next 7 = .ok (.aload_n 0, 1) := by decide +kernel
theorem dX7_next_8 : decode cX7_next 8 = .ok (.getfield 23, 3) := by decide +kernel
theorem dX7_next_11 : decode cX7_next 11 = .ok (.getfield 104, 3) := by decide +kernel
theorem dX7_next_14 : decode cX7_next 14 = .ok (.if_icmp .ge 101, 3) := by decide +kernel
theorem dX7_next_17 : decode cX7_next 17 = .ok (.aload_n 0, 1) := by decide +kernel
theorem dX7_next_18 : decode cX7_next 18 = .ok (.getfield 23, 3) := by decide +kernel
theorem dX7_next_21 : decode cX7_next 21 = .ok (.getfield 105, 3) := by decide +kernel
theorem dX7_next_24 : decode cX7_next 24 = .ok (.iload 4, 2) := by decide +kernel
theorem dX7_next_26 : decode cX7_next 26 = .ok (.iaload, 1) := by decide +kernel
theorem dX7_next_27 : decode cX7_next 27 = .ok (.istore 5, 2) := by decide +kernel
theorem dX7_next_29 : decode cX7_next 29 = .ok (.aload_n 0, 1) := by decide +kernel
theorem dX7_next_30 : decode cX7_next 30 = .ok (.getfield 23, 3) := by decide +kernel
theorem dX7_next_33 : decode cX7_next 33 = .ok (.iload 4, 2) := by decide +kernel
theorem dX7_next_35 : decode cX7_next 35 = .ok (.invokevirtual 108, 3) := by decide +kernel
theorem dX7_next_38 : decode cX7_next 38 = .ok (.ifCond .eq 49, 3) := by decide +kernel
theorem dX7_next_41 : decode cX7_next 41 = .ok (.aload_n 0, 1) := by decide +kernel
theorem dX7_next_42 : decode cX7_next 42 = .ok (.getfield 23, 3) := by decide +kernel
theorem dX7_next_45 : decode cX7_next 45 = .ok (.getfield 97, 3) := by decide +kernel
theorem dX7_next_48 : decode cX7_next 48 = .ok (.iload 4, 2) := by decide +kernel
theorem dX7_next_50 : decode cX7_next 50 = .ok (.iaload, 1) := by decide +kernel
theorem dX7_next_51 : decode cX7_next 51 = .ok (.iload_n 2, 1) := by decide +kernel
theorem dX7_next_52 : decode cX7_next 52 = .ok (.if_icmp .ne 35, 3) := by decide +kernel
theorem dX7_next_55 : decode cX7_next 55 = .ok (.aload_n 0, 1) := by decide +kernel
theorem dX7_next_56 : decode cX7_next 56 = .ok (.iload_n 1, 1) := by decide +kernel
theorem dX7_next_57 : decode cX7_next 57 = .ok (.iload 4, 2) := by decide +kernel
theorem dX7_next_59 : decode cX7_next 59 = .ok (.invokevirtual 100, 3) := by decide +kernel
theorem dX7_next_62 : decode cX7_next 62 = .ok (.ifCond .eq 25, 3) := by decide +kernel
theorem dX7_next_65 : decode cX7_next 65 = .ok (.aload_n 0, 1) := by decide +kernel
theorem dX7_next_66 : decode cX7_next 66 = .ok (.getfield 9, 3) := by decide +kernel
theorem dX7_next_69 : decode cX7_next 69 = .ok (.iload 5, 2) := by decide +kernel
theorem dX7_next_71 : decode cX7_next 71 = .ok (.iaload, 1) := by decide +kernel
theorem dX7_next_72 : decode cX7_next 72 = .ok (.aload_n 0, 1) := by decide +kernel
theorem dX7_next_73 : decode cX7_next 73 = .ok (.getfield 9, 3) := by decide +kernel
theorem dX7_next_76 : decode cX7_next 76 = .ok (.iload_n 2, 1) := by decide +kernel
theorem dX7_next_77 : decode cX7_next 77 = .ok (.iaload, 1) := by decide +kernel
theorem dX7_next_78 : decode cX7_next 78 = .ok (.iconst 1, 1) := by decide +kernel
theorem dX7_next_79 : decode cX7_next 79 = .ok (.isub, 1) := by decide +kernel
theorem dX7_next_80 : decode cX7_next 80 = .ok (.if_icmp .ne 7, 3) := by decide +kernel
theorem dX7_next_83 : decode cX7_next 83 = .ok (.iconst 1, 1) := by decide +kernel
theorem dX7_next_84 : decode cX7_next 84 = .ok (.goto 4, 3) := by decide +kernel
theorem dX7_next_87 : decode cX7_next 87 = .ok (.iconst 0, 1) := by decide +kernel
theorem dX7_next_88 : decode cX7_next 88 = .ok (.istore 6, 2) := by decide +kernel
theorem dX7_next_90 : decode cX7_next 90 = .ok (.iload 6, 2) := by decide +kernel
theorem dX7_next_92 : decode cX7_next 92 = .ok (.ifCond .eq 17, 3) := by decide +kernel
theorem dX7_next_95 : decode cX7_next 95 = .ok (.iload_n 3, 1) := by decide +kernel
theorem dX7_next_96 : decode cX7_next 96 = .ok (.iconst (-1), 1) := by decide +kernel
theorem dX7_next_97 : decode cX7_next 97 = .ok (.if_icmp .eq 9, 3) := by decide +kernel
theorem dX7_next_100 : decode cX7_next 100 = .ok (.iload 5, 2) := by decide +kernel
theorem dX7_next_102 : decode cX7_next 102 = .ok (.iload_n 3, 1) := by decide +kernel
theorem dX7_next_103 : decode cX7_next 103 = .ok (.if_icmp .ge 6, 3) := by decide +kernel
theorem dX7_next_106 : decode cX7_next 106 = .ok (.iload 5, 2) := by decide +kernel
theorem dX7_next_108 : decode cX7_next 108 = .ok (.istore_n 3, 1) := by decide +kernel
theorem dX7_next_109 : decode cX7_next 109 = .ok (.iinc 4 1, 3) := by decide +kernel
theorem dX7_next_112 : decode cX7_next 112 = .ok (.goto (-107), 3) := by decide +kernel
theorem dX7_next_115 : decode cX7_next 115 = .ok (.iload_n 3, 1) := by decide +kernel
theorem dX7_next_116 : decode cX7_next 116 = .ok (.ireturn, 1) := by decide +kernel
set_option maxRecDepth 20000 in
theorem ggX8_init_X6_init : GoodIn wsX8_init wsX6_init := goodIn_r _ [37, 38, 2, 3, 39, 40, 41, 42, 107, 108, 109] (by decide +kernel) (by decide +kernel)
set_option maxRecDepth 20000 in
theorem gX8_init_X6_init_n11 : GoodIn wsX8_init (wsX6_init) := ggX8_init_X6_init
set_option maxRecDepth 20000 in
theorem ggX8_init_X5_init : GoodIn wsX8_init wsX5_init := goodIn_r _ [44, 45, 2, 3, 46, 47, 48, 49, 39, 50, 118, 119, 120, 121, 122, 123] (by decide +kernel) (by decide +kernel)
set_option maxRecDepth 20000 in
theorem gX8_init_X5_init_n18 : GoodIn wsX8_init (wsX5_init) := ggX8_init_X5_init
set_option maxRecDepth 20000 in
theorem ggX8_init_X3_init : GoodIn wsX8_init wsX3_init := goodIn_r _ [53, 54, 2, 3, 46, 55, 56, 57, 58, 59, 60, 61, 124, 125, 126, 127, 128, 129, 130, 131, 132] (by decide +kernel) (by decide +kernel)
set_option maxRecDepth 20000 in
theorem gX8_init_X3_init : GoodIn wsX8_init (wsX3_init) := ggX8_init_X3_init
set_option maxRecDepth 20000 in
theorem ggX8_init_X0_init : GoodIn wsX8_init wsX0_init := goodIn_r _ [63, 64, 2, 3, 46, 65, 66, 67, 68, 133, 134, 135, 136, 137] (by decide +kernel) (by decide +kernel)
set_option maxRecDepth 20000 in
theorem gX8_init_X0_init_n32 : GoodIn wsX8_init (wsX0_init) := ggX8_init_X0_init
set_option maxRecDepth 20000 in
theorem ggX8_init_X2_init : GoodIn wsX8_init wsX2_init := goodIn_r _ [71, 72, 2, 3, 39, 73, 74, 75, 76, 77, 138, 139, 140, 141, 142] (by decide +kernel) (by decide +kernel)
set_option maxRecDepth 20000 in
theorem gX8_init_X2_init : GoodIn wsX8_init (wsX2_init) := ggX8_init_X2_init
set_option maxRecDepth 20000 in
theorem ggX8_init_X1_init : GoodIn wsX8_init wsX1_init := goodIn_r _ [80, 81, 2, 3, 46, 82, 83, 84, 85, 86, 87, 88, 143, 144, 145, 146, 147, 148, 149, 150, 151, 152] (by decide +kernel) (by decide +kernel)
set_option maxRecDepth 20000 in
theorem gX8_init_X1_init : GoodIn wsX8_init (wsX1_init) := ggX8_init_X1_init
set_option maxRecDepth 20000 in
theorem ggX8_init_X4_init : GoodIn wsX8_init wsX4_init := goodIn_r _ [91, 92, 2, 3, 46, 93, 94, 95, 96, 97, 153, 154, 155, 156, 157] (by decide +kernel) (by decide +kernel)
set_option maxRecDepth 20000 in
theorem gX8_init_X4_init : GoodIn wsX8_init (wsX4_init) := ggX8_init_X4_init
set_option maxRecDepth 20000 in
theorem ggX8_init_X7_init : GoodIn wsX8_init wsX7_init := goodIn_r _ [100, 101, 2, 3, 46, 102, 103, 104, 105, 106, 158, 159, 160, 161, 162] (by decide +kernel) (by decide +kernel)
set_option maxRecDepth 20000 in
theorem gX8_init_X7_init : GoodIn wsX8_init (wsX7_init) := ggX8_init_X7_init
theorem dX8_init_0 : decode cX8_init 0 = .ok (.aload_n 0, 1) := by decide +kernel
theorem dX8_init_1 : decode cX8_init 1 = .ok (.invokespecial 3, 3) := by decide +kernel
theorem dX8_init_4 : decode cX8_init 4 = .ok (.aload_n 0, 1) := by decide +kernel
theorem dX8_init_5 : decode cX8_init 5 = .ok (.new 9, 3) := by decide +kernel
theorem dX8_init_8 : decode cX8_init 8 = .ok (.dup, 1) := by decide +kernel
theorem dX8_init_9 : decode cX8_init 9 = .ok (.invokespecial 11, 3) := by decide +kernel
theorem dX8_init_12 : decode cX8_init 12 = .ok (.putfield 12, 3) := by decide +kernel
theorem dX8_init_15 : decode cX8_init 15 = .ok (.aload_n 0, 1) := by decide +kernel
theorem dX8_init_16 : decode cX8_init 16 = .ok (.new 16, 3) := by decide +kernel
theorem dX8_init_19 : decode cX8_init 19 = .ok (.dup, 1) := by decide +kernel
theorem dX8_init_20 : decode cX8_init 20 = .ok (.invokespecial 18, 3) := by decide +kernel
theorem dX8_init_23 : decode cX8_init 23 = .ok (.putfield 19, 3) := by decide +kernel
theorem dX8_init_26 : decode cX8_init 26 = .ok (.aload_n 0, 1) := by decide +kernel
theorem dX8_init_27 : decode cX8_init 27 = .ok (.new 23, 3) := by decide +kernel
theorem dX8_init_30 : decode cX8_init 30 = .ok (.dup, 1) := by decide +kernel
theorem dX8_init_31 : decode cX8_init 31 = .ok (.invokespecial 25, 3) := by decide +kernel
theorem dX8_init_34 : decode cX8_init 34 = .ok (.putfield 26, 3) := by decide +kernel
theorem dX8_init_37 : decode cX8_init 37 = .ok (.aload_n 0, 1) := by decide +kernel
theorem dX8_init_38 : decode cX8_init 38 = .ok (.new 30, 3) := by decide +kernel
theorem dX8_init_41 : decode cX8_init 41 = .ok (.dup, 1) := by decide +kernel
theorem dX8_init_42 : decode cX8_init 42 = .ok (.invokespecial 32, 3) := by decide +kernel
theorem dX8_init_45 : decode cX8_init 45 = .ok (.putfield 33, 3) := by decide +kernel
theorem dX8_init_48 : decode cX8_init 48 = .ok (.aload_n 0, 1) := by decide +kernel
theorem dX8_init_49 : decode cX8_init 49 = .ok (.new 37, 3) := by decide +kernel
theorem dX8_init_52 : decode cX8_init 52 = .ok (.dup, 1) := by decide +kernel
theorem dX8_init_53 : decode cX8_init 53 = .ok (.aload_n 0, 1) := by decide +kernel
theorem dX8_init_54 : decode cX8_init 54 = .ok (.getfield 12, 3) := by decide +kernel
theorem dX8_init_57 : decode cX8_init 57 = .ok (.aload_n 0, 1) := by decide +kernel
theorem dX8_init_58 : decode cX8_init 58 = .ok (.getfield 19, 3) := by decide +kernel
theorem dX8_init_61 : decode cX8_init 61 = .ok (.aload_n 0, 1) := by decide +kernel
theorem dX8_init_62 : decode cX8_init 62 = .ok (.getfield 26, 3) := by decide +kernel
theorem dX8_init_65 : decode cX8_init 65 = .ok (.invokespecial 39, 3) := by decide +kernel
theorem dX8_init_68 : decode cX8_init 68 = .ok (.putfield 42, 3) := by decide +kernel
theorem dX8_init_71 : decode cX8_init 71 = .ok (.aload_n 0, 1) := by decide +kernel
theorem dX8_init_72 : decode cX8_init 72 = .ok (.new 46, 3) := by decide +kernel
theorem dX8_init_75 : decode cX8_init 75 = .ok (.dup, 1) := by decide +kernel
theorem dX8_init_76 : decode cX8_init 76 = .ok (.aload_n 0, 1) := by decide +kernel
theorem dX8_init_77 : decode cX8_init 77 = .ok (.getfield 19, 3) := by decide +kernel
theorem dX8_init_80 : decode cX8_init 80 = .ok (.aload_n 0, 1) := by decide +kernel
theorem dX8_init_81 : decode cX8_init 81 = .ok (.getfield 26, 3) := by decide +kernel
theorem dX8_init_84 : decode cX8_init 84 = .ok (.aload_n 0, 1) := by decide +kernel
theorem dX8_init_85 : decode cX8_init 85 = .ok (.getfield 42, 3) := by decide +kernel
theorem dX8_init_88 : decode cX8_init 88 = .ok (.invokespecial 48, 3) := by decide +kernel
theorem dX8_init_91 : decode cX8_init 91 = .ok (.putfield 51, 3) := by decide +kernel
theorem dX8_init_94 : decode cX8_init 94 = .ok (.aload_n 0, 1) := by decide +kernel
theorem dX8_init_95 : decode cX8_init 95 = .ok (.new 55, 3) := by decide +kernel
theorem dX8_init_98 : decode cX8_init 98 = .ok (.dup, 1) := by decide +kernel
theorem dX8_init_99 : decode cX8_init 99 = .ok (.aload_n 0, 1) := by decide +kernel
theorem dX8_init_100 : decode cX8_init 100 = .ok (.getfield 19, 3) := by decide +kernel
theorem dX8_init_103 : decode cX8_init 103 = .ok (.aload_n 0, 1) := by decide +kernel
theorem dX8_init_104 : decode cX8_init 104 = .ok (.getfield 26, 3) := by decide +kernel
theorem dX8_init_107 : decode cX8_init 107 = .ok (.aload_n 0, 1) := by decide +kernel
theorem dX8_init_108 : decode cX8_init 108 = .ok (.getfield 33, 3) := by decide +kernel
theorem dX8_init_111 : decode cX8_init 111 = .ok (.aload_n 0, 1) := by decide +kernel
theorem dX8_init_112 : decode cX8_init 112 = .ok (.getfield 42, 3) := by decide +kernel
theorem dX8_init_115 : decode cX8_init 115 = .ok (.invokespecial 57, 3) := by decide +kernel
theorem dX8_init_118 : decode cX8_init 118 = .ok (.putfield 60, 3) := by decide +kernel
theorem dX8_init_121 : decode cX8_init 121 = .ok (.aload_n 0, 1) := by decide +kernel
theorem dX8_init_122 : decode cX8_init 122 = .ok (.new 64, 3) := by decide +kernel
theorem dX8_init_125 : decode cX8_init 125 = .ok (.dup, 1) := by decide +kernel
theorem dX8_init_126 : decode cX8_init 126 = .ok (.aload_n 0, 1) := by decide +kernel
theorem dX8_init_127 : decode cX8_init 127 = .ok (.getfield 12, 3) := by decide +kernel
theorem dX8_init_130 : decode cX8_init 130 = .ok (.aload_n 0, 1) := by decide +kernel
theorem dX8_init_131 : decode cX8_init 131 = .ok (.getfield 19, 3) := by decide +kernel
theorem dX8_init_134 : decode cX8_init 134 = .ok (.aload_n 0, 1) := by decide +kernel
theorem dX8_init_135 : decode cX8_init 135 = .ok (.getfield 26, 3) := by decide +kernel
theorem dX8_init_138 : decode cX8_init 138 = .ok (.aload_n 0, 1) := by decide +kernel
theorem dX8_init_139 : decode cX8_init 139 = .ok (.getfield 42, 3) := by decide +kernel
theorem dX8_init_142 : decode cX8_init 142 = .ok (.invokespecial 66, 3) := by decide +kernel
theorem dX8_init_145 : decode cX8_init 145 = .ok (.putfield 69, 3) := by decide +kernel
theorem dX8_init_148 : decode cX8_init 148 = .ok (.return_, 1) := by decide +kernel
set_option maxRecDepth 20000 in
theorem ggX8_asks_X8_isPair : GoodIn wsX8_asks wsX8_isPair := goodIn_r _ [5, 6, 7, 4, 8] (by decide +kernel) (by decide +kernel)
set_option maxRecDepth 20000 in
theorem gX8_asks_X8_isPair : GoodIn wsX8_asks (va_wsS RX8 73 yX8_isPair wsX8_isPair) := goodIn_app (goodIn_of _ (by decide +kernel)) ggX8_asks_X8_isPair
set_option maxRecDepth 20000 in
theorem ggX8_asks_X8_within : GoodIn wsX8_asks wsX8_within := goodIn_r _ [8] (by decide +kernel) (by decide +kernel)
set_option maxRecDepth 20000 in
theorem gX8_asks_X8_within : GoodIn wsX8_asks (va_wsS RX8 77 yX8_within wsX8_within) := goodIn_app (goodIn_of _ (by decide +kernel)) ggX8_asks_X8_within
set_option maxRecDepth 20000 in
theorem ggX8_asks_X8_pairOf : GoodIn wsX8_asks wsX8_pairOf := goodIn_r _ [11] (by decide +kernel) (by decide +kernel)
set_option maxRecDepth 20000 in
theorem gX8_asks_X8_pairOf : GoodIn wsX8_asks (va_wsS RX8 80 yX8_pairOf wsX8_pairOf) := goodIn_app (goodIn_of _ (by decide +kernel)) ggX8_asks_X8_pairOf
set_option maxRecDepth 20000 in
theorem ggX8_asks_X6_tellAsk : GoodIn wsX8_asks wsX6_tellAsk := goodIn_r _ [16, 17, 18, 19, 20, 15, 21, 22, 23, 4, 24, 33, 34, 35] (by decide +kernel) (by decide +kernel)
set_option maxRecDepth 20000 in
theorem gX8_asks_X6_tellAsk : GoodIn wsX8_asks (wsV RX8 84 RX6 yX6_tellAsk wsX6_tellAsk) := goodIn_app (goodIn_of _ (by decide +kernel)) ggX8_asks_X6_tellAsk
theorem dX8_asks_0 : decode cX8_asks 0 = .ok (.iload_n 1, 1) := by decide +kernel
theorem dX8_asks_1 : decode cX8_asks 1 = .ok (.iload_n 2, 1) := by decide +kernel
theorem dX8_asks_2 : decode cX8_asks 2 = .ok (.invokestatic 73, 3) := by decide +kernel
theorem dX8_asks_5 : decode cX8_asks 5 = .ok (.ifCond .eq 22, 3) := by decide +kernel
theorem dX8_asks_8 : decode cX8_asks 8 = .ok (.iload_n 3, 1) := by decide +kernel
theorem dX8_asks_9 : decode cX8_asks 9 = .ok (.bipush 16, 2) := by decide +kernel
theorem dX8_asks_11 : decode cX8_asks 11 = .ok (.invokestatic 77, 3) := by decide +kernel
theorem dX8_asks_14 : decode cX8_asks 14 = .ok (.ifCond .eq 13, 3) := by decide +kernel
theorem dX8_asks_17 : decode cX8_asks 17 = .ok (.iload 4, 2) := by decide +kernel
theorem dX8_asks_19 : decode cX8_asks 19 = .ok (.bipush 16, 2) := by decide +kernel
theorem dX8_asks_21 : decode cX8_asks 21 = .ok (.invokestatic 77, 3) := by decide +kernel
theorem dX8_asks_24 : decode cX8_asks 24 = .ok (.ifCond .ne 5, 3) := by decide +kernel
theorem dX8_asks_27 : decode cX8_asks 27 = .ok (.iconst 0, 1) := by decide +kernel
theorem dX8_asks_28 : decode cX8_asks 28 = .ok (.ireturn, 1) := by decide +kernel
theorem dX8_asks_29 : decode cX8_asks 29 = .ok (.aload_n 0, 1) := by decide +kernel
theorem dX8_asks_30 : decode cX8_asks 30 = .ok (.getfield 12, 3) := by decide +kernel
theorem dX8_asks_33 : decode cX8_asks 33 = .ok (.iload_n 1, 1) := by decide +kernel
theorem dX8_asks_34 : decode cX8_asks 34 = .ok (.iload_n 2, 1) := by decide +kernel
theorem dX8_asks_35 : decode cX8_asks 35 = .ok (.invokestatic 80, 3) := by decide +kernel
theorem dX8_asks_38 : decode cX8_asks 38 = .ok (.iload_n 3, 1) := by decide +kernel
theorem dX8_asks_39 : decode cX8_asks 39 = .ok (.iload 4, 2) := by decide +kernel
theorem dX8_asks_41 : decode cX8_asks 41 = .ok (.invokevirtual 84, 3) := by decide +kernel
theorem dX8_asks_44 : decode cX8_asks 44 = .ok (.iconst 1, 1) := by decide +kernel
theorem dX8_asks_45 : decode cX8_asks 45 = .ok (.ireturn, 1) := by decide +kernel
set_option maxRecDepth 20000 in
theorem ggX8_bars_X8_within : GoodIn wsX8_bars wsX8_within := goodIn_r _ [5] (by decide +kernel) (by decide +kernel)
set_option maxRecDepth 20000 in
theorem gX8_bars_X8_within : GoodIn wsX8_bars (va_wsS RX8 77 yX8_within wsX8_within) := goodIn_app (goodIn_of _ (by decide +kernel)) ggX8_bars_X8_within
set_option maxRecDepth 20000 in
theorem ggX8_bars_X6_tellBars : GoodIn wsX8_bars wsX6_tellBars := goodIn_r _ [10, 11, 12, 4, 13, 22, 23, 24] (by decide +kernel) (by decide +kernel)
set_option maxRecDepth 20000 in
theorem gX8_bars_X6_tellBars : GoodIn wsX8_bars (wsV RX8 88 RX6 yX6_tellBars wsX6_tellBars) := goodIn_app (goodIn_of _ (by decide +kernel)) ggX8_bars_X6_tellBars
theorem dX8_bars_0 : decode cX8_bars 0 = .ok (.iload_n 1, 1) := by decide +kernel
theorem dX8_bars_1 : decode cX8_bars 1 = .ok (.bipush 8, 2) := by decide +kernel
theorem dX8_bars_3 : decode cX8_bars 3 = .ok (.invokestatic 77, 3) := by decide +kernel
theorem dX8_bars_6 : decode cX8_bars 6 = .ok (.ifCond .eq 13, 3) := by decide +kernel
theorem dX8_bars_9 : decode cX8_bars 9 = .ok (.iload_n 2, 1) := by decide +kernel
theorem dX8_bars_10 : decode cX8_bars 10 = .ok (.sipush 256, 3) := by decide +kernel
theorem dX8_bars_13 : decode cX8_bars 13 = .ok (.invokestatic 77, 3) := by decide +kernel
theorem dX8_bars_16 : decode cX8_bars 16 = .ok (.ifCond .ne 5, 3) := by decide +kernel
theorem dX8_bars_19 : decode cX8_bars 19 = .ok (.iconst 0, 1) := by decide +kernel
theorem dX8_bars_20 : decode cX8_bars 20 = .ok (.ireturn, 1) := by decide +kernel
theorem dX8_bars_21 : decode cX8_bars 21 = .ok (.aload_n 0, 1) := by decide +kernel
theorem dX8_bars_22 : decode cX8_bars 22 = .ok (.getfield 12, 3) := by decide +kernel
theorem dX8_bars_25 : decode cX8_bars 25 = .ok (.iload_n 1, 1) := by decide +kernel
theorem dX8_bars_26 : decode cX8_bars 26 = .ok (.iload_n 2, 1) := by decide +kernel
theorem dX8_bars_27 : decode cX8_bars 27 = .ok (.invokevirtual 88, 3) := by decide +kernel
theorem dX8_bars_30 : decode cX8_bars 30 = .ok (.iconst 1, 1) := by decide +kernel
theorem dX8_bars_31 : decode cX8_bars 31 = .ok (.ireturn, 1) := by decide +kernel
set_option maxRecDepth 20000 in
theorem ggX8_part_X8_isRowOfChoices : GoodIn wsX8_part wsX8_isRowOfChoices := goodIn_r _ [5, 6, 7, 4, 8] (by decide +kernel) (by decide +kernel)
set_option maxRecDepth 20000 in
theorem gX8_part_X8_isRowOfChoices : GoodIn wsX8_part (va_wsS RX8 92 yX8_isRowOfChoices wsX8_isRowOfChoices) := goodIn_app (goodIn_of _ (by decide +kernel)) ggX8_part_X8_isRowOfChoices
set_option maxRecDepth 20000 in
theorem ggX8_part_X5_add : GoodIn wsX8_part wsX5_add := goodIn_r _ [13, 14, 15, 16, 17, 26, 27, 28, 29, 30, 31] (by decide +kernel) (by decide +kernel)
set_option maxRecDepth 20000 in
theorem gX8_part_X5_add : GoodIn wsX8_part (wsV RX8 100 RX5 yX5_add wsX5_add) := goodIn_app (goodIn_of _ (by decide +kernel)) ggX8_part_X5_add
theorem dX8_part_0 : decode cX8_part 0 = .ok (.iload_n 1, 1) := by decide +kernel
theorem dX8_part_1 : decode cX8_part 1 = .ok (.iload_n 2, 1) := by decide +kernel
theorem dX8_part_2 : decode cX8_part 2 = .ok (.iload_n 3, 1) := by decide +kernel
theorem dX8_part_3 : decode cX8_part 3 = .ok (.invokestatic 92, 3) := by decide +kernel
theorem dX8_part_6 : decode cX8_part 6 = .ok (.ifCond .eq 15, 3) := by decide +kernel
theorem dX8_part_9 : decode cX8_part 9 = .ok (.aload_n 0, 1) := by decide +kernel
theorem dX8_part_10 : decode cX8_part 10 = .ok (.getfield 19, 3) := by decide +kernel
theorem dX8_part_13 : decode cX8_part 13 = .ok (.getfield 96, 3) := by decide +kernel
theorem dX8_part_16 : decode cX8_part 16 = .ok (.bipush 24, 2) := by decide +kernel
theorem dX8_part_18 : decode cX8_part 18 = .ok (.if_icmp .lt 5, 3) := by decide +kernel
theorem dX8_part_21 : decode cX8_part 21 = .ok (.iconst (-1), 1) := by decide +kernel
theorem dX8_part_22 : decode cX8_part 22 = .ok (.ireturn, 1) := by decide +kernel
theorem dX8_part_23 : decode cX8_part 23 = .ok (.aload_n 0, 1) := by decide +kernel
theorem dX8_part_24 : decode cX8_part 24 = .ok (.getfield 19, 3) := by decide +kernel
theorem dX8_part_27 : decode cX8_part 27 = .ok (.iload_n 1, 1) := by decide +kernel
theorem dX8_part_28 : decode cX8_part 28 = .ok (.iload_n 2, 1) := by decide +kernel
theorem dX8_part_29 : decode cX8_part 29 = .ok (.iload_n 3, 1) := by decide +kernel
theorem dX8_part_30 : decode cX8_part 30 = .ok (.invokevirtual 100, 3) := by decide +kernel
theorem dX8_part_33 : decode cX8_part 33 = .ok (.ireturn, 1) := by decide +kernel
set_option maxRecDepth 20000 in
theorem ggX8_take_X5_has : GoodIn wsX8_take wsX5_has := goodIn_r _ [6, 7, 8, 9, 10, 25, 26, 27, 28, 29, 30] (by decide +kernel) (by decide +kernel)
set_option maxRecDepth 20000 in
theorem gX8_take_X5_has : GoodIn wsX8_take (wsV RX8 104 RX5 yX5_has wsX5_has) := goodIn_app (goodIn_of _ (by decide +kernel)) ggX8_take_X5_has
set_option maxRecDepth 20000 in
theorem ggX8_take_X8_within : GoodIn wsX8_take wsX8_within := goodIn_r _ [10] (by decide +kernel) (by decide +kernel)
set_option maxRecDepth 20000 in
theorem gX8_take_X8_within : GoodIn wsX8_take (va_wsS RX8 77 yX8_within wsX8_within) := goodIn_app (goodIn_of _ (by decide +kernel)) ggX8_take_X8_within
set_option maxRecDepth 20000 in
theorem ggX8_take_X5_choiceOf : GoodIn wsX8_take wsX5_choiceOf := goodIn_r _ [15, 16, 25, 26, 27, 28, 29, 30] (by decide +kernel) (by decide +kernel)
set_option maxRecDepth 20000 in
theorem gX8_take_X5_choiceOf : GoodIn wsX8_take (wsV RX8 112 RX5 yX5_choiceOf wsX5_choiceOf) := goodIn_app (goodIn_of _ (by decide +kernel)) ggX8_take_X5_choiceOf
theorem dX8_take_0 : decode cX8_take 0 = .ok (.aload_n 0, 1) := by decide +kernel
theorem dX8_take_1 : decode cX8_take 1 = .ok (.getfield 19, 3) := by decide +kernel
theorem dX8_take_4 : decode cX8_take 4 = .ok (.iload_n 1, 1) := by decide +kernel
theorem dX8_take_5 : decode cX8_take 5 = .ok (.invokevirtual 104, 3) := by decide +kernel
theorem dX8_take_8 : decode cX8_take 8 = .ok (.ifCond .eq 19, 3) := by decide +kernel
theorem dX8_take_11 : decode cX8_take 11 = .ok (.iload_n 2, 1) := by decide +kernel
theorem dX8_take_12 : decode cX8_take 12 = .ok (.aload_n 0, 1) := by decide +kernel
theorem dX8_take_13 : decode cX8_take 13 = .ok (.getfield 19, 3) := by decide +kernel
theorem dX8_take_16 : decode cX8_take 16 = .ok (.getfield 108, 3) := by decide +kernel
theorem dX8_take_19 : decode cX8_take 19 = .ok (.iload_n 1, 1) := by decide +kernel
theorem dX8_take_20 : decode cX8_take 20 = .ok (.iaload, 1) := by decide +kernel
theorem dX8_take_21 : decode cX8_take 21 = .ok (.invokestatic 77, 3) := by decide +kernel
theorem dX8_take_24 : decode cX8_take 24 = .ok (.ifCond .ne 5, 3) := by decide +kernel
theorem dX8_take_27 : decode cX8_take 27 = .ok (.iconst 0, 1) := by decide +kernel
theorem dX8_take_28 : decode cX8_take 28 = .ok (.ireturn, 1) := by decide +kernel
theorem dX8_take_29 : decode cX8_take 29 = .ok (.aload_n 0, 1) := by decide +kernel
theorem dX8_take_30 : decode cX8_take 30 = .ok (.getfield 19, 3) := by decide +kernel
theorem dX8_take_33 : decode cX8_take 33 = .ok (.iload_n 1, 1) := by decide +kernel
theorem dX8_take_34 : decode cX8_take 34 = .ok (.iload_n 2, 1) := by decide +kernel
theorem dX8_take_35 : decode cX8_take 35 = .ok (.invokevirtual 112, 3) := by decide +kernel
theorem dX8_take_38 : decode cX8_take 38 = .ok (.istore_n 3, 1) := by decide +kernel
theorem dX8_take_39 : decode cX8_take 39 = .ok (.aload_n 0, 1) := by decide +kernel
theorem dX8_take_40 : decode cX8_take 40 = .ok (.getfield 19, 3) := by decide +kernel
theorem dX8_take_43 : decode cX8_take 43 = .ok (.getfield 115, 3) := by decide +kernel
theorem dX8_take_46 : decode cX8_take 46 = .ok (.iload_n 1, 1) := by decide +kernel
theorem dX8_take_47 : decode cX8_take 47 = .ok (.iaload, 1) := by decide +kernel
theorem dX8_take_48 : decode cX8_take 48 = .ok (.iload_n 3, 1) := by decide +kernel
theorem dX8_take_49 : decode cX8_take 49 = .ok (.if_icmp .ne 5, 3) := by decide +kernel
theorem dX8_take_52 : decode cX8_take 52 = .ok (.iconst 0, 1) := by decide +kernel
theorem dX8_take_53 : decode cX8_take 53 = .ok (.ireturn, 1) := by decide +kernel
theorem dX8_take_54 : decode cX8_take 54 = .ok (.aload_n 0, 1) := by decide +kernel
theorem dX8_take_55 : decode cX8_take 55 = .ok (.getfield 19, 3) := by decide +kernel
theorem dX8_take_58 : decode cX8_take 58 = .ok (.getfield 115, 3) := by decide +kernel
theorem dX8_take_61 : decode cX8_take 61 = .ok (.iload_n 1, 1) := by decide +kernel
theorem dX8_take_62 : decode cX8_take 62 = .ok (.iload_n 3, 1) := by decide +kernel
theorem dX8_take_63 : decode cX8_take 63 = .ok (.iastore, 1) := by decide +kernel
theorem dX8_take_64 : decode cX8_take 64 = .ok (.iconst 1, 1) := by decide +kernel
theorem dX8_take_65 : decode cX8_take 65 = .ok (.ireturn, 1) := by decide +kernel
set_option maxRecDepth 20000 in
theorem ggX8_join_X5_has : GoodIn wsX8_join wsX5_has := goodIn_r _ [7, 8, 9, 10, 11, 67, 68, 69, 70, 71, 72] (by decide +kernel) (by decide +kernel)
set_option maxRecDepth 20000 in
theorem gX8_join_X5_has : GoodIn wsX8_join (wsV RX8 104 RX5 yX5_has wsX5_has) := goodIn_app (goodIn_of _ (by decide +kernel)) ggX8_join_X5_has
set_option maxRecDepth 20000 in
theorem ggX8_join_X8_within : GoodIn wsX8_join wsX8_within := goodIn_r _ [11] (by decide +kernel) (by decide +kernel)
set_option maxRecDepth 20000 in
theorem gX8_join_X8_within : GoodIn wsX8_join (va_wsS RX8 77 yX8_within wsX8_within) := goodIn_app (goodIn_of _ (by decide +kernel)) ggX8_join_X8_within
set_option maxRecDepth 20000 in
theorem ggX8_join_X3_leads : GoodIn wsX8_join wsX3_leads := goodIn_r _ [17, 18, 19, 20, 21, 58, 59, 60, 61, 62, 63, 64, 65, 66] (by decide +kernel) (by decide +kernel)
set_option maxRecDepth 20000 in
theorem gX8_join_X3_leads : GoodIn wsX8_join (wsV RX8 119 RX3 yX3_leads wsX3_leads) := goodIn_app (goodIn_of _ (by decide +kernel)) ggX8_join_X3_leads
set_option maxRecDepth 20000 in
theorem ggX8_join_X3_allIn : GoodIn wsX8_join wsX3_allIn := goodIn_r _ [25, 26, 18, 19, 21, 20, 27, 10, 28, 58, 59, 60, 61, 62, 63, 64, 65, 66] (by decide +kernel) (by decide +kernel)
set_option maxRecDepth 20000 in
theorem gX8_join_X3_allIn : GoodIn wsX8_join (wsV RX8 126 RX3 yX3_allIn wsX3_allIn) := goodIn_app (goodIn_of _ (by decide +kernel)) ggX8_join_X3_allIn
set_option maxRecDepth 20000 in
theorem ggX8_join_X8_holds : GoodIn wsX8_join wsX8_holds := goodIn_r _ [28] (by decide +kernel) (by decide +kernel)
set_option maxRecDepth 20000 in
theorem gX8_join_X8_holds : GoodIn wsX8_join (va_wsS RX8 130 yX8_holds wsX8_holds) := goodIn_app (goodIn_of _ (by decide +kernel)) ggX8_join_X8_holds
set_option maxRecDepth 20000 in
theorem ggX8_join_X3_add : GoodIn wsX8_join wsX3_add := goodIn_r _ [33, 34, 20, 35, 36, 37, 38, 39, 40, 16, 41, 18, 21, 19, 27, 10, 28, 42, 43, 44, 45, 26, 46, 47, 48, 49, 58, 59, 60, 61, 62, 63, 64, 65, 66] (by decide +kernel) (by decide +kernel)
set_option maxRecDepth 20000 in
theorem gX8_join_X3_add : GoodIn wsX8_join (wsV RX8 134 RX3 yX3_add wsX3_add) := goodIn_app (goodIn_of _ (by decide +kernel)) ggX8_join_X3_add
theorem dX8_join_0 : decode cX8_join 0 = .ok (.aload_n 0, 1) := by decide +kernel
theorem dX8_join_1 : decode cX8_join 1 = .ok (.getfield 19, 3) := by decide +kernel
theorem dX8_join_4 : decode cX8_join 4 = .ok (.iload_n 1, 1) := by decide +kernel
theorem dX8_join_5 : decode cX8_join 5 = .ok (.invokevirtual 104, 3) := by decide +kernel
theorem dX8_join_8 : decode cX8_join 8 = .ok (.ifCond .eq 34, 3) := by decide +kernel
theorem dX8_join_11 : decode cX8_join 11 = .ok (.aload_n 0, 1) := by decide +kernel
theorem dX8_join_12 : decode cX8_join 12 = .ok (.getfield 19, 3) := by decide +kernel
theorem dX8_join_15 : decode cX8_join 15 = .ok (.iload_n 2, 1) := by decide +kernel
theorem dX8_join_16 : decode cX8_join 16 = .ok (.invokevirtual 104, 3) := by decide +kernel
theorem dX8_join_19 : decode cX8_join 19 = .ok (.ifCond .eq 23, 3) := by decide +kernel
theorem dX8_join_22 : decode cX8_join 22 = .ok (.iload_n 3, 1) := by decide +kernel
theorem dX8_join_23 : decode cX8_join 23 = .ok (.iconst 4, 1) := by decide +kernel
theorem dX8_join_24 : decode cX8_join 24 = .ok (.invokestatic 77, 3) := by decide +kernel
theorem dX8_join_27 : decode cX8_join 27 = .ok (.ifCond .eq 15, 3) := by decide +kernel
theorem dX8_join_30 : decode cX8_join 30 = .ok (.aload_n 0, 1) := by decide +kernel
theorem dX8_join_31 : decode cX8_join 31 = .ok (.getfield 26, 3) := by decide +kernel
theorem dX8_join_34 : decode cX8_join 34 = .ok (.getfield 118, 3) := by decide +kernel
theorem dX8_join_37 : decode cX8_join 37 = .ok (.bipush 40, 2) := by decide +kernel
theorem dX8_join_39 : decode cX8_join 39 = .ok (.if_icmp .lt 5, 3) := by decide +kernel
theorem dX8_join_42 : decode cX8_join 42 = .ok (.iconst (-1), 1) := by decide +kernel
theorem dX8_join_43 : decode cX8_join 43 = .ok (.ireturn, 1) := by decide +kernel
theorem dX8_join_44 : decode cX8_join 44 = .ok (.aload_n 0, 1) := by decide +kernel
theorem dX8_join_45 : decode cX8_join 45 = .ok (.getfield 26, 3) := by decide +kernel
theorem dX8_join_48 : decode cX8_join 48 = .ok (.iload_n 1, 1) := by decide +kernel
theorem dX8_join_49 : decode cX8_join 49 = .ok (.iload_n 2, 1) := by decide +kernel
theorem dX8_join_50 : decode cX8_join 50 = .ok (.invokevirtual 119, 3) := by decide +kernel
theorem dX8_join_53 : decode cX8_join 53 = .ok (.ifCond .ne 26, 3) := by decide +kernel
theorem dX8_join_56 : decode cX8_join 56 = .ok (.aload_n 0, 1) := by decide +kernel
theorem dX8_join_57 : decode cX8_join 57 = .ok (.getfield 26, 3) := by decide +kernel
theorem dX8_join_60 : decode cX8_join 60 = .ok (.iload_n 1, 1) := by decide +kernel
theorem dX8_join_61 : decode cX8_join 61 = .ok (.aload_n 0, 1) := by decide +kernel
theorem dX8_join_62 : decode cX8_join 62 = .ok (.getfield 26, 3) := by decide +kernel
theorem dX8_join_65 : decode cX8_join 65 = .ok (.getfield 122, 3) := by decide +kernel
theorem dX8_join_68 : decode cX8_join 68 = .ok (.invokevirtual 126, 3) := by decide +kernel
theorem dX8_join_71 : decode cX8_join 71 = .ok (.i2l, 1) := by decide +kernel
theorem dX8_join_72 : decode cX8_join 72 = .ok (.iload_n 2, 1) := by decide +kernel
theorem dX8_join_73 : decode cX8_join 73 = .ok (.invokestatic 130, 3) := by decide +kernel
theorem dX8_join_76 : decode cX8_join 76 = .ok (.ifCond .eq 5, 3) := by decide +kernel
theorem dX8_join_79 : decode cX8_join 79 = .ok (.iconst (-1), 1) := by decide +kernel
theorem dX8_join_80 : decode cX8_join 80 = .ok (.ireturn, 1) := by decide +kernel
theorem dX8_join_81 : decode cX8_join 81 = .ok (.aload_n 0, 1) := by decide +kernel
theorem dX8_join_82 : decode cX8_join 82 = .ok (.getfield 26, 3) := by decide +kernel
theorem dX8_join_85 : decode cX8_join 85 = .ok (.iload_n 1, 1) := by decide +kernel
theorem dX8_join_86 : decode cX8_join 86 = .ok (.iload_n 2, 1) := by decide +kernel
theorem dX8_join_87 : decode cX8_join 87 = .ok (.iload_n 3, 1) := by decide +kernel
theorem dX8_join_88 : decode cX8_join 88 = .ok (.invokevirtual 134, 3) := by decide +kernel
theorem dX8_join_91 : decode cX8_join 91 = .ok (.ireturn, 1) := by decide +kernel
set_option maxRecDepth 20000 in
theorem ggX8_cut_X3_isThere : GoodIn wsX8_cut wsX3_isThere := goodIn_r _ [6, 7, 8, 9, 10, 11, 12, 13, 35, 36, 37, 38, 39, 40, 41, 42, 43] (by decide +kernel) (by decide +kernel)
set_option maxRecDepth 20000 in
theorem gX8_cut_X3_isThere : GoodIn wsX8_cut (wsV RX8 135 RX3 yX3_isThere wsX3_isThere) := goodIn_app (goodIn_of _ (by decide +kernel)) ggX8_cut_X3_isThere
set_option maxRecDepth 20000 in
theorem ggX8_cut_X3_remove : GoodIn wsX8_cut wsX3_remove := goodIn_r _ [17, 8, 18, 19, 20, 21, 5, 22, 23, 7, 24, 25, 26, 12, 10, 13, 35, 36, 37, 38, 39, 40, 41, 42, 43] (by decide +kernel) (by decide +kernel)
set_option maxRecDepth 20000 in
theorem gX8_cut_X3_remove : GoodIn wsX8_cut (wsV RX8 138 RX3 yX3_remove wsX3_remove) := goodIn_app (goodIn_of _ (by decide +kernel)) ggX8_cut_X3_remove
theorem dX8_cut_0 : decode cX8_cut 0 = .ok (.aload_n 0, 1) := by decide +kernel
theorem dX8_cut_1 : decode cX8_cut 1 = .ok (.getfield 26, 3) := by decide +kernel
theorem dX8_cut_4 : decode cX8_cut 4 = .ok (.iload_n 1, 1) := by decide +kernel
theorem dX8_cut_5 : decode cX8_cut 5 = .ok (.invokevirtual 135, 3) := by decide +kernel
theorem dX8_cut_8 : decode cX8_cut 8 = .ok (.ifCond .ne 5, 3) := by decide +kernel
theorem dX8_cut_11 : decode cX8_cut 11 = .ok (.iconst 0, 1) := by decide +kernel
theorem dX8_cut_12 : decode cX8_cut 12 = .ok (.ireturn, 1) := by decide +kernel
theorem dX8_cut_13 : decode cX8_cut 13 = .ok (.aload_n 0, 1) := by decide +kernel
theorem dX8_cut_14 : decode cX8_cut 14 = .ok (.getfield 26, 3) := by decide +kernel
theorem dX8_cut_17 : decode cX8_cut 17 = .ok (.iload_n 1, 1) := by decide +kernel
theorem dX8_cut_18 : decode cX8_cut 18 = .ok (.invokevirtual 138, 3) := by decide +kernel
theorem dX8_cut_21 : decode cX8_cut 21 = .ok (.iconst 1, 1) := by decide +kernel
theorem dX8_cut_22 : decode cX8_cut 22 = .ok (.ireturn, 1) := by decide +kernel
set_option maxRecDepth 20000 in
theorem ggX8_except_X5_has : GoodIn wsX8_except wsX5_has := goodIn_r _ [6, 7, 8, 9, 10, 29, 30, 31, 32, 33, 34] (by decide +kernel) (by decide +kernel)
set_option maxRecDepth 20000 in
theorem gX8_except_X5_has : GoodIn wsX8_except (wsV RX8 104 RX5 yX5_has wsX5_has) := goodIn_app (goodIn_of _ (by decide +kernel)) ggX8_except_X5_has
set_option maxRecDepth 20000 in
theorem ggX8_except_X8_isPair : GoodIn wsX8_except wsX8_isPair := goodIn_r _ [13, 14, 8, 9, 10] (by decide +kernel) (by decide +kernel)
set_option maxRecDepth 20000 in
theorem gX8_except_X8_isPair : GoodIn wsX8_except (va_wsS RX8 73 yX8_isPair wsX8_isPair) := goodIn_app (goodIn_of _ (by decide +kernel)) ggX8_except_X8_isPair
set_option maxRecDepth 20000 in
theorem ggX8_except_X8_pairOf : GoodIn wsX8_except wsX8_pairOf := goodIn_r _ [17] (by decide +kernel) (by decide +kernel)
set_option maxRecDepth 20000 in
theorem gX8_except_X8_pairOf : GoodIn wsX8_except (va_wsS RX8 80 yX8_pairOf wsX8_pairOf) := goodIn_app (goodIn_of _ (by decide +kernel)) ggX8_except_X8_pairOf
set_option maxRecDepth 20000 in
theorem ggX8_except_X8_holds : GoodIn wsX8_except wsX8_holds := goodIn_r _ [20] (by decide +kernel) (by decide +kernel)
set_option maxRecDepth 20000 in
theorem gX8_except_X8_holds : GoodIn wsX8_except (va_wsS RX8 130 yX8_holds wsX8_holds) := goodIn_app (goodIn_of _ (by decide +kernel)) ggX8_except_X8_holds
theorem dX8_except_0 : decode cX8_except 0 = .ok (.aload_n 0, 1) := by decide +kernel
theorem dX8_except_1 : decode cX8_except 1 = .ok (.getfield 19, 3) := by decide +kernel
theorem dX8_except_4 : decode cX8_except 4 = .ok (.iload_n 1, 1) := by decide +kernel
theorem dX8_except_5 : decode cX8_except 5 = .ok (.invokevirtual 104, 3) := by decide +kernel
theorem dX8_except_8 : decode cX8_except 8 = .ok (.ifCond .eq 31, 3) := by decide +kernel
theorem dX8_except_11 : decode cX8_except 11 = .ok (.iload_n 2, 1) := by decide +kernel
theorem dX8_except_12 : decode cX8_except 12 = .ok (.iload_n 3, 1) := by decide +kernel
theorem dX8_except_13 : decode cX8_except 13 = .ok (.invokestatic 73, 3) := by decide +kernel
theorem dX8_except_16 : decode cX8_except 16 = .ok (.ifCond .eq 23, 3) := by decide +kernel
theorem dX8_except_19 : decode cX8_except 19 = .ok (.aload_n 0, 1) := by decide +kernel
theorem dX8_except_20 : decode cX8_except 20 = .ok (.getfield 19, 3) := by decide +kernel
theorem dX8_except_23 : decode cX8_except 23 = .ok (.getfield 142, 3) := by decide +kernel
theorem dX8_except_26 : decode cX8_except 26 = .ok (.iload_n 1, 1) := by decide +kernel
theorem dX8_except_27 : decode cX8_except 27 = .ok (.laload, 1) := by decide +kernel
theorem dX8_except_28 : decode cX8_except 28 = .ok (.iload_n 2, 1) := by decide +kernel
theorem dX8_except_29 : decode cX8_except 29 = .ok (.iload_n 3, 1) := by decide +kernel
theorem dX8_except_30 : decode cX8_except 30 = .ok (.invokestatic 80, 3) := by decide +kernel
theorem dX8_except_33 : decode cX8_except 33 = .ok (.invokestatic 130, 3) := by decide +kernel
theorem dX8_except_36 : decode cX8_except 36 = .ok (.ifCond .eq 5, 3) := by decide +kernel
theorem dX8_except_39 : decode cX8_except 39 = .ok (.iconst 0, 1) := by decide +kernel
theorem dX8_except_40 : decode cX8_except 40 = .ok (.ireturn, 1) := by decide +kernel
theorem dX8_except_41 : decode cX8_except 41 = .ok (.aload_n 0, 1) := by decide +kernel
theorem dX8_except_42 : decode cX8_except 42 = .ok (.getfield 19, 3) := by decide +kernel
theorem dX8_except_45 : decode cX8_except 45 = .ok (.getfield 142, 3) := by decide +kernel
theorem dX8_except_48 : decode cX8_except 48 = .ok (.iload_n 1, 1) := by decide +kernel
theorem dX8_except_49 : decode cX8_except 49 = .ok (.dup2, 1) := by decide +kernel
theorem dX8_except_50 : decode cX8_except 50 = .ok (.laload, 1) := by decide +kernel
theorem dX8_except_51 : decode cX8_except 51 = .ok (.lconst 1, 1) := by decide +kernel
theorem dX8_except_52 : decode cX8_except 52 = .ok (.iload_n 2, 1) := by decide +kernel
theorem dX8_except_53 : decode cX8_except 53 = .ok (.iload_n 3, 1) := by decide +kernel
theorem dX8_except_54 : decode cX8_except 54 = .ok (.invokestatic 80, 3) := by decide +kernel
theorem dX8_except_57 : decode cX8_except 57 = .ok (.lshl, 1) := by decide +kernel
theorem dX8_except_58 : decode cX8_except 58 = .ok (.lor, 1) := by decide +kernel
theorem dX8_except_59 : decode cX8_except 59 = .ok (.lastore, 1) := by decide +kernel
theorem dX8_except_60 : decode cX8_except 60 = .ok (.iconst 1, 1) := by decide +kernel
theorem dX8_except_61 : decode cX8_except 61 = .ok (.ireturn, 1) := by decide +kernel
set_option maxRecDepth 20000 in
theorem ggX8_product_X5_has : GoodIn wsX8_product wsX5_has := goodIn_r _ [6, 7, 8, 9, 10, 19, 20, 21, 22, 23, 24] (by decide +kernel) (by decide +kernel)
set_option maxRecDepth 20000 in
theorem gX8_product_X5_has : GoodIn wsX8_product (wsV RX8 104 RX5 yX5_has wsX5_has) := goodIn_app (goodIn_of _ (by decide +kernel)) ggX8_product_X5_has
theorem dX8_product_0 : decode cX8_product 0 = .ok (.aload_n 0, 1) := by decide +kernel
theorem dX8_product_1 : decode cX8_product 1 = .ok (.getfield 19, 3) := by decide +kernel
theorem dX8_product_4 : decode cX8_product 4 = .ok (.iload_n 1, 1) := by decide +kernel
theorem dX8_product_5 : decode cX8_product 5 = .ok (.invokevirtual 104, 3) := by decide +kernel
theorem dX8_product_8 : decode cX8_product 8 = .ok (.ifCond .ne 5, 3) := by decide +kernel
theorem dX8_product_11 : decode cX8_product 11 = .ok (.iconst 0, 1) := by decide +kernel
theorem dX8_product_12 : decode cX8_product 12 = .ok (.ireturn, 1) := by decide +kernel
theorem dX8_product_13 : decode cX8_product 13 = .ok (.aload_n 0, 1) := by decide +kernel
theorem dX8_product_14 : decode cX8_product 14 = .ok (.getfield 19, 3) := by decide +kernel
theorem dX8_product_17 : decode cX8_product 17 = .ok (.iload_n 1, 1) := by decide +kernel
theorem dX8_product_18 : decode cX8_product 18 = .ok (.putfield 146, 3) := by decide +kernel
theorem dX8_product_21 : decode cX8_product 21 = .ok (.iconst 1, 1) := by decide +kernel
theorem dX8_product_22 : decode cX8_product 22 = .ok (.ireturn, 1) := by decide +kernel
set_option maxRecDepth 20000 in
theorem ggX8_change_X5_has : GoodIn wsX8_change wsX5_has := goodIn_r _ [9, 10, 11, 12, 13, 47, 48, 49, 50, 51, 52] (by decide +kernel) (by decide +kernel)
set_option maxRecDepth 20000 in
theorem gX8_change_X5_has : GoodIn wsX8_change (wsV RX8 104 RX5 yX5_has wsX5_has) := goodIn_app (goodIn_of _ (by decide +kernel)) ggX8_change_X5_has
set_option maxRecDepth 20000 in
theorem ggX8_change_X8_within : GoodIn wsX8_change wsX8_within := goodIn_r _ [13] (by decide +kernel) (by decide +kernel)
set_option maxRecDepth 20000 in
theorem gX8_change_X8_within : GoodIn wsX8_change (va_wsS RX8 77 yX8_within wsX8_within) := goodIn_app (goodIn_of _ (by decide +kernel)) ggX8_change_X8_within
set_option maxRecDepth 20000 in
theorem ggX8_change_X0_add : GoodIn wsX8_change wsX0_add := goodIn_r _ [19, 20, 21, 22, 23, 24, 42, 43, 44, 45, 46] (by decide +kernel) (by decide +kernel)
set_option maxRecDepth 20000 in
theorem gX8_change_X0_add : GoodIn wsX8_change (wsV RX8 151 RX0 yX0_add wsX0_add) := goodIn_app (goodIn_of _ (by decide +kernel)) ggX8_change_X0_add
theorem dX8_change_0 : decode cX8_change 0 = .ok (.iload_n 1, 1) := by decide +kernel
theorem dX8_change_1 : decode cX8_change 1 = .ok (.ifCond .ne 23, 3) := by decide +kernel
theorem dX8_change_4 : decode cX8_change 4 = .ok (.aload_n 0, 1) := by decide +kernel
theorem dX8_change_5 : decode cX8_change 5 = .ok (.getfield 19, 3) := by decide +kernel
theorem dX8_change_8 : decode cX8_change 8 = .ok (.iload_n 2, 1) := by decide +kernel
theorem dX8_change_9 : decode cX8_change 9 = .ok (.invokevirtual 104, 3) := by decide +kernel
theorem dX8_change_12 : decode cX8_change 12 = .ok (.ifCond .eq 12, 3) := by decide +kernel
theorem dX8_change_15 : decode cX8_change 15 = .ok (.iload_n 3, 1) := by decide +kernel
theorem dX8_change_16 : decode cX8_change 16 = .ok (.bipush 8, 2) := by decide +kernel
theorem dX8_change_18 : decode cX8_change 18 = .ok (.invokestatic 77, 3) := by decide +kernel
theorem dX8_change_21 : decode cX8_change 21 = .ok (.ifCond .ne 22, 3) := by decide +kernel
theorem dX8_change_24 : decode cX8_change 24 = .ok (.iload_n 1, 1) := by decide +kernel
theorem dX8_change_25 : decode cX8_change 25 = .ok (.iconst 1, 1) := by decide +kernel
theorem dX8_change_26 : decode cX8_change 26 = .ok (.if_icmp .ne 21, 3) := by decide +kernel
theorem dX8_change_29 : decode cX8_change 29 = .ok (.iload_n 2, 1) := by decide +kernel
theorem dX8_change_30 : decode cX8_change 30 = .ok (.aload_n 0, 1) := by decide +kernel
theorem dX8_change_31 : decode cX8_change 31 = .ok (.getfield 26, 3) := by decide +kernel
theorem dX8_change_34 : decode cX8_change 34 = .ok (.getfield 118, 3) := by decide +kernel
theorem dX8_change_37 : decode cX8_change 37 = .ok (.invokestatic 77, 3) := by decide +kernel
theorem dX8_change_40 : decode cX8_change 40 = .ok (.ifCond .eq 7, 3) := by decide +kernel
theorem dX8_change_43 : decode cX8_change 43 = .ok (.iconst 1, 1) := by decide +kernel
theorem dX8_change_44 : decode cX8_change 44 = .ok (.goto 4, 3) := by decide +kernel
theorem dX8_change_47 : decode cX8_change 47 = .ok (.iconst 0, 1) := by decide +kernel
theorem dX8_change_48 : decode cX8_change 48 = .ok (.istore 5, 2) := by decide +kernel
theorem dX8_change_50 : decode cX8_change 50 = .ok (.iload 5, 2) := by decide +kernel
theorem dX8_change_52 : decode cX8_change 52 = .ok (.ifCond .eq 25, 3) := by decide +kernel
theorem dX8_change_55 : decode cX8_change 55 = .ok (.iload 4, 2) := by decide +kernel
theorem dX8_change_57 : decode cX8_change 57 = .ok (.ldc 149, 2) := by decide +kernel
theorem dX8_change_59 : decode cX8_change 59 = .ok (.invokestatic 77, 3) := by decide +kernel
theorem dX8_change_62 : decode cX8_change 62 = .ok (.ifCond .eq 15, 3) := by decide +kernel
theorem dX8_change_65 : decode cX8_change 65 = .ok (.aload_n 0, 1) := by decide +kernel
theorem dX8_change_66 : decode cX8_change 66 = .ok (.getfield 33, 3) := by decide +kernel
theorem dX8_change_69 : decode cX8_change 69 = .ok (.getfield 150, 3) := by decide +kernel
theorem dX8_change_72 : decode cX8_change 72 = .ok (.bipush 10, 2) := by decide +kernel
theorem dX8_change_74 : decode cX8_change 74 = .ok (.if_icmp .lt 5, 3) := by decide +kernel
theorem dX8_change_77 : decode cX8_change 77 = .ok (.iconst (-1), 1) := by decide +kernel
theorem dX8_change_78 : decode cX8_change 78 = .ok (.ireturn, 1) := by decide +kernel
theorem dX8_change_79 : decode cX8_change 79 = .ok (.aload_n 0, 1) := by decide +kernel
theorem dX8_change_80 : decode cX8_change 80 = .ok (.getfield 33, 3) := by decide +kernel
theorem dX8_change_83 : decode cX8_change 83 = .ok (.iload_n 1, 1) := by decide +kernel
theorem dX8_change_84 : decode cX8_change 84 = .ok (.iload_n 2, 1) := by decide +kernel
theorem dX8_change_85 : decode cX8_change 85 = .ok (.iload_n 3, 1) := by decide +kernel
theorem dX8_change_86 : decode cX8_change 86 = .ok (.iload 4, 2) := by decide +kernel
theorem dX8_change_88 : decode cX8_change 88 = .ok (.invokevirtual 151, 3) := by decide +kernel
theorem dX8_change_91 : decode cX8_change 91 = .ok (.ireturn, 1) := by decide +kernel
set_option maxRecDepth 20000 in
theorem ggX8_come_X8_within : GoodIn wsX8_come wsX8_within := goodIn_r _ [7] (by decide +kernel) (by decide +kernel)
set_option maxRecDepth 20000 in
theorem gX8_come_X8_within : GoodIn wsX8_come (va_wsS RX8 77 yX8_within wsX8_within) := goodIn_app (goodIn_of _ (by decide +kernel)) ggX8_come_X8_within
set_option maxRecDepth 20000 in
theorem ggX8_come_X5_has : GoodIn wsX8_come wsX5_has := goodIn_r _ [12, 13, 5, 6, 7, 48, 49, 50, 51, 52, 53] (by decide +kernel) (by decide +kernel)
set_option maxRecDepth 20000 in
theorem gX8_come_X5_has : GoodIn wsX8_come (wsV RX8 104 RX5 yX5_has wsX5_has) := goodIn_app (goodIn_of _ (by decide +kernel)) ggX8_come_X5_has
set_option maxRecDepth 20000 in
theorem ggX8_come_X2_run : GoodIn wsX8_come wsX2_run := goodIn_r _ [18, 19, 20, 21, 22, 17, 23, 24, 25, 26, 27, 6, 28, 29, 30, 31, 32, 33, 34, 35, 36, 37, 38, 39, 63, 64, 65, 66, 67, 54, 55, 56, 57, 58, 59, 60, 61, 62, 68, 69, 70, 48, 49, 50, 51, 52, 53] (by decide +kernel) (by decide +kernel)
set_option maxRecDepth 20000 in
theorem gX8_come_X2_run : GoodIn wsX8_come (wsV RX8 154 RX2 yX2_run wsX2_run) := goodIn_app (goodIn_of _ (by decide +kernel)) ggX8_come_X2_run
set_option maxRecDepth 20000 in
theorem ggX8_come_X8_pairOf : GoodIn wsX8_come wsX8_pairOf := goodIn_r _ [32] (by decide +kernel) (by decide +kernel)
set_option maxRecDepth 20000 in
theorem gX8_come_X8_pairOf : GoodIn wsX8_come (va_wsS RX8 80 yX8_pairOf wsX8_pairOf) := goodIn_app (goodIn_of _ (by decide +kernel)) ggX8_come_X8_pairOf
theorem dX8_come_0 : decode cX8_come 0 = .ok (.iload_n 1, 1) := by decide +kernel
theorem dX8_come_1 : decode cX8_come 1 = .ok (.iconst 4, 1) := by decide +kernel
theorem dX8_come_2 : decode cX8_come 2 = .ok (.invokestatic 77, 3) := by decide +kernel
theorem dX8_come_5 : decode cX8_come 5 = .ok (.ifCond .eq 23, 3) := by decide +kernel
theorem dX8_come_8 : decode cX8_come 8 = .ok (.aload_n 0, 1) := by decide +kernel
theorem dX8_come_9 : decode cX8_come 9 = .ok (.getfield 19, 3) := by decide +kernel
theorem dX8_come_12 : decode cX8_come 12 = .ok (.iload_n 2, 1) := by decide +kernel
theorem dX8_come_13 : decode cX8_come 13 = .ok (.invokevirtual 104, 3) := by decide +kernel
theorem dX8_come_16 : decode cX8_come 16 = .ok (.ifCond .eq 12, 3) := by decide +kernel
theorem dX8_come_19 : decode cX8_come 19 = .ok (.iload_n 3, 1) := by decide +kernel
theorem dX8_come_20 : decode cX8_come 20 = .ok (.bipush 8, 2) := by decide +kernel
theorem dX8_come_22 : decode cX8_come 22 = .ok (.invokestatic 77, 3) := by decide +kernel
theorem dX8_come_25 : decode cX8_come 25 = .ok (.ifCond .ne 5, 3) := by decide +kernel
theorem dX8_come_28 : decode cX8_come 28 = .ok (.iconst (-1), 1) := by decide +kernel
theorem dX8_come_29 : decode cX8_come 29 = .ok (.ireturn, 1) := by decide +kernel
theorem dX8_come_30 : decode cX8_come 30 = .ok (.aload_n 0, 1) := by decide +kernel
theorem dX8_come_31 : decode cX8_come 31 = .ok (.getfield 42, 3) := by decide +kernel
theorem dX8_come_34 : decode cX8_come 34 = .ok (.iload_n 1, 1) := by decide +kernel
theorem dX8_come_35 : decode cX8_come 35 = .ok (.aload_n 0, 1) := by decide +kernel
theorem dX8_come_36 : decode cX8_come 36 = .ok (.getfield 19, 3) := by decide +kernel
theorem dX8_come_39 : decode cX8_come 39 = .ok (.getfield 115, 3) := by decide +kernel
theorem dX8_come_42 : decode cX8_come 42 = .ok (.aload_n 0, 1) := by decide +kernel
theorem dX8_come_43 : decode cX8_come 43 = .ok (.getfield 26, 3) := by decide +kernel
theorem dX8_come_46 : decode cX8_come 46 = .ok (.getfield 122, 3) := by decide +kernel
theorem dX8_come_49 : decode cX8_come 49 = .ok (.invokevirtual 154, 3) := by decide +kernel
theorem dX8_come_52 : decode cX8_come 52 = .ok (.aload_n 0, 1) := by decide +kernel
theorem dX8_come_53 : decode cX8_come 53 = .ok (.getfield 42, 3) := by decide +kernel
theorem dX8_come_56 : decode cX8_come 56 = .ok (.getfield 158, 3) := by decide +kernel
theorem dX8_come_59 : decode cX8_come 59 = .ok (.iload_n 2, 1) := by decide +kernel
theorem dX8_come_60 : decode cX8_come 60 = .ok (.laload, 1) := by decide +kernel
theorem dX8_come_61 : decode cX8_come 61 = .ok (.iload_n 3, 1) := by decide +kernel
theorem dX8_come_62 : decode cX8_come 62 = .ok (.iconst 0, 1) := by decide +kernel
theorem dX8_come_63 : decode cX8_come 63 = .ok (.invokestatic 80, 3) := by decide +kernel
theorem dX8_come_66 : decode cX8_come 66 = .ok (.lushr, 1) := by decide +kernel
theorem dX8_come_67 : decode cX8_come 67 = .ok (.l2i, 1) := by decide +kernel
theorem dX8_come_68 : decode cX8_come 68 = .ok (.sipush 255, 3) := by decide +kernel
theorem dX8_come_71 : decode cX8_come 71 = .ok (.iand, 1) := by decide +kernel
theorem dX8_come_72 : decode cX8_come 72 = .ok (.ireturn, 1) := by decide +kernel
set_option maxRecDepth 20000 in
theorem ggX8_quarrels_X8_within : GoodIn wsX8_quarrels wsX8_within := goodIn_r _ [7] (by decide +kernel) (by decide +kernel)
set_option maxRecDepth 20000 in
theorem gX8_quarrels_X8_within : GoodIn wsX8_quarrels (va_wsS RX8 77 yX8_within wsX8_within) := goodIn_app (goodIn_of _ (by decide +kernel)) ggX8_quarrels_X8_within
set_option maxRecDepth 20000 in
theorem ggX8_quarrels_X2_run : GoodIn wsX8_quarrels wsX2_run := goodIn_r _ [12, 13, 14, 15, 16, 11, 17, 18, 19, 20, 21, 6, 22, 23, 24, 25, 26, 27, 28, 29, 30, 31, 32, 33, 86, 87, 88, 89, 90, 77, 78, 79, 80, 81, 82, 83, 84, 85, 91, 92, 93, 71, 72, 73, 74, 75, 76] (by decide +kernel) (by decide +kernel)
set_option maxRecDepth 20000 in
theorem gX8_quarrels_X2_run : GoodIn wsX8_quarrels (wsV RX8 154 RX2 yX2_run wsX2_run) := goodIn_app (goodIn_of _ (by decide +kernel)) ggX8_quarrels_X2_run
set_option maxRecDepth 20000 in
theorem ggX8_quarrels_X2_quarrelCount : GoodIn wsX8_quarrels wsX2_quarrelCount := goodIn_r _ [37, 19, 38, 39, 40, 11, 41, 13, 42, 43, 44, 45, 46, 47, 48, 49, 50, 51, 32, 6, 33, 52, 53, 54, 55, 31, 18, 56, 57, 58, 59, 60, 61, 62, 86, 87, 88, 89, 90, 71, 72, 73, 74, 75, 76, 77, 78, 79, 80, 81, 82, 83, 84, 85, 91, 92, 93] (by decide +kernel) (by decide +kernel)
set_option maxRecDepth 20000 in
theorem gX8_quarrels_X2_quarrelCount : GoodIn wsX8_quarrels (wsV RX8 161 RX2 yX2_quarrelCount wsX2_quarrelCount) := goodIn_app (goodIn_of _ (by decide +kernel)) ggX8_quarrels_X2_quarrelCount
theorem dX8_quarrels_0 : decode cX8_quarrels 0 = .ok (.iload_n 1, 1) := by decide +kernel
theorem dX8_quarrels_1 : decode cX8_quarrels 1 = .ok (.iconst 4, 1) := by decide +kernel
theorem dX8_quarrels_2 : decode cX8_quarrels 2 = .ok (.invokestatic 77, 3) := by decide +kernel
theorem dX8_quarrels_5 : decode cX8_quarrels 5 = .ok (.ifCond .ne 5, 3) := by decide +kernel
theorem dX8_quarrels_8 : decode cX8_quarrels 8 = .ok (.iconst (-1), 1) := by decide +kernel
theorem dX8_quarrels_9 : decode cX8_quarrels 9 = .ok (.ireturn, 1) := by decide +kernel
theorem dX8_quarrels_10 : decode cX8_quarrels 10 = .ok (.aload_n 0, 1) := by decide +kernel
theorem dX8_quarrels_11 : decode cX8_quarrels 11 = .ok (.getfield 42, 3) := by decide +kernel
theorem dX8_quarrels_14 : decode cX8_quarrels 14 = .ok (.iload_n 1, 1) := by decide +kernel
theorem dX8_quarrels_15 : decode cX8_quarrels 15 = .ok (.aload_n 0, 1) := by decide +kernel
theorem dX8_quarrels_16 : decode cX8_quarrels 16 = .ok (.getfield 19, 3) := by decide +kernel
theorem dX8_quarrels_19 : decode cX8_quarrels 19 = .ok (.getfield 115, 3) := by decide +kernel
theorem dX8_quarrels_22 : decode cX8_quarrels 22 = .ok (.aload_n 0, 1) := by decide +kernel
theorem dX8_quarrels_23 : decode cX8_quarrels 23 = .ok (.getfield 26, 3) := by decide +kernel
theorem dX8_quarrels_26 : decode cX8_quarrels 26 = .ok (.getfield 122, 3) := by decide +kernel
theorem dX8_quarrels_29 : decode cX8_quarrels 29 = .ok (.invokevirtual 154, 3) := by decide +kernel
theorem dX8_quarrels_32 : decode cX8_quarrels 32 = .ok (.aload_n 0, 1) := by decide +kernel
theorem dX8_quarrels_33 : decode cX8_quarrels 33 = .ok (.getfield 42, 3) := by decide +kernel
theorem dX8_quarrels_36 : decode cX8_quarrels 36 = .ok (.aload_n 0, 1) := by decide +kernel
theorem dX8_quarrels_37 : decode cX8_quarrels 37 = .ok (.getfield 19, 3) := by decide +kernel
theorem dX8_quarrels_40 : decode cX8_quarrels 40 = .ok (.getfield 115, 3) := by decide +kernel
theorem dX8_quarrels_43 : decode cX8_quarrels 43 = .ok (.aload_n 0, 1) := by decide +kernel
theorem dX8_quarrels_44 : decode cX8_quarrels 44 = .ok (.getfield 26, 3) := by decide +kernel
theorem dX8_quarrels_47 : decode cX8_quarrels 47 = .ok (.getfield 122, 3) := by decide +kernel
theorem dX8_quarrels_50 : decode cX8_quarrels 50 = .ok (.invokevirtual 161, 3) := by decide +kernel
theorem dX8_quarrels_53 : decode cX8_quarrels 53 = .ok (.ireturn, 1) := by decide +kernel
set_option maxRecDepth 20000 in
theorem ggX8_quarrel_X8_within : GoodIn wsX8_quarrel wsX8_within := goodIn_r _ [7] (by decide +kernel) (by decide +kernel)
set_option maxRecDepth 20000 in
theorem gX8_quarrel_X8_within : GoodIn wsX8_quarrel (va_wsS RX8 77 yX8_within wsX8_within) := goodIn_app (goodIn_of _ (by decide +kernel)) ggX8_quarrel_X8_within
set_option maxRecDepth 20000 in
theorem ggX8_quarrel_X2_run : GoodIn wsX8_quarrel wsX2_run := goodIn_r _ [12, 13, 14, 15, 16, 11, 17, 18, 19, 20, 21, 6, 22, 23, 24, 25, 26, 27, 28, 29, 30, 31, 32, 33, 89, 90, 91, 92, 93, 80, 81, 82, 83, 84, 85, 86, 87, 88, 94, 95, 96, 74, 75, 76, 77, 78, 79] (by decide +kernel) (by decide +kernel)
set_option maxRecDepth 20000 in
theorem gX8_quarrel_X2_run : GoodIn wsX8_quarrel (wsV RX8 154 RX2 yX2_run wsX2_run) := goodIn_app (goodIn_of _ (by decide +kernel)) ggX8_quarrel_X2_run
set_option maxRecDepth 20000 in
theorem ggX8_quarrel_X2_quarrelAt : GoodIn wsX8_quarrel wsX2_quarrelAt := goodIn_r _ [37, 13, 19, 38, 39, 40, 11, 41, 42, 43, 44, 45, 46, 47, 48, 49, 50, 51, 32, 6, 33, 52, 53, 54, 55, 31, 18, 56, 57, 58, 59, 60, 61, 62, 63, 64, 65, 89, 90, 91, 92, 93, 80, 81, 82, 83, 84, 85, 86, 87, 88, 74, 75, 76, 77, 78, 79, 94, 95, 96] (by decide +kernel) (by decide +kernel)
set_option maxRecDepth 20000 in
theorem gX8_quarrel_X2_quarrelAt : GoodIn wsX8_quarrel (wsV RX8 165 RX2 yX2_quarrelAt wsX2_quarrelAt) := goodIn_app (goodIn_of _ (by decide +kernel)) ggX8_quarrel_X2_quarrelAt
theorem dX8_quarrel_0 : decode cX8_quarrel 0 = .ok (.iload_n 1, 1) := by decide +kernel
theorem dX8_quarrel_1 : decode cX8_quarrel 1 = .ok (.iconst 4, 1) := by decide +kernel
theorem dX8_quarrel_2 : decode cX8_quarrel 2 = .ok (.invokestatic 77, 3) := by decide +kernel
theorem dX8_quarrel_5 : decode cX8_quarrel 5 = .ok (.ifCond .eq 7, 3) := by decide +kernel
theorem dX8_quarrel_8 : decode cX8_quarrel 8 = .ok (.iload_n 2, 1) := by decide +kernel
theorem dX8_quarrel_9 : decode cX8_quarrel 9 = .ok (.ifCond .ge 5, 3) := by decide +kernel
theorem dX8_quarrel_12 : decode cX8_quarrel 12 = .ok (.iconst (-1), 1) := by decide +kernel
theorem dX8_quarrel_13 : decode cX8_quarrel 13 = .ok (.ireturn, 1) := by decide +kernel
theorem dX8_quarrel_14 : decode cX8_quarrel 14 = .ok (.aload_n 0, 1) := by decide +kernel
theorem dX8_quarrel_15 : decode cX8_quarrel 15 = .ok (.getfield 42, 3) := by decide +kernel
theorem dX8_quarrel_18 : decode cX8_quarrel 18 = .ok (.iload_n 1, 1) := by decide +kernel
theorem dX8_quarrel_19 : decode cX8_quarrel 19 = .ok (.aload_n 0, 1) := by decide +kernel
theorem dX8_quarrel_20 : decode cX8_quarrel 20 = .ok (.getfield 19, 3) := by decide +kernel
theorem dX8_quarrel_23 : decode cX8_quarrel 23 = .ok (.getfield 115, 3) := by decide +kernel
theorem dX8_quarrel_26 : decode cX8_quarrel 26 = .ok (.aload_n 0, 1) := by decide +kernel
theorem dX8_quarrel_27 : decode cX8_quarrel 27 = .ok (.getfield 26, 3) := by decide +kernel
theorem dX8_quarrel_30 : decode cX8_quarrel 30 = .ok (.getfield 122, 3) := by decide +kernel
theorem dX8_quarrel_33 : decode cX8_quarrel 33 = .ok (.invokevirtual 154, 3) := by decide +kernel
theorem dX8_quarrel_36 : decode cX8_quarrel 36 = .ok (.aload_n 0, 1) := by decide +kernel
theorem dX8_quarrel_37 : decode cX8_quarrel 37 = .ok (.getfield 42, 3) := by decide +kernel
theorem dX8_quarrel_40 : decode cX8_quarrel 40 = .ok (.iload_n 2, 1) := by decide +kernel
theorem dX8_quarrel_41 : decode cX8_quarrel 41 = .ok (.invokevirtual 165, 3) := by decide +kernel
theorem dX8_quarrel_44 : decode cX8_quarrel 44 = .ok (.ireturn, 1) := by decide +kernel
set_option maxRecDepth 20000 in
theorem ggX8_judge_X8_within : GoodIn wsX8_judge wsX8_within := goodIn_r _ [7] (by decide +kernel) (by decide +kernel)
set_option maxRecDepth 20000 in
theorem gX8_judge_X8_within : GoodIn wsX8_judge (va_wsS RX8 77 yX8_within wsX8_within) := goodIn_app (goodIn_of _ (by decide +kernel)) ggX8_judge_X8_within
set_option maxRecDepth 20000 in
theorem ggX8_judge_X2_wayCount : GoodIn wsX8_judge wsX2_wayCount := goodIn_r _ [12, 13, 14, 15, 16, 17, 11, 18, 19, 20, 21, 22, 23, 24, 25, 26, 27, 28, 29, 6, 30, 127, 128, 129, 130, 131, 132, 133, 134, 135, 136, 137, 138, 139, 140, 121, 122, 123, 124, 125, 126] (by decide +kernel) (by decide +kernel)
set_option maxRecDepth 20000 in
theorem gX8_judge_X2_wayCount : GoodIn wsX8_judge (wsV RX8 169 RX2 yX2_wayCount wsX2_wayCount) := goodIn_app (goodIn_of _ (by decide +kernel)) ggX8_judge_X2_wayCount
set_option maxRecDepth 20000 in
theorem ggX8_judge_X1_takeBest : GoodIn wsX8_judge wsX1_takeBest := goodIn_r _ [35, 36, 37, 38, 39, 40, 41, 42, 43, 44, 45, 16, 17, 11, 18, 14, 13, 19, 20, 21, 22, 23, 24, 25, 26, 27, 28, 29, 6, 30, 46, 47, 48, 34, 49, 50, 51, 52, 53, 54, 55, 56, 57, 58, 59, 60, 61, 62, 63, 64, 65, 66, 67, 68, 69, 70, 71, 72, 73, 74, 75, 76, 77, 78, 79, 80, 81, 82, 83, 84, 85, 86, 87, 88, 89, 90, 91, 92, 93, 94, 95, 96, 97, 98, 99, 100, 101, 102, 103, 104, 105, 106, 107, 108, 109, 110, 111, 112, 141, 142, 143, 144, 145, 146, 147, 148, 149, 150, 132, 133, 134, 135, 136, 137, 138, 139, 140, 127, 128, 129, 130, 131, 121, 122, 123, 124, 125, 126, 151, 152, 153] (by decide +kernel) (by decide +kernel)
set_option maxRecDepth 20000 in
theorem gX8_judge_X1_takeBest : GoodIn wsX8_judge (wsV RX8 173 RX1 yX1_takeBest wsX1_takeBest) := goodIn_app (goodIn_of _ (by decide +kernel)) ggX8_judge_X1_takeBest
theorem dX8_judge_0 : decode cX8_judge 0 = .ok (.iload_n 1, 1) := by decide +kernel
theorem dX8_judge_1 : decode cX8_judge 1 = .ok (.iconst 4, 1) := by decide +kernel
theorem dX8_judge_2 : decode cX8_judge 2 = .ok (.invokestatic 77, 3) := by decide +kernel
theorem dX8_judge_5 : decode cX8_judge 5 = .ok (.ifCond .eq 24, 3) := by decide +kernel
theorem dX8_judge_8 : decode cX8_judge 8 = .ok (.aload_n 0, 1) := by decide +kernel
theorem dX8_judge_9 : decode cX8_judge 9 = .ok (.getfield 19, 3) := by decide +kernel
theorem dX8_judge_12 : decode cX8_judge 12 = .ok (.getfield 96, 3) := by decide +kernel
theorem dX8_judge_15 : decode cX8_judge 15 = .ok (.ifCond .eq 14, 3) := by decide +kernel
theorem dX8_judge_18 : decode cX8_judge 18 = .ok (.aload_n 0, 1) := by decide +kernel
theorem dX8_judge_19 : decode cX8_judge 19 = .ok (.getfield 42, 3) := by decide +kernel
theorem dX8_judge_22 : decode cX8_judge 22 = .ok (.invokevirtual 169, 3) := by decide +kernel
theorem dX8_judge_25 : decode cX8_judge 25 = .ok (.iconst (-1), 1) := by decide +kernel
theorem dX8_judge_26 : decode cX8_judge 26 = .ok (.if_icmp .ne 5, 3) := by decide +kernel
theorem dX8_judge_29 : decode cX8_judge 29 = .ok (.iconst (-1), 1) := by decide +kernel
theorem dX8_judge_30 : decode cX8_judge 30 = .ok (.ireturn, 1) := by decide +kernel
theorem dX8_judge_31 : decode cX8_judge 31 = .ok (.aload_n 0, 1) := by decide +kernel
theorem dX8_judge_32 : decode cX8_judge 32 = .ok (.getfield 51, 3) := by decide +kernel
theorem dX8_judge_35 : decode cX8_judge 35 = .ok (.iload_n 1, 1) := by decide +kernel
theorem dX8_judge_36 : decode cX8_judge 36 = .ok (.invokevirtual 173, 3) := by decide +kernel
theorem dX8_judge_39 : decode cX8_judge 39 = .ok (.ireturn, 1) := by decide +kernel
set_option maxRecDepth 20000 in
theorem ggX8_cheapest_X8_within : GoodIn wsX8_cheapest wsX8_within := goodIn_r _ [5] (by decide +kernel) (by decide +kernel)
set_option maxRecDepth 20000 in
theorem gX8_cheapest_X8_within : GoodIn wsX8_cheapest (va_wsS RX8 77 yX8_within wsX8_within) := goodIn_app (goodIn_of _ (by decide +kernel)) ggX8_cheapest_X8_within
set_option maxRecDepth 20000 in
theorem ggX8_cheapest_X4_cheapestSet : GoodIn wsX8_cheapest wsX4_cheapestSet := goodIn_r _ [10, 11, 12, 13, 14, 15, 16, 17, 18, 19, 20, 21, 22, 23, 4, 24, 25, 26, 27, 28, 29, 30, 31, 32, 33, 34, 35, 36, 37, 38, 39, 40, 9, 41, 42, 43, 44, 45, 46, 47, 48, 49, 50, 51, 52, 53, 54, 55, 56, 57, 58, 59, 60, 61, 62, 63, 64, 65, 66, 67, 68, 69, 70, 71, 72, 73, 74, 75, 76, 77, 78, 79, 80, 81, 82, 83, 84, 85, 86, 87, 88, 89, 90, 91, 92, 93, 94, 95, 96, 97, 98, 99, 100, 101, 102, 103, 112, 113, 114, 115, 116, 117, 118, 119, 120, 121, 122, 123, 124, 125, 126, 127, 128, 129, 130, 131, 132, 133, 134, 135, 136, 137, 138, 139, 140, 141, 142, 143, 144] (by decide +kernel) (by decide +kernel)
set_option maxRecDepth 20000 in
theorem gX8_cheapest_X4_cheapestSet : GoodIn wsX8_cheapest (wsV RX8 176 RX4 yX4_cheapestSet wsX4_cheapestSet) := goodIn_app (goodIn_of _ (by decide +kernel)) ggX8_cheapest_X4_cheapestSet
theorem dX8_cheapest_0 : decode cX8_cheapest 0 = .ok (.iload_n 1, 1) := by decide +kernel
theorem dX8_cheapest_1 : decode cX8_cheapest 1 = .ok (.iconst 4, 1) := by decide +kernel
theorem dX8_cheapest_2 : decode cX8_cheapest 2 = .ok (.invokestatic 77, 3) := by decide +kernel
theorem dX8_cheapest_5 : decode cX8_cheapest 5 = .ok (.ifCond .eq 14, 3) := by decide +kernel
theorem dX8_cheapest_8 : decode cX8_cheapest 8 = .ok (.aload_n 0, 1) := by decide +kernel
theorem dX8_cheapest_9 : decode cX8_cheapest 9 = .ok (.getfield 60, 3) := by decide +kernel
theorem dX8_cheapest_12 : decode cX8_cheapest 12 = .ok (.iload_n 1, 1) := by decide +kernel
theorem dX8_cheapest_13 : decode cX8_cheapest 13 = .ok (.invokevirtual 176, 3) := by decide +kernel
theorem dX8_cheapest_16 : decode cX8_cheapest 16 = .ok (.goto 4, 3) := by decide +kernel
theorem dX8_cheapest_19 : decode cX8_cheapest 19 = .ok (.iconst (-1), 1) := by decide +kernel
theorem dX8_cheapest_20 : decode cX8_cheapest 20 = .ok (.ireturn, 1) := by decide +kernel
set_option maxRecDepth 20000 in
theorem ggX8_price_X8_within : GoodIn wsX8_price wsX8_within := goodIn_r _ [5] (by decide +kernel) (by decide +kernel)
set_option maxRecDepth 20000 in
theorem gX8_price_X8_within : GoodIn wsX8_price (va_wsS RX8 77 yX8_within wsX8_within) := goodIn_app (goodIn_of _ (by decide +kernel)) ggX8_price_X8_within
set_option maxRecDepth 20000 in
theorem ggX8_price_X0_priceOf : GoodIn wsX8_price wsX0_priceOf := goodIn_r _ [10, 11, 12, 13, 4, 14, 23, 24, 25, 26, 27] (by decide +kernel) (by decide +kernel)
set_option maxRecDepth 20000 in
theorem gX8_price_X0_priceOf : GoodIn wsX8_price (wsV RX8 179 RX0 yX0_priceOf wsX0_priceOf) := goodIn_app (goodIn_of _ (by decide +kernel)) ggX8_price_X0_priceOf
theorem dX8_price_0 : decode cX8_price 0 = .ok (.iload_n 1, 1) := by decide +kernel
theorem dX8_price_1 : decode cX8_price 1 = .ok (.iconst 1, 1) := by decide +kernel
theorem dX8_price_2 : decode cX8_price 2 = .ok (.aload_n 0, 1) := by decide +kernel
theorem dX8_price_3 : decode cX8_price 3 = .ok (.getfield 33, 3) := by decide +kernel
theorem dX8_price_6 : decode cX8_price 6 = .ok (.getfield 150, 3) := by decide +kernel
theorem dX8_price_9 : decode cX8_price 9 = .ok (.ishl, 1) := by decide +kernel
theorem dX8_price_10 : decode cX8_price 10 = .ok (.invokestatic 77, 3) := by decide +kernel
theorem dX8_price_13 : decode cX8_price 13 = .ok (.ifCond .eq 14, 3) := by decide +kernel
theorem dX8_price_16 : decode cX8_price 16 = .ok (.aload_n 0, 1) := by decide +kernel
theorem dX8_price_17 : decode cX8_price 17 = .ok (.getfield 33, 3) := by decide +kernel
theorem dX8_price_20 : decode cX8_price 20 = .ok (.iload_n 1, 1) := by decide +kernel
theorem dX8_price_21 : decode cX8_price 21 = .ok (.invokevirtual 179, 3) := by decide +kernel
theorem dX8_price_24 : decode cX8_price 24 = .ok (.goto 4, 3) := by decide +kernel
theorem dX8_price_27 : decode cX8_price 27 = .ok (.iconst (-1), 1) := by decide +kernel
theorem dX8_price_28 : decode cX8_price 28 = .ok (.ireturn, 1) := by decide +kernel
set_option maxRecDepth 20000 in
theorem ggX8_way_X8_within : GoodIn wsX8_way wsX8_within := goodIn_r _ [6] (by decide +kernel) (by decide +kernel)
set_option maxRecDepth 20000 in
theorem gX8_way_X8_within : GoodIn wsX8_way (va_wsS RX8 77 yX8_within wsX8_within) := goodIn_app (goodIn_of _ (by decide +kernel)) ggX8_way_X8_within
set_option maxRecDepth 20000 in
theorem ggX8_way_X8_isPair : GoodIn wsX8_way wsX8_isPair := goodIn_r _ [9, 3, 4, 5, 6] (by decide +kernel) (by decide +kernel)
set_option maxRecDepth 20000 in
theorem gX8_way_X8_isPair : GoodIn wsX8_way (va_wsS RX8 73 yX8_isPair wsX8_isPair) := goodIn_app (goodIn_of _ (by decide +kernel)) ggX8_way_X8_isPair
set_option maxRecDepth 20000 in
theorem ggX8_way_X5_has : GoodIn wsX8_way wsX5_has := goodIn_r _ [14, 15, 4, 5, 6, 81, 82, 83, 84, 85, 86] (by decide +kernel) (by decide +kernel)
set_option maxRecDepth 20000 in
theorem gX8_way_X5_has : GoodIn wsX8_way (wsV RX8 104 RX5 yX5_has wsX5_has) := goodIn_app (goodIn_of _ (by decide +kernel)) ggX8_way_X5_has
set_option maxRecDepth 20000 in
theorem ggX8_way_X8_pairOf : GoodIn wsX8_way wsX8_pairOf := goodIn_r _ [18] (by decide +kernel) (by decide +kernel)
set_option maxRecDepth 20000 in
theorem gX8_way_X8_pairOf : GoodIn wsX8_way (va_wsS RX8 80 yX8_pairOf wsX8_pairOf) := goodIn_app (goodIn_of _ (by decide +kernel)) ggX8_way_X8_pairOf
set_option maxRecDepth 20000 in
theorem ggX8_way_X7_partOnWay : GoodIn wsX8_way wsX7_partOnWay := goodIn_r _ [23, 24, 25, 26, 27, 22, 28, 29, 30, 31, 32, 33, 34, 35, 36, 37, 38, 39, 5, 40, 41, 42, 43, 44, 45, 46, 47, 48, 49, 50, 51, 52, 53, 54, 55, 56, 57, 58, 59, 60, 61, 16, 17, 18, 62, 63, 64, 65, 66, 67, 68, 69, 70, 71, 72, 4, 6, 87, 88, 89, 90, 91, 92, 93, 94, 95, 96, 97, 98, 99, 100, 101, 102, 103, 81, 82, 83, 84, 85, 86, 104, 105, 106, 107, 108] (by decide +kernel) (by decide +kernel)
set_option maxRecDepth 20000 in
theorem gX8_way_X7_partOnWay : GoodIn wsX8_way (wsV RX8 182 RX7 yX7_partOnWay wsX7_partOnWay) := goodIn_app (goodIn_of _ (by decide +kernel)) ggX8_way_X7_partOnWay
theorem dX8_way_0 : decode cX8_way 0 = .ok (.iload_n 1, 1) := by decide +kernel
theorem dX8_way_1 : decode cX8_way 1 = .ok (.iconst 4, 1) := by decide +kernel
theorem dX8_way_2 : decode cX8_way 2 = .ok (.invokestatic 77, 3) := by decide +kernel
theorem dX8_way_5 : decode cX8_way 5 = .ok (.ifCond .eq 23, 3) := by decide +kernel
theorem dX8_way_8 : decode cX8_way 8 = .ok (.iload_n 2, 1) := by decide +kernel
theorem dX8_way_9 : decode cX8_way 9 = .ok (.iload_n 3, 1) := by decide +kernel
theorem dX8_way_10 : decode cX8_way 10 = .ok (.invokestatic 73, 3) := by decide +kernel
theorem dX8_way_13 : decode cX8_way 13 = .ok (.ifCond .eq 15, 3) := by decide +kernel
theorem dX8_way_16 : decode cX8_way 16 = .ok (.aload_n 0, 1) := by decide +kernel
theorem dX8_way_17 : decode cX8_way 17 = .ok (.getfield 19, 3) := by decide +kernel
theorem dX8_way_20 : decode cX8_way 20 = .ok (.iload 4, 2) := by decide +kernel
theorem dX8_way_22 : decode cX8_way 22 = .ok (.invokevirtual 104, 3) := by decide +kernel
theorem dX8_way_25 : decode cX8_way 25 = .ok (.ifCond .ne 5, 3) := by decide +kernel
theorem dX8_way_28 : decode cX8_way 28 = .ok (.iconst (-1), 1) := by decide +kernel
theorem dX8_way_29 : decode cX8_way 29 = .ok (.ireturn, 1) := by decide +kernel
theorem dX8_way_30 : decode cX8_way 30 = .ok (.aload_n 0, 1) := by decide +kernel
theorem dX8_way_31 : decode cX8_way 31 = .ok (.getfield 69, 3) := by decide +kernel
theorem dX8_way_34 : decode cX8_way 34 = .ok (.iload_n 1, 1) := by decide +kernel
theorem dX8_way_35 : decode cX8_way 35 = .ok (.iload_n 2, 1) := by decide +kernel
theorem dX8_way_36 : decode cX8_way 36 = .ok (.iload_n 3, 1) := by decide +kernel
theorem dX8_way_37 : decode cX8_way 37 = .ok (.invokestatic 80, 3) := by decide +kernel
theorem dX8_way_40 : decode cX8_way 40 = .ok (.iload 4, 2) := by decide +kernel
theorem dX8_way_42 : decode cX8_way 42 = .ok (.iload 5, 2) := by decide +kernel
theorem dX8_way_44 : decode cX8_way 44 = .ok (.invokevirtual 182, 3) := by decide +kernel
theorem dX8_way_47 : decode cX8_way 47 = .ok (.ireturn, 1) := by decide +kernel
set_option maxRecDepth 20000 in
theorem ggX8_notice_X8_within : GoodIn wsX8_notice wsX8_within := goodIn_r _ [6] (by decide +kernel) (by decide +kernel)
set_option maxRecDepth 20000 in
theorem gX8_notice_X8_within : GoodIn wsX8_notice (va_wsS RX8 77 yX8_within wsX8_within) := goodIn_app (goodIn_of _ (by decide +kernel)) ggX8_notice_X8_within
set_option maxRecDepth 20000 in
theorem ggX8_notice_X7_noticed : GoodIn wsX8_notice wsX7_noticed := goodIn_r _ [11, 12, 13, 14, 5, 15, 16, 17, 18, 10, 19, 20, 21, 22, 23, 24, 25, 26, 27, 28, 29, 30, 31, 32, 33, 34, 35, 36, 37, 38, 39, 40, 41, 42, 43, 44, 45, 46, 47, 48, 67, 68, 69, 70, 71, 61, 62, 63, 64, 65, 66, 72, 73, 74, 75, 76, 77, 78, 79, 80, 81, 82, 83, 84, 85, 86, 87, 88] (by decide +kernel) (by decide +kernel)
set_option maxRecDepth 20000 in
theorem gX8_notice_X7_noticed : GoodIn wsX8_notice (wsV RX8 185 RX7 yX7_noticed wsX7_noticed) := goodIn_app (goodIn_of _ (by decide +kernel)) ggX8_notice_X7_noticed
set_option maxRecDepth 20000 in
theorem ggX8_notice_X8_memberAt : GoodIn wsX8_notice wsX8_memberAt := goodIn_r _ [51, 52, 30, 5, 31] (by decide +kernel) (by decide +kernel)
set_option maxRecDepth 20000 in
theorem gX8_notice_X8_memberAt : GoodIn wsX8_notice (va_wsS RX8 188 yX8_memberAt wsX8_memberAt) := goodIn_app (goodIn_of _ (by decide +kernel)) ggX8_notice_X8_memberAt
theorem dX8_notice_0 : decode cX8_notice 0 = .ok (.iload_n 1, 1) := by decide +kernel
theorem dX8_notice_1 : decode cX8_notice 1 = .ok (.iconst 4, 1) := by decide +kernel
theorem dX8_notice_2 : decode cX8_notice 2 = .ok (.invokestatic 77, 3) := by decide +kernel
theorem dX8_notice_5 : decode cX8_notice 5 = .ok (.ifCond .eq 13, 3) := by decide +kernel
theorem dX8_notice_8 : decode cX8_notice 8 = .ok (.aload_n 0, 1) := by decide +kernel
theorem dX8_notice_9 : decode cX8_notice 9 = .ok (.getfield 19, 3) := by decide +kernel
theorem dX8_notice_12 : decode cX8_notice 12 = .ok (.getfield 96, 3) := by decide +kernel
theorem dX8_notice_15 : decode cX8_notice 15 = .ok (.ifCond .ne 5, 3) := by decide +kernel
theorem dX8_notice_18 : decode cX8_notice 18 = .ok (.iconst (-1), 1) := by decide +kernel
theorem dX8_notice_19 : decode cX8_notice 19 = .ok (.ireturn, 1) := by decide +kernel
theorem dX8_notice_20 : decode cX8_notice 20 = .ok (.aload_n 0, 1) := by decide +kernel
theorem dX8_notice_21 : decode cX8_notice 21 = .ok (.getfield 69, 3) := by decide +kernel
theorem dX8_notice_24 : decode cX8_notice 24 = .ok (.iload_n 1, 1) := by decide +kernel
theorem dX8_notice_25 : decode cX8_notice 25 = .ok (.invokevirtual 185, 3) := by decide +kernel
theorem dX8_notice_28 : decode cX8_notice 28 = .ok (.iload_n 2, 1) := by decide +kernel
theorem dX8_notice_29 : decode cX8_notice 29 = .ok (.invokestatic 188, 3) := by decide +kernel
theorem dX8_notice_32 : decode cX8_notice 32 = .ok (.ireturn, 1) := by decide +kernel
set_option maxRecDepth 20000 in
theorem ggX8_differ_X8_within : GoodIn wsX8_differ wsX8_within := goodIn_r _ [5] (by decide +kernel) (by decide +kernel)
set_option maxRecDepth 20000 in
theorem gX8_differ_X8_within : GoodIn wsX8_differ (va_wsS RX8 77 yX8_within wsX8_within) := goodIn_app (goodIn_of _ (by decide +kernel)) ggX8_differ_X8_within
