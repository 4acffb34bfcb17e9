theorem dX3_isThere_23 : decode cX3_isThere 23 = .ok (.goto 4, 3) := by decide +kernel
theorem dX3_isThere_26 : decode cX3_isThere 26 = .ok (.iconst 0, 1) := by decide +kernel
theorem dX3_isThere_27 : decode cX3_isThere 27 = .ok (.ireturn, 1) := by decide +kernel
theorem dX3_leads_0 : decode cX3_leads 0 = .ok (.aload_n 0, 1) := by decide +kernel
theorem dX3_leads_1 : decode cX3_leads 1 = .ok (.getfield 27, 3) := by decide +kernel
theorem dX3_leads_4 : decode cX3_leads 4 = .ok (.iload_n 2, 1) := by decide +kernel
theorem dX3_leads_5 : decode cX3_leads 5 = .ok (.iaload, 1) := by decide +kernel
theorem dX3_leads_6 : decode cX3_leads 6 = .ok (.istore_n 3, 1) := by decide +kernel
theorem dX3_leads_7 : decode cX3_leads 7 = .ok (.iload_n 3, 1) := by decide +kernel
theorem dX3_leads_8 : decode cX3_leads 8 = .ok (.aload_n 0, 1) := by decide +kernel
theorem dX3_leads_9 : decode cX3_leads 9 = .ok (.getfield 30, 3) := by decide +kernel
theorem dX3_leads_12 : decode cX3_leads 12 = .ok (.iload_n 2, 1) := by decide +kernel
theorem dX3_leads_13 : decode cX3_leads 13 = .ok (.iaload, 1) := by decide +kernel
theorem dX3_leads_14 : decode cX3_leads 14 = .ok (.if_icmp .ge 26, 3) := by decide +kernel
theorem dX3_leads_17 : decode cX3_leads 17 = .ok (.aload_n 0, 1) := by decide +kernel
theorem dX3_leads_18 : decode cX3_leads 18 = .ok (.getfield 9, 3) := by decide +kernel
theorem dX3_leads_21 : decode cX3_leads 21 = .ok (.aload_n 0, 1) := by decide +kernel
theorem dX3_leads_22 : decode cX3_leads 22 = .ok (.getfield 24, 3) := by decide +kernel
theorem dX3_leads_25 : decode cX3_leads 25 = .ok (.iload_n 3, 1) := by decide +kernel
theorem dX3_leads_26 : decode cX3_leads 26 = .ok (.iaload, 1) := by decide +kernel
theorem dX3_leads_27 : decode cX3_leads 27 = .ok (.iaload, 1) := by decide +kernel
theorem dX3_leads_28 : decode cX3_leads 28 = .ok (.iload_n 1, 1) := by decide +kernel
theorem dX3_leads_29 : decode cX3_leads 29 = .ok (.if_icmp .ne 5, 3) := by decide +kernel
theorem dX3_leads_32 : decode cX3_leads 32 = .ok (.iconst 1, 1) := by decide +kernel
theorem dX3_leads_33 : decode cX3_leads 33 = .ok (.ireturn, 1) := by decide +kernel
theorem dX3_leads_34 : decode cX3_leads 34 = .ok (.iinc 3 1, 3) := by decide +kernel
theorem dX3_leads_37 : decode cX3_leads 37 = .ok (.goto (-30), 3) := by decide +kernel
theorem dX3_leads_40 : decode cX3_leads 40 = .ok (.iconst 0, 1) := by decide +kernel
theorem dX3_leads_41 : decode cX3_leads 41 = .ok (.ireturn, 1) := by decide +kernel
set_option maxRecDepth 20000 in
theorem ggX3_add_X3_sortJoins : GoodIn wsX3_add wsX3_sortJoins := goodIn_r _ [10, 11, 1, 3, 5, 12, 13, 14, 15, 16, 26, 27, 28, 29, 30, 31, 32, 33, 34] (by decide +kernel) (by decide +kernel)
set_option maxRecDepth 20000 in
theorem gX3_add_X3_sortJoins : GoodIn wsX3_add (wsV RX3 49 RX3 yX3_sortJoins wsX3_sortJoins) := goodIn_app (goodIn_of _ (by decide +kernel)) ggX3_add_X3_sortJoins
set_option maxRecDepth 20000 in
theorem ggX3_add_X3_orderParts : GoodIn wsX3_add wsX3_orderParts := goodIn_r _ [20, 21, 14, 15, 16, 22, 23, 24, 9, 25, 11, 13, 2, 12, 26, 27, 28, 29, 30, 31, 32, 33, 34] (by decide +kernel) (by decide +kernel)
set_option maxRecDepth 20000 in
theorem gX3_add_X3_orderParts : GoodIn wsX3_add (wsV RX3 52 RX3 yX3_orderParts wsX3_orderParts) := goodIn_app (goodIn_of _ (by decide +kernel)) ggX3_add_X3_orderParts
theorem dX3_add_0 : decode cX3_add 0 = .ok (.aload_n 0, 1) := by decide +kernel
theorem dX3_add_1 : decode cX3_add 1 = .ok (.getfield 33, 3) := by decide +kernel
theorem dX3_add_4 : decode cX3_add 4 = .ok (.istore 4, 2) := by decide +kernel
theorem dX3_add_6 : decode cX3_add 6 = .ok (.aload_n 0, 1) := by decide +kernel
theorem dX3_add_7 : decode cX3_add 7 = .ok (.dup, 1) := by decide +kernel
theorem dX3_add_8 : decode cX3_add 8 = .ok (.getfield 33, 3) := by decide +kernel
theorem dX3_add_11 : decode cX3_add 11 = .ok (.iconst 1, 1) := by decide +kernel
theorem dX3_add_12 : decode cX3_add 12 = .ok (.iadd, 1) := by decide +kernel
theorem dX3_add_13 : decode cX3_add 13 = .ok (.putfield 33, 3) := by decide +kernel
theorem dX3_add_16 : decode cX3_add 16 = .ok (.aload_n 0, 1) := by decide +kernel
theorem dX3_add_17 : decode cX3_add 17 = .ok (.getfield 9, 3) := by decide +kernel
theorem dX3_add_20 : decode cX3_add 20 = .ok (.iload 4, 2) := by decide +kernel
theorem dX3_add_22 : decode cX3_add 22 = .ok (.iload_n 1, 1) := by decide +kernel
theorem dX3_add_23 : decode cX3_add 23 = .ok (.iastore, 1) := by decide +kernel
theorem dX3_add_24 : decode cX3_add 24 = .ok (.aload_n 0, 1) := by decide +kernel
theorem dX3_add_25 : decode cX3_add 25 = .ok (.getfield 15, 3) := by decide +kernel
theorem dX3_add_28 : decode cX3_add 28 = .ok (.iload 4, 2) := by decide +kernel
theorem dX3_add_30 : decode cX3_add 30 = .ok (.iload_n 2, 1) := by decide +kernel
theorem dX3_add_31 : decode cX3_add 31 = .ok (.iastore, 1) := by decide +kernel
theorem dX3_add_32 : decode cX3_add 32 = .ok (.aload_n 0, 1) := by decide +kernel
theorem dX3_add_33 : decode cX3_add 33 = .ok (.getfield 18, 3) := by decide +kernel
theorem dX3_add_36 : decode cX3_add 36 = .ok (.iload 4, 2) := by decide +kernel
theorem dX3_add_38 : decode cX3_add 38 = .ok (.iload_n 3, 1) := by decide +kernel
theorem dX3_add_39 : decode cX3_add 39 = .ok (.iastore, 1) := by decide +kernel
theorem dX3_add_40 : decode cX3_add 40 = .ok (.aload_n 0, 1) := by decide +kernel
theorem dX3_add_41 : decode cX3_add 41 = .ok (.dup, 1) := by decide +kernel
theorem dX3_add_42 : decode cX3_add 42 = .ok (.getfield 41, 3) := by decide +kernel
theorem dX3_add_45 : decode cX3_add 45 = .ok (.lconst 1, 1) := by decide +kernel
theorem dX3_add_46 : decode cX3_add 46 = .ok (.iload 4, 2) := by decide +kernel
theorem dX3_add_48 : decode cX3_add 48 = .ok (.lshl, 1) := by decide +kernel
theorem dX3_add_49 : decode cX3_add 49 = .ok (.lor, 1) := by decide +kernel
theorem dX3_add_50 : decode cX3_add 50 = .ok (.putfield 41, 3) := by decide +kernel
theorem dX3_add_53 : decode cX3_add 53 = .ok (.aload_n 0, 1) := by decide +kernel
theorem dX3_add_54 : decode cX3_add 54 = .ok (.invokevirtual 49, 3) := by decide +kernel
theorem dX3_add_57 : decode cX3_add 57 = .ok (.aload_n 0, 1) := by decide +kernel
theorem dX3_add_58 : decode cX3_add 58 = .ok (.invokevirtual 52, 3) := by decide +kernel
theorem dX3_add_61 : decode cX3_add 61 = .ok (.iload 4, 2) := by decide +kernel
theorem dX3_add_63 : decode cX3_add 63 = .ok (.ireturn, 1) := by decide +kernel
set_option maxRecDepth 20000 in
theorem ggX3_remove_X3_sortJoins : GoodIn wsX3_remove wsX3_sortJoins := goodIn_r _ [7, 8, 9, 10, 1, 11, 12, 13, 14, 15, 16, 17, 18, 19, 20, 21, 22, 23, 24] (by decide +kernel) (by decide +kernel)
set_option maxRecDepth 20000 in
theorem gX3_remove_X3_sortJoins : GoodIn wsX3_remove (wsV RX3 49 RX3 yX3_sortJoins wsX3_sortJoins) := goodIn_app (goodIn_of _ (by decide +kernel)) ggX3_remove_X3_sortJoins
theorem dX3_remove_0 : decode cX3_remove 0 = .ok (.aload_n 0, 1) := by decide +kernel
theorem dX3_remove_1 : decode cX3_remove 1 = .ok (.dup, 1) := by decide +kernel
theorem dX3_remove_2 : decode cX3_remove 2 = .ok (.getfield 41, 3) := by decide +kernel
theorem dX3_remove_5 : decode cX3_remove 5 = .ok (.lconst 1, 1) := by decide +kernel
theorem dX3_remove_6 : decode cX3_remove 6 = .ok (.iload_n 1, 1) := by decide +kernel
theorem dX3_remove_7 : decode cX3_remove 7 = .ok (.lshl, 1) := by decide +kernel
theorem dX3_remove_8 : decode cX3_remove 8 = .ok (.ldc2_w 55, 3) := by decide +kernel
theorem dX3_remove_11 : decode cX3_remove 11 = .ok (.lxor, 1) := by decide +kernel
theorem dX3_remove_12 : decode cX3_remove 12 = .ok (.land, 1) := by decide +kernel
theorem dX3_remove_13 : decode cX3_remove 13 = .ok (.putfield 41, 3) := by decide +kernel
theorem dX3_remove_16 : decode cX3_remove 16 = .ok (.aload_n 0, 1) := by decide +kernel
theorem dX3_remove_17 : decode cX3_remove 17 = .ok (.invokevirtual 49, 3) := by decide +kernel
theorem dX3_remove_20 : decode cX3_remove 20 = .ok (.return_, 1) := by decide +kernel
set_option maxRecDepth 20000 in
theorem ggX3_sortJoins_X8_holds : GoodIn wsX3_sortJoins wsX8_holds := goodIn_r _ [9] (by decide +kernel) (by decide +kernel)
set_option maxRecDepth 20000 in
theorem gX3_sortJoins_X8_holds_n45 : GoodIn wsX3_sortJoins (wsX8_holds) := ggX3_sortJoins_X8_holds
theorem dX3_sortJoins_0 : decode cX3_sortJoins 0 = .ok (.iconst 0, 1) := by decide +kernel
theorem dX3_sortJoins_1 : decode cX3_sortJoins 1 = .ok (.istore_n 1, 1) := by decide +kernel
theorem dX3_sortJoins_2 : decode cX3_sortJoins 2 = .ok (.iconst 0, 1) := by decide +kernel
theorem dX3_sortJoins_3 : decode cX3_sortJoins 3 = .ok (.istore_n 2, 1) := by decide +kernel
theorem dX3_sortJoins_4 : decode cX3_sortJoins 4 = .ok (.iload_n 2, 1) := by decide +kernel
theorem dX3_sortJoins_5 : decode cX3_sortJoins 5 = .ok (.bipush 24, 2) := by decide +kernel
theorem dX3_sortJoins_7 : decode cX3_sortJoins 7 = .ok (.if_icmp .ge 76, 3) := by decide +kernel
theorem dX3_sortJoins_10 : decode cX3_sortJoins 10 = .ok (.aload_n 0, 1) := by decide +kernel
theorem dX3_sortJoins_11 : decode cX3_sortJoins 11 = .ok (.getfield 27, 3) := by decide +kernel
theorem dX3_sortJoins_14 : decode cX3_sortJoins 14 = .ok (.iload_n 2, 1) := by decide +kernel
theorem dX3_sortJoins_15 : decode cX3_sortJoins 15 = .ok (.iload_n 1, 1) := by decide +kernel
theorem dX3_sortJoins_16 : decode cX3_sortJoins 16 = .ok (.iastore, 1) := by decide +kernel
theorem dX3_sortJoins_17 : decode cX3_sortJoins 17 = .ok (.iconst 0, 1) := by decide +kernel
theorem dX3_sortJoins_18 : decode cX3_sortJoins 18 = .ok (.istore_n 3, 1) := by decide +kernel
theorem dX3_sortJoins_19 : decode cX3_sortJoins 19 = .ok (.iload_n 3, 1) := by decide +kernel
theorem dX3_sortJoins_20 : decode cX3_sortJoins 20 = .ok (.aload_n 0, 1) := by decide +kernel
theorem dX3_sortJoins_21 : decode cX3_sortJoins 21 = .ok (.getfield 33, 3) := by decide +kernel
theorem dX3_sortJoins_24 : decode cX3_sortJoins 24 = .ok (.if_icmp .ge 46, 3) := by decide +kernel
theorem dX3_sortJoins_27 : decode cX3_sortJoins 27 = .ok (.aload_n 0, 1) := by decide +kernel
theorem dX3_sortJoins_28 : decode cX3_sortJoins 28 = .ok (.getfield 15, 3) := by decide +kernel
theorem dX3_sortJoins_31 : decode cX3_sortJoins 31 = .ok (.iload_n 3, 1) := by decide +kernel
theorem dX3_sortJoins_32 : decode cX3_sortJoins 32 = .ok (.iaload, 1) := by decide +kernel
theorem dX3_sortJoins_33 : decode cX3_sortJoins 33 = .ok (.iload_n 2, 1) := by decide +kernel
theorem dX3_sortJoins_34 : decode cX3_sortJoins 34 = .ok (.if_icmp .ne 30, 3) := by decide +kernel
theorem dX3_sortJoins_37 : decode cX3_sortJoins 37 = .ok (.aload_n 0, 1) := by decide +kernel
theorem dX3_sortJoins_38 : decode cX3_sortJoins 38 = .ok (.getfield 41, 3) := by decide +kernel
theorem dX3_sortJoins_41 : decode cX3_sortJoins 41 = .ok (.iload_n 3, 1) := by decide +kernel
theorem dX3_sortJoins_42 : decode cX3_sortJoins 42 = .ok (.invokestatic 45, 3) := by decide +kernel
theorem dX3_sortJoins_45 : decode cX3_sortJoins 45 = .ok (.ifCond .eq 19, 3) := by decide +kernel
theorem dX3_sortJoins_48 : decode cX3_sortJoins 48 = .ok (.iload_n 1, 1) := by decide +kernel
theorem dX3_sortJoins_49 : decode cX3_sortJoins 49 = .ok (.bipush 40, 2) := by decide +kernel
theorem dX3_sortJoins_51 : decode cX3_sortJoins 51 = .ok (.if_icmp .ge 13, 3) := by decide +kernel
theorem dX3_sortJoins_54 : decode cX3_sortJoins 54 = .ok (.aload_n 0, 1) := by decide +kernel
theorem dX3_sortJoins_55 : decode cX3_sortJoins 55 = .ok (.getfield 24, 3) := by decide +kernel
theorem dX3_sortJoins_58 : decode cX3_sortJoins 58 = .ok (.iload_n 1, 1) := by decide +kernel
theorem dX3_sortJoins_59 : decode cX3_sortJoins 59 = .ok (.iload_n 3, 1) := by decide +kernel
theorem dX3_sortJoins_60 : decode cX3_sortJoins 60 = .ok (.iastore, 1) := by decide +kernel
theorem dX3_sortJoins_61 : decode cX3_sortJoins 61 = .ok (.iinc 1 1, 3) := by decide +kernel
theorem dX3_sortJoins_64 : decode cX3_sortJoins 64 = .ok (.iinc 3 1, 3) := by decide +kernel
theorem dX3_sortJoins_67 : decode cX3_sortJoins 67 = .ok (.goto (-48), 3) := by decide +kernel
theorem dX3_sortJoins_70 : decode cX3_sortJoins 70 = .ok (.aload_n 0, 1) := by decide +kernel
theorem dX3_sortJoins_71 : decode cX3_sortJoins 71 = .ok (.getfield 30, 3) := by decide +kernel
theorem dX3_sortJoins_74 : decode cX3_sortJoins 74 = .ok (.iload_n 2, 1) := by decide +kernel
theorem dX3_sortJoins_75 : decode cX3_sortJoins 75 = .ok (.iload_n 1, 1) := by decide +kernel
theorem dX3_sortJoins_76 : decode cX3_sortJoins 76 = .ok (.iastore, 1) := by decide +kernel
theorem dX3_sortJoins_77 : decode cX3_sortJoins 77 = .ok (.iinc 2 1, 3) := by decide +kernel
theorem dX3_sortJoins_80 : decode cX3_sortJoins 80 = .ok (.goto (-76), 3) := by decide +kernel
theorem dX3_sortJoins_83 : decode cX3_sortJoins 83 = .ok (.return_, 1) := by decide +kernel
set_option maxRecDepth 20000 in
theorem ggX3_orderParts_X8_holds : GoodIn wsX3_orderParts wsX8_holds := goodIn_r _ [4] (by decide +kernel) (by decide +kernel)
set_option maxRecDepth 20000 in
theorem gX3_orderParts_X8_holds_n45 : GoodIn wsX3_orderParts (wsX8_holds) := ggX3_orderParts_X8_holds
set_option maxRecDepth 20000 in
theorem ggX3_orderParts_X3_directlyIn : GoodIn wsX3_orderParts wsX3_directlyIn := goodIn_r _ [9, 10, 11, 12, 13, 14, 15, 16, 17, 18, 19, 20, 21, 22] (by decide +kernel) (by decide +kernel)
set_option maxRecDepth 20000 in
theorem gX3_orderParts_X3_directlyIn : GoodIn wsX3_orderParts (wsV RX3 57 RX3 yX3_directlyIn wsX3_directlyIn) := goodIn_app (goodIn_of _ (by decide +kernel)) ggX3_orderParts_X3_directlyIn
theorem dX3_orderParts_0 : decode cX3_orderParts 0 = .ok (.iconst 0, 1) := by decide +kernel
theorem dX3_orderParts_1 : decode cX3_orderParts 1 = .ok (.istore_n 1, 1) := by decide +kernel
theorem dX3_orderParts_2 : decode cX3_orderParts 2 = .ok (.iconst 0, 1) := by decide +kernel
theorem dX3_orderParts_3 : decode cX3_orderParts 3 = .ok (.istore_n 2, 1) := by decide +kernel
theorem dX3_orderParts_4 : decode cX3_orderParts 4 = .ok (.iconst 0, 1) := by decide +kernel
theorem dX3_orderParts_5 : decode cX3_orderParts 5 = .ok (.istore_n 3, 1) := by decide +kernel
theorem dX3_orderParts_6 : decode cX3_orderParts 6 = .ok (.iload_n 3, 1) := by decide +kernel
theorem dX3_orderParts_7 : decode cX3_orderParts 7 = .ok (.bipush 24, 2) := by decide +kernel
theorem dX3_orderParts_9 : decode cX3_orderParts 9 = .ok (.if_icmp .ge 78, 3) := by decide +kernel
theorem dX3_orderParts_12 : decode cX3_orderParts 12 = .ok (.iload_n 2, 1) := by decide +kernel
theorem dX3_orderParts_13 : decode cX3_orderParts 13 = .ok (.bipush 24, 2) := by decide +kernel
theorem dX3_orderParts_15 : decode cX3_orderParts 15 = .ok (.if_icmp .ge 72, 3) := by decide +kernel
theorem dX3_orderParts_18 : decode cX3_orderParts 18 = .ok (.iconst 0, 1) := by decide +kernel
theorem dX3_orderParts_19 : decode cX3_orderParts 19 = .ok (.istore 4, 2) := by decide +kernel
theorem dX3_orderParts_21 : decode cX3_orderParts 21 = .ok (.iload 4, 2) := by decide +kernel
theorem dX3_orderParts_23 : decode cX3_orderParts 23 = .ok (.bipush 24, 2) := by decide +kernel
theorem dX3_orderParts_25 : decode cX3_orderParts 25 = .ok (.if_icmp .ge 56, 3) := by decide +kernel
theorem dX3_orderParts_28 : decode cX3_orderParts 28 = .ok (.iload_n 2, 1) := by decide +kernel
theorem dX3_orderParts_29 : decode cX3_orderParts 29 = .ok (.bipush 24, 2) := by decide +kernel
theorem dX3_orderParts_31 : decode cX3_orderParts 31 = .ok (.if_icmp .ge 50, 3) := by decide +kernel
theorem dX3_orderParts_34 : decode cX3_orderParts 34 = .ok (.iload_n 1, 1) := by decide +kernel
theorem dX3_orderParts_35 : decode cX3_orderParts 35 = .ok (.i2l, 1) := by decide +kernel
theorem dX3_orderParts_36 : decode cX3_orderParts 36 = .ok (.iload 4, 2) := by decide +kernel
theorem dX3_orderParts_38 : decode cX3_orderParts 38 = .ok (.invokestatic 45, 3) := by decide +kernel
theorem dX3_orderParts_41 : decode cX3_orderParts 41 = .ok (.ifCond .ne 34, 3) := by decide +kernel
theorem dX3_orderParts_44 : decode cX3_orderParts 44 = .ok (.aload_n 0, 1) := by decide +kernel
theorem dX3_orderParts_45 : decode cX3_orderParts 45 = .ok (.iload 4, 2) := by decide +kernel
theorem dX3_orderParts_47 : decode cX3_orderParts 47 = .ok (.invokevirtual 57, 3) := by decide +kernel
theorem dX3_orderParts_50 : decode cX3_orderParts 50 = .ok (.iload_n 1, 1) := by decide +kernel
theorem dX3_orderParts_51 : decode cX3_orderParts 51 = .ok (.iconst (-1), 1) := by decide +kernel
theorem dX3_orderParts_52 : decode cX3_orderParts 52 = .ok (.ixor, 1) := by decide +kernel
theorem dX3_orderParts_53 : decode cX3_orderParts 53 = .ok (.iand, 1) := by decide +kernel
theorem dX3_orderParts_54 : decode cX3_orderParts 54 = .ok (.ifCond .ne 21, 3) := by decide +kernel
theorem dX3_orderParts_57 : decode cX3_orderParts 57 = .ok (.aload_n 0, 1) := by decide +kernel
theorem dX3_orderParts_58 : decode cX3_orderParts 58 = .ok (.getfield 21, 3) := by decide +kernel
theorem dX3_orderParts_61 : decode cX3_orderParts 61 = .ok (.iload_n 2, 1) := by decide +kernel
theorem dX3_orderParts_62 : decode cX3_orderParts 62 = .ok (.iload 4, 2) := by decide +kernel
theorem dX3_orderParts_64 : decode cX3_orderParts 64 = .ok (.iastore, 1) := by decide +kernel
theorem dX3_orderParts_65 : decode cX3_orderParts 65 = .ok (.iinc 2 1, 3) := by decide +kernel
theorem dX3_orderParts_68 : decode cX3_orderParts 68 = .ok (.iload_n 1, 1) := by decide +kernel
theorem dX3_orderParts_69 : decode cX3_orderParts 69 = .ok (.iconst 1, 1) := by decide +kernel
theorem dX3_orderParts_70 : decode cX3_orderParts 70 = .ok (.iload 4, 2) := by decide +kernel
theorem dX3_orderParts_72 : decode cX3_orderParts 72 = .ok (.ishl, 1) := by decide +kernel
theorem dX3_orderParts_73 : decode cX3_orderParts 73 = .ok (.ior, 1) := by decide +kernel
theorem dX3_orderParts_74 : decode cX3_orderParts 74 = .ok (.istore_n 1, 1) := by decide +kernel
theorem dX3_orderParts_75 : decode cX3_orderParts 75 = .ok (.iinc 4 1, 3) := by decide +kernel
theorem dX3_orderParts_78 : decode cX3_orderParts 78 = .ok (.goto (-57), 3) := by decide +kernel
theorem dX3_orderParts_81 : decode cX3_orderParts 81 = .ok (.iinc 3 1, 3) := by decide +kernel
theorem dX3_orderParts_84 : decode cX3_orderParts 84 = .ok (.goto (-78), 3) := by decide +kernel
theorem dX3_orderParts_87 : decode cX3_orderParts 87 = .ok (.return_, 1) := by decide +kernel
theorem dX3_directlyIn_0 : decode cX3_directlyIn 0 = .ok (.iconst 0, 1) := by decide +kernel
theorem dX3_directlyIn_1 : decode cX3_directlyIn 1 = .ok (.istore_n 2, 1) := by decide +kernel
theorem dX3_directlyIn_2 : decode cX3_directlyIn 2 = .ok (.aload_n 0, 1) := by decide +kernel
theorem dX3_directlyIn_3 : decode cX3_directlyIn 3 = .ok (.getfield 27, 3) := by decide +kernel
theorem dX3_directlyIn_6 : decode cX3_directlyIn 6 = .ok (.iload_n 1, 1) := by decide +kernel
theorem dX3_directlyIn_7 : decode cX3_directlyIn 7 = .ok (.iaload, 1) := by decide +kernel
theorem dX3_directlyIn_8 : decode cX3_directlyIn 8 = .ok (.istore_n 3, 1) := by decide +kernel
theorem dX3_directlyIn_9 : decode cX3_directlyIn 9 = .ok (.iload_n 3, 1) := by decide +kernel
theorem dX3_directlyIn_10 : decode cX3_directlyIn 10 = .ok (.aload_n 0, 1) := by decide +kernel
theorem dX3_directlyIn_11 : decode cX3_directlyIn 11 = .ok (.getfield 30, 3) := by decide +kernel
theorem dX3_directlyIn_14 : decode cX3_directlyIn 14 = .ok (.iload_n 1, 1) := by decide +kernel
theorem dX3_directlyIn_15 : decode cX3_directlyIn 15 = .ok (.iaload, 1) := by decide +kernel
theorem dX3_directlyIn_16 : decode cX3_directlyIn 16 = .ok (.if_icmp .ge 25, 3) := by decide +kernel
theorem dX3_directlyIn_19 : decode cX3_directlyIn 19 = .ok (.iload_n 2, 1) := by decide +kernel
theorem dX3_directlyIn_20 : decode cX3_directlyIn 20 = .ok (.iconst 1, 1) := by decide +kernel
theorem dX3_directlyIn_21 : decode cX3_directlyIn 21 = .ok (.aload_n 0, 1) := by decide +kernel
theorem dX3_directlyIn_22 : decode cX3_directlyIn 22 = .ok (.getfield 9, 3) := by decide +kernel
theorem dX3_directlyIn_25 : decode cX3_directlyIn 25 = .ok (.aload_n 0, 1) := by decide +kernel
theorem dX3_directlyIn_26 : decode cX3_directlyIn 26 = .ok (.getfield 24, 3) := by decide +kernel
theorem dX3_directlyIn_29 : decode cX3_directlyIn 29 = .ok (.iload_n 3, 1) := by decide +kernel
theorem dX3_directlyIn_30 : decode cX3_directlyIn 30 = .ok (.iaload, 1) := by decide +kernel
theorem dX3_directlyIn_31 : decode cX3_directlyIn 31 = .ok (.iaload, 1) := by decide +kernel
theorem dX3_directlyIn_32 : decode cX3_directlyIn 32 = .ok (.ishl, 1) := by decide +kernel
theorem dX3_directlyIn_33 : decode cX3_directlyIn 33 = .ok (.ior, 1) := by decide +kernel
theorem dX3_directlyIn_34 : decode cX3_directlyIn 34 = .ok (.istore_n 2, 1) := by decide +kernel
theorem dX3_directlyIn_35 : decode cX3_directlyIn 35 = .ok (.iinc 3 1, 3) := by decide +kernel
theorem dX3_directlyIn_38 : decode cX3_directlyIn 38 = .ok (.goto (-29), 3) := by decide +kernel
theorem dX3_directlyIn_41 : decode cX3_directlyIn 41 = .ok (.iload_n 2, 1) := by decide +kernel
theorem dX3_directlyIn_42 : decode cX3_directlyIn 42 = .ok (.ireturn, 1) := by decide +kernel
set_option maxRecDepth 20000 in
theorem ggX3_allIn_X8_holds : GoodIn wsX3_allIn wsX8_holds := goodIn_r _ [8] (by decide +kernel) (by decide +kernel)
set_option maxRecDepth 20000 in
theorem gX3_allIn_X8_holds_n45 : GoodIn wsX3_allIn (wsX8_holds) := ggX3_allIn_X8_holds
theorem dX3_allIn_0 : decode cX3_allIn 0 = .ok (.iconst 1, 1) := by decide +kernel
theorem dX3_allIn_1 : decode cX3_allIn 1 = .ok (.iload_n 1, 1) := by decide +kernel
theorem dX3_allIn_2 : decode cX3_allIn 2 = .ok (.ishl, 1) := by decide +kernel
theorem dX3_allIn_3 : decode cX3_allIn 3 = .ok (.istore 4, 2) := by decide +kernel
theorem dX3_allIn_5 : decode cX3_allIn 5 = .ok (.bipush 23, 2) := by decide +kernel
theorem dX3_allIn_7 : decode cX3_allIn 7 = .ok (.istore 5, 2) := by decide +kernel
theorem dX3_allIn_9 : decode cX3_allIn 9 = .ok (.iload 5, 2) := by decide +kernel
theorem dX3_allIn_11 : decode cX3_allIn 11 = .ok (.ifCond .lt 91, 3) := by decide +kernel
theorem dX3_allIn_14 : decode cX3_allIn 14 = .ok (.aload_n 0, 1) := by decide +kernel
theorem dX3_allIn_15 : decode cX3_allIn 15 = .ok (.getfield 21, 3) := by decide +kernel
theorem dX3_allIn_18 : decode cX3_allIn 18 = .ok (.iload 5, 2) := by decide +kernel
theorem dX3_allIn_20 : decode cX3_allIn 20 = .ok (.iaload, 1) := by decide +kernel
theorem dX3_allIn_21 : decode cX3_allIn 21 = .ok (.istore 6, 2) := by decide +kernel
theorem dX3_allIn_23 : decode cX3_allIn 23 = .ok (.iload 4, 2) := by decide +kernel
theorem dX3_allIn_25 : decode cX3_allIn 25 = .ok (.i2l, 1) := by decide +kernel
theorem dX3_allIn_26 : decode cX3_allIn 26 = .ok (.iload 6, 2) := by decide +kernel
theorem dX3_allIn_28 : decode cX3_allIn 28 = .ok (.invokestatic 45, 3) := by decide +kernel
theorem dX3_allIn_31 : decode cX3_allIn 31 = .ok (.ifCond .ne 6, 3) := by decide +kernel
theorem dX3_allIn_34 : decode cX3_allIn 34 = .ok (.goto 62, 3) := by decide +kernel
theorem dX3_allIn_37 : decode cX3_allIn 37 = .ok (.aload_n 0, 1) := by decide +kernel
theorem dX3_allIn_38 : decode cX3_allIn 38 = .ok (.getfield 27, 3) := by decide +kernel
theorem dX3_allIn_41 : decode cX3_allIn 41 = .ok (.iload 6, 2) := by decide +kernel
theorem dX3_allIn_43 : decode cX3_allIn 43 = .ok (.iaload, 1) := by decide +kernel
theorem dX3_allIn_44 : decode cX3_allIn 44 = .ok (.istore 7, 2) := by decide +kernel
theorem dX3_allIn_46 : decode cX3_allIn 46 = .ok (.iload 7, 2) := by decide +kernel
theorem dX3_allIn_48 : decode cX3_allIn 48 = .ok (.aload_n 0, 1) := by decide +kernel
theorem dX3_allIn_49 : decode cX3_allIn 49 = .ok (.getfield 30, 3) := by decide +kernel
theorem dX3_allIn_52 : decode cX3_allIn 52 = .ok (.iload 6, 2) := by decide +kernel
theorem dX3_allIn_54 : decode cX3_allIn 54 = .ok (.iaload, 1) := by decide +kernel
theorem dX3_allIn_55 : decode cX3_allIn 55 = .ok (.if_icmp .ge 41, 3) := by decide +kernel
theorem dX3_allIn_58 : decode cX3_allIn 58 = .ok (.aload_n 0, 1) := by decide +kernel
theorem dX3_allIn_59 : decode cX3_allIn 59 = .ok (.getfield 24, 3) := by decide +kernel
theorem dX3_allIn_62 : decode cX3_allIn 62 = .ok (.iload 7, 2) := by decide +kernel
theorem dX3_allIn_64 : decode cX3_allIn 64 = .ok (.iaload, 1) := by decide +kernel
theorem dX3_allIn_65 : decode cX3_allIn 65 = .ok (.istore 8, 2) := by decide +kernel
theorem dX3_allIn_67 : decode cX3_allIn 67 = .ok (.lload_n 2, 1) := by decide +kernel
theorem dX3_allIn_68 : decode cX3_allIn 68 = .ok (.iload 8, 2) := by decide +kernel
theorem dX3_allIn_70 : decode cX3_allIn 70 = .ok (.invokestatic 45, 3) := by decide +kernel
theorem dX3_allIn_73 : decode cX3_allIn 73 = .ok (.ifCond .eq 17, 3) := by decide +kernel
theorem dX3_allIn_76 : decode cX3_allIn 76 = .ok (.iload 4, 2) := by decide +kernel
theorem dX3_allIn_78 : decode cX3_allIn 78 = .ok (.iconst 1, 1) := by decide +kernel
theorem dX3_allIn_79 : decode cX3_allIn 79 = .ok (.aload_n 0, 1) := by decide +kernel
theorem dX3_allIn_80 : decode cX3_allIn 80 = .ok (.getfield 9, 3) := by decide +kernel
theorem dX3_allIn_83 : decode cX3_allIn 83 = .ok (.iload 8, 2) := by decide +kernel
theorem dX3_allIn_85 : decode cX3_allIn 85 = .ok (.iaload, 1) := by decide +kernel
theorem dX3_allIn_86 : decode cX3_allIn 86 = .ok (.ishl, 1) := by decide +kernel
theorem dX3_allIn_87 : decode cX3_allIn 87 = .ok (.ior, 1) := by decide +kernel
theorem dX3_allIn_88 : decode cX3_allIn 88 = .ok (.istore 4, 2) := by decide +kernel
theorem dX3_allIn_90 : decode cX3_allIn 90 = .ok (.iinc 7 1, 3) := by decide +kernel
theorem dX3_allIn_93 : decode cX3_allIn 93 = .ok (.goto (-47), 3) := by decide +kernel
theorem dX3_allIn_96 : decode cX3_allIn 96 = .ok (.iinc 5 (-1), 3) := by decide +kernel
theorem dX3_allIn_99 : decode cX3_allIn 99 = .ok (.goto (-90), 3) := by decide +kernel
theorem dX3_allIn_102 : decode cX3_allIn 102 = .ok (.iload 4, 2) := by decide +kernel
theorem dX3_allIn_104 : decode cX3_allIn 104 = .ok (.ireturn, 1) := by decide +kernel
theorem dX3_countInto_0 : decode cX3_countInto 0 = .ok (.aload_n 0, 1) := by decide +kernel
theorem dX3_countInto_1 : decode cX3_countInto 1 = .ok (.getfield 30, 3) := by decide +kernel
theorem dX3_countInto_4 : decode cX3_countInto 4 = .ok (.iload_n 1, 1) := by decide +kernel
theorem dX3_countInto_5 : decode cX3_countInto 5 = .ok (.iaload, 1) := by decide +kernel
theorem dX3_countInto_6 : decode cX3_countInto 6 = .ok (.aload_n 0, 1) := by decide +kernel
theorem dX3_countInto_7 : decode cX3_countInto 7 = .ok (.getfield 27, 3) := by decide +kernel
theorem dX3_countInto_10 : decode cX3_countInto 10 = .ok (.iload_n 1, 1) := by decide +kernel
theorem dX3_countInto_11 : decode cX3_countInto 11 = .ok (.iaload, 1) := by decide +kernel
theorem dX3_countInto_12 : decode cX3_countInto 12 = .ok (.isub, 1) := by decide +kernel
theorem dX3_countInto_13 : decode cX3_countInto 13 = .ok (.ireturn, 1) := by decide +kernel
set_option maxRecDepth 20000 in
theorem ggX3_countOutOf_X8_holds : GoodIn wsX3_countOutOf wsX8_holds := goodIn_r _ [6] (by decide +kernel) (by decide +kernel)
set_option maxRecDepth 20000 in
theorem gX3_countOutOf_X8_holds_n45 : GoodIn wsX3_countOutOf (wsX8_holds) := ggX3_countOutOf_X8_holds
theorem dX3_countOutOf_0 : decode cX3_countOutOf 0 = .ok (.iconst 0, 1) := by decide +kernel
theorem dX3_countOutOf_1 : decode cX3_countOutOf 1 = .ok (.istore_n 2, 1) := by decide +kernel
theorem dX3_countOutOf_2 : decode cX3_countOutOf 2 = .ok (.iconst 0, 1) := by decide +kernel
theorem dX3_countOutOf_3 : decode cX3_countOutOf 3 = .ok (.istore_n 3, 1) := by decide +kernel
theorem dX3_countOutOf_4 : decode cX3_countOutOf 4 = .ok (.iload_n 3, 1) := by decide +kernel
theorem dX3_countOutOf_5 : decode cX3_countOutOf 5 = .ok (.aload_n 0, 1) := by decide +kernel
theorem dX3_countOutOf_6 : decode cX3_countOutOf 6 = .ok (.getfield 33, 3) := by decide +kernel
theorem dX3_countOutOf_9 : decode cX3_countOutOf 9 = .ok (.if_icmp .ge 33, 3) := by decide +kernel
theorem dX3_countOutOf_12 : decode cX3_countOutOf 12 = .ok (.aload_n 0, 1) := by decide +kernel
theorem dX3_countOutOf_13 : decode cX3_countOutOf 13 = .ok (.getfield 9, 3) := by decide +kernel
theorem dX3_countOutOf_16 : decode cX3_countOutOf 16 = .ok (.iload_n 3, 1) := by decide +kernel
theorem dX3_countOutOf_17 : decode cX3_countOutOf 17 = .ok (.iaload, 1) := by decide +kernel
theorem dX3_countOutOf_18 : decode cX3_countOutOf 18 = .ok (.iload_n 1, 1) := by decide +kernel
theorem dX3_countOutOf_19 : decode cX3_countOutOf 19 = .ok (.if_icmp .ne 17, 3) := by decide +kernel
theorem dX3_countOutOf_22 : decode cX3_countOutOf 22 = .ok (.aload_n 0, 1) := by decide +kernel
theorem dX3_countOutOf_23 : decode cX3_countOutOf 23 = .ok (.getfield 41, 3) := by decide +kernel
theorem dX3_countOutOf_26 : decode cX3_countOutOf 26 = .ok (.iload_n 3, 1) := by decide +kernel
theorem dX3_countOutOf_27 : decode cX3_countOutOf 27 = .ok (.invokestatic 45, 3) := by decide +kernel
theorem dX3_countOutOf_30 : decode cX3_countOutOf 30 = .ok (.ifCond .eq 6, 3) := by decide +kernel
theorem dX3_countOutOf_33 : decode cX3_countOutOf 33 = .ok (.iinc 2 1, 3) := by decide +kernel
theorem dX3_countOutOf_36 : decode cX3_countOutOf 36 = .ok (.iinc 3 1, 3) := by decide +kernel
theorem dX3_countOutOf_39 : decode cX3_countOutOf 39 = .ok (.goto (-35), 3) := by decide +kernel
theorem dX3_countOutOf_42 : decode cX3_countOutOf 42 = .ok (.iload_n 2, 1) := by decide +kernel
theorem dX3_countOutOf_43 : decode cX3_countOutOf 43 = .ok (.ireturn, 1) := by decide +kernel
theorem dX4_init_0 : decode cX4_init 0 = .ok (.aload_n 0, 1) := by decide +kernel
theorem dX4_init_1 : decode cX4_init 1 = .ok (.invokespecial 3, 3) := by decide +kernel
theorem dX4_init_4 : decode cX4_init 4 = .ok (.aload_n 0, 1) := by decide +kernel
theorem dX4_init_5 : decode cX4_init 5 = .ok (.bipush 24, 2) := by decide +kernel
theorem dX4_init_7 : decode cX4_init 7 = .ok (.newarray .int, 2) := by decide +kernel
theorem dX4_init_9 : decode cX4_init 9 = .ok (.putfield 9, 3) := by decide +kernel
theorem dX4_init_12 : decode cX4_init 12 = .ok (.aload_n 0, 1) := by decide +kernel
theorem dX4_init_13 : decode cX4_init 13 = .ok (.aload_n 1, 1) := by decide +kernel
theorem dX4_init_14 : decode cX4_init 14 = .ok (.putfield 15, 3) := by decide +kernel
theorem dX4_init_17 : decode cX4_init 17 = .ok (.aload_n 0, 1) := by decide +kernel
theorem dX4_init_18 : decode cX4_init 18 = .ok (.aload_n 2, 1) := by decide +kernel
theorem dX4_init_19 : decode cX4_init 19 = .ok (.putfield 19, 3) := by decide +kernel
theorem dX4_init_22 : decode cX4_init 22 = .ok (.aload_n 0, 1) := by decide +kernel
theorem dX4_init_23 : decode cX4_init 23 = .ok (.aload_n 3, 1) := by decide +kernel
theorem dX4_init_24 : decode cX4_init 24 = .ok (.putfield 23, 3) := by decide +kernel
theorem dX4_init_27 : decode cX4_init 27 = .ok (.aload_n 0, 1) := by decide +kernel
theorem dX4_init_28 : decode cX4_init 28 = .ok (.aload 4, 2) := by decide +kernel
theorem dX4_init_30 : decode cX4_init 30 = .ok (.putfield 27, 3) := by decide +kernel
theorem dX4_init_33 : decode cX4_init 33 = .ok (.return_, 1) := by decide +kernel
set_option maxRecDepth 20000 in
theorem ggX4_cheapestSet_X0_isBetter : GoodIn wsX4_cheapestSet wsX0_isBetter := goodIn_r _ [6, 7, 8, 9, 5, 10, 11, 12, 13, 14, 15, 16, 17, 18, 19, 20, 21, 22, 23, 24, 25, 26, 27, 28, 101, 102, 103, 104, 105] (by decide +kernel) (by decide +kernel)
set_option maxRecDepth 20000 in
theorem gX4_cheapestSet_X0_isBetter : GoodIn wsX4_cheapestSet (wsV RX4 37 RX0 yX0_isBetter wsX0_isBetter) := goodIn_app (goodIn_of _ (by decide +kernel)) ggX4_cheapestSet_X0_isBetter
set_option maxRecDepth 20000 in
theorem ggX4_cheapestSet_X4_endsQuarrels : GoodIn wsX4_cheapestSet wsX4_endsQuarrels := goodIn_r _ [33, 34, 35, 36, 37, 38, 39, 40, 1, 41, 42, 13, 14, 15, 43, 44, 45, 46, 47, 48, 49, 50, 51, 52, 53, 54, 55, 56, 57, 58, 59, 60, 61, 62, 63, 64, 65, 66, 67, 68, 69, 70, 71, 72, 73, 74, 75, 76, 77, 78, 79, 80, 81, 82, 83, 84, 85, 86, 87, 88, 89, 90, 91, 92, 93, 94, 95, 96, 97, 98, 99, 100, 106, 107, 108, 109, 110, 111, 112, 113, 114, 115, 116, 117, 118, 119, 120, 101, 102, 103, 104, 105, 121, 122, 123, 124, 125, 126, 127, 128] (by decide +kernel) (by decide +kernel)
set_option maxRecDepth 20000 in
theorem gX4_cheapestSet_X4_endsQuarrels : GoodIn wsX4_cheapestSet (wsV RX4 41 RX4 yX4_endsQuarrels wsX4_endsQuarrels) := goodIn_app (goodIn_of _ (by decide +kernel)) ggX4_cheapestSet_X4_endsQuarrels
theorem dX4_cheapestSet_0 : decode cX4_cheapestSet 0 = .ok (.iconst (-1), 1) := by decide +kernel
theorem dX4_cheapestSet_1 : decode cX4_cheapestSet 1 = .ok (.istore_n 2, 1) := by decide +kernel
theorem dX4_cheapestSet_2 : decode cX4_cheapestSet 2 = .ok (.iconst 1, 1) := by decide +kernel
theorem dX4_cheapestSet_3 : decode cX4_cheapestSet 3 = .ok (.aload_n 0, 1) := by decide +kernel
theorem dX4_cheapestSet_4 : decode cX4_cheapestSet 4 = .ok (.getfield 23, 3) := by decide +kernel
theorem dX4_cheapestSet_7 : decode cX4_cheapestSet 7 = .ok (.getfield 31, 3) := by decide +kernel
theorem dX4_cheapestSet_10 : decode cX4_cheapestSet 10 = .ok (.ishl, 1) := by decide +kernel
theorem dX4_cheapestSet_11 : decode cX4_cheapestSet 11 = .ok (.istore_n 3, 1) := by decide +kernel
theorem dX4_cheapestSet_12 : decode cX4_cheapestSet 12 = .ok (.iconst 0, 1) := by decide +kernel
theorem dX4_cheapestSet_13 : decode cX4_cheapestSet 13 = .ok (.istore 4, 2) := by decide +kernel
theorem dX4_cheapestSet_15 : decode cX4_cheapestSet 15 = .ok (.iload 4, 2) := by decide +kernel
theorem dX4_cheapestSet_17 : decode cX4_cheapestSet 17 = .ok (.iload_n 3, 1) := by decide +kernel
theorem dX4_cheapestSet_18 : decode cX4_cheapestSet 18 = .ok (.if_icmp .ge 40, 3) := by decide +kernel
theorem dX4_cheapestSet_21 : decode cX4_cheapestSet 21 = .ok (.iload_n 2, 1) := by decide +kernel
theorem dX4_cheapestSet_22 : decode cX4_cheapestSet 22 = .ok (.iconst (-1), 1) := by decide +kernel
theorem dX4_cheapestSet_23 : decode cX4_cheapestSet 23 = .ok (.if_icmp .eq 16, 3) := by decide +kernel
theorem dX4_cheapestSet_26 : decode cX4_cheapestSet 26 = .ok (.aload_n 0, 1) := by decide +kernel
theorem dX4_cheapestSet_27 : decode cX4_cheapestSet 27 = .ok (.getfield 23, 3) := by decide +kernel
theorem dX4_cheapestSet_30 : decode cX4_cheapestSet 30 = .ok (.iload 4, 2) := by decide +kernel
theorem dX4_cheapestSet_32 : decode cX4_cheapestSet 32 = .ok (.iload_n 2, 1) := by decide +kernel
theorem dX4_cheapestSet_33 : decode cX4_cheapestSet 33 = .ok (.invokevirtual 37, 3) := by decide +kernel
theorem dX4_cheapestSet_36 : decode cX4_cheapestSet 36 = .ok (.ifCond .eq 16, 3) := by decide +kernel
theorem dX4_cheapestSet_39 : decode cX4_cheapestSet 39 = .ok (.aload_n 0, 1) := by decide +kernel
theorem dX4_cheapestSet_40 : decode cX4_cheapestSet 40 = .ok (.iload_n 1, 1) := by decide +kernel
theorem dX4_cheapestSet_41 : decode cX4_cheapestSet 41 = .ok (.iload 4, 2) := by decide +kernel
theorem dX4_cheapestSet_43 : decode cX4_cheapestSet 43 = .ok (.invokevirtual 41, 3) := by decide +kernel
theorem dX4_cheapestSet_46 : decode cX4_cheapestSet 46 = .ok (.ifCond .eq 6, 3) := by decide +kernel
theorem dX4_cheapestSet_49 : decode cX4_cheapestSet 49 = .ok (.iload 4, 2) := by decide +kernel
theorem dX4_cheapestSet_51 : decode cX4_cheapestSet 51 = .ok (.istore_n 2, 1) := by decide +kernel
theorem dX4_cheapestSet_52 : decode cX4_cheapestSet 52 = .ok (.iinc 4 1, 3) := by decide +kernel
theorem dX4_cheapestSet_55 : decode cX4_cheapestSet 55 = .ok (.goto (-40), 3) := by decide +kernel
theorem dX4_cheapestSet_58 : decode cX4_cheapestSet 58 = .ok (.iload_n 2, 1) := by decide +kernel
theorem dX4_cheapestSet_59 : decode cX4_cheapestSet 59 = .ok (.ireturn, 1) := by decide +kernel
set_option maxRecDepth 20000 in
theorem ggX4_endsQuarrels_X8_holds : GoodIn wsX4_endsQuarrels wsX8_holds := goodIn_r _ [13] (by decide +kernel) (by decide +kernel)
set_option maxRecDepth 20000 in
theorem gX4_endsQuarrels_X8_holds_n59 : GoodIn wsX4_endsQuarrels (wsX8_holds) := ggX4_endsQuarrels_X8_holds
set_option maxRecDepth 20000 in
theorem ggX4_endsQuarrels_X2_run : GoodIn wsX4_endsQuarrels wsX2_run := goodIn_r _ [18, 19, 20, 21, 22, 17, 23, 24, 25, 26, 27, 12, 28, 29, 30, 31, 32, 33, 34, 35, 36, 37, 11, 13, 92, 93, 94, 95, 96, 78, 79, 80, 81, 82, 83, 84, 85, 86, 97, 98, 99, 72, 73, 74, 75, 76, 77] (by decide +kernel) (by decide +kernel)
set_option maxRecDepth 20000 in
theorem gX4_endsQuarrels_X2_run : GoodIn wsX4_endsQuarrels (wsV RX4 72 RX2 yX2_run wsX2_run) := goodIn_app (goodIn_of _ (by decide +kernel)) ggX4_endsQuarrels_X2_run
set_option maxRecDepth 20000 in
theorem ggX4_endsQuarrels_X2_quarrelCount : GoodIn wsX4_endsQuarrels wsX2_quarrelCount := goodIn_r _ [41, 25, 42, 43, 44, 17, 45, 19, 46, 47, 48, 49, 50, 51, 52, 53, 54, 55, 11, 12, 13, 56, 57, 58, 59, 37, 24, 60, 61, 62, 63, 64, 65, 66, 92, 93, 94, 95, 96, 72, 73, 74, 75, 76, 77, 78, 79, 80, 81, 82, 83, 84, 85, 86, 97, 98, 99] (by decide +kernel) (by decide +kernel)
set_option maxRecDepth 20000 in
theorem gX4_endsQuarrels_X2_quarrelCount : GoodIn wsX4_endsQuarrels (wsV RX4 78 RX2 yX2_quarrelCount wsX2_quarrelCount) := goodIn_app (goodIn_of _ (by decide +kernel)) ggX4_endsQuarrels_X2_quarrelCount
theorem dX4_endsQuarrels_0 : decode cX4_endsQuarrels 0 = .ok (.aload_n 0, 1) := by decide +kernel
theorem dX4_endsQuarrels_1 : decode cX4_endsQuarrels 1 = .ok (.getfield 15, 3) := by decide +kernel
theorem dX4_endsQuarrels_4 : decode cX4_endsQuarrels 4 = .ok (.getfield 44, 3) := by decide +kernel
theorem dX4_endsQuarrels_7 : decode cX4_endsQuarrels 7 = .ok (.iconst 0, 1) := by decide +kernel
theorem dX4_endsQuarrels_8 : decode cX4_endsQuarrels 8 = .ok (.aload_n 0, 1) := by decide +kernel
theorem dX4_endsQuarrels_9 : decode cX4_endsQuarrels 9 = .ok (.getfield 9, 3) := by decide +kernel
theorem dX4_endsQuarrels_12 : decode cX4_endsQuarrels 12 = .ok (.iconst 0, 1) := by decide +kernel
theorem dX4_endsQuarrels_13 : decode cX4_endsQuarrels 13 = .ok (.bipush 24, 2) := by decide +kernel
theorem dX4_endsQuarrels_15 : decode cX4_endsQuarrels 15 = .ok (.invokestatic 47, 3) := by decide +kernel
theorem dX4_endsQuarrels_18 : decode cX4_endsQuarrels 18 = .ok (.aload_n 0, 1) := by decide +kernel
theorem dX4_endsQuarrels_19 : decode cX4_endsQuarrels 19 = .ok (.getfield 19, 3) := by decide +kernel
theorem dX4_endsQuarrels_22 : decode cX4_endsQuarrels 22 = .ok (.getfield 53, 3) := by decide +kernel
theorem dX4_endsQuarrels_25 : decode cX4_endsQuarrels 25 = .ok (.lstore_n 3, 1) := by decide +kernel
theorem dX4_endsQuarrels_26 : decode cX4_endsQuarrels 26 = .ok (.iconst 0, 1) := by decide +kernel
theorem dX4_endsQuarrels_27 : decode cX4_endsQuarrels 27 = .ok (.istore 5, 2) := by decide +kernel
theorem dX4_endsQuarrels_29 : decode cX4_endsQuarrels 29 = .ok (.iload 5, 2) := by decide +kernel
theorem dX4_endsQuarrels_31 : decode cX4_endsQuarrels 31 = .ok (.aload_n 0, 1) := by decide +kernel
theorem dX4_endsQuarrels_32 : decode cX4_endsQuarrels 32 = .ok (.getfield 23, 3) := by decide +kernel
theorem dX4_endsQuarrels_35 : decode cX4_endsQuarrels 35 = .ok (.getfield 31, 3) := by decide +kernel
theorem dX4_endsQuarrels_38 : decode cX4_endsQuarrels 38 = .ok (.if_icmp .ge 82, 3) := by decide +kernel
theorem dX4_endsQuarrels_41 : decode cX4_endsQuarrels 41 = .ok (.iload_n 2, 1) := by decide +kernel
theorem dX4_endsQuarrels_42 : decode cX4_endsQuarrels 42 = .ok (.i2l, 1) := by decide +kernel
theorem dX4_endsQuarrels_43 : decode cX4_endsQuarrels 43 = .ok (.iload 5, 2) := by decide +kernel
theorem dX4_endsQuarrels_45 : decode cX4_endsQuarrels 45 = .ok (.invokestatic 59, 3) := by decide +kernel
theorem dX4_endsQuarrels_48 : decode cX4_endsQuarrels 48 = .ok (.ifCond .ne 6, 3) := by decide +kernel
theorem dX4_endsQuarrels_51 : decode cX4_endsQuarrels 51 = .ok (.goto 63, 3) := by decide +kernel
theorem dX4_endsQuarrels_54 : decode cX4_endsQuarrels 54 = .ok (.aload_n 0, 1) := by decide +kernel
theorem dX4_endsQuarrels_55 : decode cX4_endsQuarrels 55 = .ok (.getfield 23, 3) := by decide +kernel
theorem dX4_endsQuarrels_58 : decode cX4_endsQuarrels 58 = .ok (.getfield 63, 3) := by decide +kernel
theorem dX4_endsQuarrels_61 : decode cX4_endsQuarrels 61 = .ok (.iload 5, 2) := by decide +kernel
theorem dX4_endsQuarrels_63 : decode cX4_endsQuarrels 63 = .ok (.iaload, 1) := by decide +kernel
theorem dX4_endsQuarrels_64 : decode cX4_endsQuarrels 64 = .ok (.ifCond .ne 31, 3) := by decide +kernel
theorem dX4_endsQuarrels_67 : decode cX4_endsQuarrels 67 = .ok (.aload_n 0, 1) := by decide +kernel
theorem dX4_endsQuarrels_68 : decode cX4_endsQuarrels 68 = .ok (.getfield 9, 3) := by decide +kernel
theorem dX4_endsQuarrels_71 : decode cX4_endsQuarrels 71 = .ok (.aload_n 0, 1) := by decide +kernel
theorem dX4_endsQuarrels_72 : decode cX4_endsQuarrels 72 = .ok (.getfield 23, 3) := by decide +kernel
theorem dX4_endsQuarrels_75 : decode cX4_endsQuarrels 75 = .ok (.getfield 66, 3) := by decide +kernel
theorem dX4_endsQuarrels_78 : decode cX4_endsQuarrels 78 = .ok (.iload 5, 2) := by decide +kernel
theorem dX4_endsQuarrels_80 : decode cX4_endsQuarrels 80 = .ok (.iaload, 1) := by decide +kernel
theorem dX4_endsQuarrels_81 : decode cX4_endsQuarrels 81 = .ok (.aload_n 0, 1) := by decide +kernel
theorem dX4_endsQuarrels_82 : decode cX4_endsQuarrels 82 = .ok (.getfield 23, 3) := by decide +kernel
theorem dX4_endsQuarrels_85 : decode cX4_endsQuarrels 85 = .ok (.getfield 69, 3) := by decide +kernel
theorem dX4_endsQuarrels_88 : decode cX4_endsQuarrels 88 = .ok (.iload 5, 2) := by decide +kernel
theorem dX4_endsQuarrels_90 : decode cX4_endsQuarrels 90 = .ok (.iaload, 1) := by decide +kernel
theorem dX4_endsQuarrels_91 : decode cX4_endsQuarrels 91 = .ok (.iastore, 1) := by decide +kernel
theorem dX4_endsQuarrels_92 : decode cX4_endsQuarrels 92 = .ok (.goto 22, 3) := by decide +kernel
theorem dX4_endsQuarrels_95 : decode cX4_endsQuarrels 95 = .ok (.lload_n 3, 1) := by decide +kernel
theorem dX4_endsQuarrels_96 : decode cX4_endsQuarrels 96 = .ok (.lconst 1, 1) := by decide +kernel
theorem dX4_endsQuarrels_97 : decode cX4_endsQuarrels 97 = .ok (.aload_n 0, 1) := by decide +kernel
theorem dX4_endsQuarrels_98 : decode cX4_endsQuarrels 98 = .ok (.getfield 23, 3) := by decide +kernel
theorem dX4_endsQuarrels_101 : decode cX4_endsQuarrels 101 = .ok (.getfield 66, 3) := by decide +kernel
theorem dX4_endsQuarrels_104 : decode cX4_endsQuarrels 104 = .ok (.iload 5, 2) := by decide +kernel
theorem dX4_endsQuarrels_106 : decode cX4_endsQuarrels 106 = .ok (.iaload, 1) := by decide +kernel
theorem dX4_endsQuarrels_107 : decode cX4_endsQuarrels 107 = .ok (.lshl, 1) := by decide +kernel
theorem dX4_endsQuarrels_108 : decode cX4_endsQuarrels 108 = .ok (.ldc2_w 70, 3) := by decide +kernel
theorem dX4_endsQuarrels_111 : decode cX4_endsQuarrels 111 = .ok (.lxor, 1) := by decide +kernel
theorem dX4_endsQuarrels_112 : decode cX4_endsQuarrels 112 = .ok (.land, 1) := by decide +kernel
theorem dX4_endsQuarrels_113 : decode cX4_endsQuarrels 113 = .ok (.lstore_n 3, 1) := by decide +kernel
theorem dX4_endsQuarrels_114 : decode cX4_endsQuarrels 114 = .ok (.iinc 5 1, 3) := by decide +kernel
theorem dX4_endsQuarrels_117 : decode cX4_endsQuarrels 117 = .ok (.goto (-88), 3) := by decide +kernel
theorem dX4_endsQuarrels_120 : decode cX4_endsQuarrels 120 = .ok (.aload_n 0, 1) := by decide +kernel
theorem dX4_endsQuarrels_121 : decode cX4_endsQuarrels 121 = .ok (.getfield 27, 3) := by decide +kernel
theorem dX4_endsQuarrels_124 : decode cX4_endsQuarrels 124 = .ok (.iload_n 1, 1) := by decide +kernel
theorem dX4_endsQuarrels_125 : decode cX4_endsQuarrels 125 = .ok (.aload_n 0, 1) := by decide +kernel
theorem dX4_endsQuarrels_126 : decode cX4_endsQuarrels 126 = .ok (.getfield 9, 3) := by decide +kernel
theorem dX4_endsQuarrels_129 : decode cX4_endsQuarrels 129 = .ok (.lload_n 3, 1) := by decide +kernel
theorem dX4_endsQuarrels_130 : decode cX4_endsQuarrels 130 = .ok (.invokevirtual 72, 3) := by decide +kernel
theorem dX4_endsQuarrels_133 : decode cX4_endsQuarrels 133 = .ok (.aload_n 0, 1) := by decide +kernel
theorem dX4_endsQuarrels_134 : decode cX4_endsQuarrels 134 = .ok (.getfield 27, 3) := by decide +kernel
theorem dX4_endsQuarrels_137 : decode cX4_endsQuarrels 137 = .ok (.aload_n 0, 1) := by decide +kernel
theorem dX4_endsQuarrels_138 : decode cX4_endsQuarrels 138 = .ok (.getfield 9, 3) := by decide +kernel
theorem dX4_endsQuarrels_141 : decode cX4_endsQuarrels 141 = .ok (.lload_n 3, 1) := by decide +kernel
theorem dX4_endsQuarrels_142 : decode cX4_endsQuarrels 142 = .ok (.invokevirtual 78, 3) := by decide +kernel
theorem dX4_endsQuarrels_145 : decode cX4_endsQuarrels 145 = .ok (.ifCond .ne 7, 3) := by decide +kernel
theorem dX4_endsQuarrels_148 : decode cX4_endsQuarrels 148 = .ok (.iconst 1, 1) := by decide +kernel
theorem dX4_endsQuarrels_149 : decode cX4_endsQuarrels 149 = .ok (.goto 4, 3) := by decide +kernel
theorem dX4_endsQuarrels_152 : decode cX4_endsQuarrels 152 = .ok (.iconst 0, 1) := by decide +kernel
theorem dX4_endsQuarrels_153 : decode cX4_endsQuarrels 153 = .ok (.ireturn, 1) := by decide +kernel
theorem dX5_init_0 : decode cX5_init 0 = .ok (.aload_n 0, 1) := by decide +kernel
theorem dX5_init_1 : decode cX5_init 1 = .ok (.invokespecial 3, 3) := by decide +kernel
theorem dX5_init_4 : decode cX5_init 4 = .ok (.aload_n 0, 1) := by decide +kernel
theorem dX5_init_5 : decode cX5_init 5 = .ok (.bipush 72, 2) := by decide +kernel
theorem dX5_init_7 : decode cX5_init 7 = .ok (.newarray .int, 2) := by decide +kernel
theorem dX5_init_9 : decode cX5_init 9 = .ok (.putfield 9, 3) := by decide +kernel
theorem dX5_init_12 : decode cX5_init 12 = .ok (.aload_n 0, 1) := by decide +kernel
theorem dX5_init_13 : decode cX5_init 13 = .ok (.bipush 24, 2) := by decide +kernel
theorem dX5_init_15 : decode cX5_init 15 = .ok (.newarray .int, 2) := by decide +kernel
theorem dX5_init_17 : decode cX5_init 17 = .ok (.putfield 15, 3) := by decide +kernel
theorem dX5_init_20 : decode cX5_init 20 = .ok (.aload_n 0, 1) := by decide +kernel
theorem dX5_init_21 : decode cX5_init 21 = .ok (.bipush 24, 2) := by decide +kernel
theorem dX5_init_23 : decode cX5_init 23 = .ok (.newarray .int, 2) := by decide +kernel
theorem dX5_init_25 : decode cX5_init 25 = .ok (.putfield 18, 3) := by decide +kernel
theorem dX5_init_28 : decode cX5_init 28 = .ok (.aload_n 0, 1) := by decide +kernel
theorem dX5_init_29 : decode cX5_init 29 = .ok (.bipush 24, 2) := by decide +kernel
theorem dX5_init_31 : decode cX5_init 31 = .ok (.newarray .long, 2) := by decide +kernel
theorem dX5_init_33 : decode cX5_init 33 = .ok (.putfield 21, 3) := by decide +kernel
theorem dX5_init_36 : decode cX5_init 36 = .ok (.return_, 1) := by decide +kernel
set_option maxRecDepth 20000 in
theorem ggX5_has_X8_within : GoodIn wsX5_has wsX8_within := goodIn_r _ [4] (by decide +kernel) (by decide +kernel)
set_option maxRecDepth 20000 in
theorem gX5_has_X8_within_n29 : GoodIn wsX5_has (wsX8_within) := ggX5_has_X8_within
theorem dX5_has_0 : decode cX5_has 0 = .ok (.iload_n 1, 1) := by decide +kernel
theorem dX5_has_1 : decode cX5_has 1 = .ok (.aload_n 0, 1) := by decide +kernel
theorem dX5_has_2 : decode cX5_has 2 = .ok (.getfield 25, 3) := by decide +kernel
theorem dX5_has_5 : decode cX5_has 5 = .ok (.invokestatic 29, 3) := by decide +kernel
theorem dX5_has_8 : decode cX5_has 8 = .ok (.ireturn, 1) := by decide +kernel
theorem dX5_choiceOf_0 : decode cX5_choiceOf 0 = .ok (.aload_n 0, 1) := by decide +kernel
theorem dX5_choiceOf_1 : decode cX5_choiceOf 1 = .ok (.getfield 9, 3) := by decide +kernel
theorem dX5_choiceOf_4 : decode cX5_choiceOf 4 = .ok (.iload_n 1, 1) := by decide +kernel
theorem dX5_choiceOf_5 : decode cX5_choiceOf 5 = .ok (.iconst 3, 1) := by decide +kernel
theorem dX5_choiceOf_6 : decode cX5_choiceOf 6 = .ok (.imul, 1) := by decide +kernel
theorem dX5_choiceOf_7 : decode cX5_choiceOf 7 = .ok (.iload_n 2, 1) := by decide +kernel
theorem dX5_choiceOf_8 : decode cX5_choiceOf 8 = .ok (.iadd, 1) := by decide +kernel
theorem dX5_choiceOf_9 : decode cX5_choiceOf 9 = .ok (.iaload, 1) := by decide +kernel
theorem dX5_choiceOf_10 : decode cX5_choiceOf 10 = .ok (.ireturn, 1) := by decide +kernel
theorem dX5_add_0 : decode cX5_add 0 = .ok (.aload_n 0, 1) := by decide +kernel
theorem dX5_add_1 : decode cX5_add 1 = .ok (.getfield 25, 3) := by decide +kernel
theorem dX5_add_4 : decode cX5_add 4 = .ok (.istore 4, 2) := by decide +kernel
theorem dX5_add_6 : decode cX5_add 6 = .ok (.aload_n 0, 1) := by decide +kernel
theorem dX5_add_7 : decode cX5_add 7 = .ok (.dup, 1) := by decide +kernel
theorem dX5_add_8 : decode cX5_add 8 = .ok (.getfield 25, 3) := by decide +kernel
theorem dX5_add_11 : decode cX5_add 11 = .ok (.iconst 1, 1) := by decide +kernel
theorem dX5_add_12 : decode cX5_add 12 = .ok (.iadd, 1) := by decide +kernel
theorem dX5_add_13 : decode cX5_add 13 = .ok (.putfield 25, 3) := by decide +kernel
theorem dX5_add_16 : decode cX5_add 16 = .ok (.aload_n 0, 1) := by decide +kernel
theorem dX5_add_17 : decode cX5_add 17 = .ok (.getfield 9, 3) := by decide +kernel
theorem dX5_add_20 : decode cX5_add 20 = .ok (.iload 4, 2) := by decide +kernel
theorem dX5_add_22 : decode cX5_add 22 = .ok (.iconst 3, 1) := by decide +kernel
theorem dX5_add_23 : decode cX5_add 23 = .ok (.imul, 1) := by decide +kernel
theorem dX5_add_24 : decode cX5_add 24 = .ok (.iload_n 1, 1) := by decide +kernel
theorem dX5_add_25 : decode cX5_add 25 = .ok (.iastore, 1) := by decide +kernel
theorem dX5_add_26 : decode cX5_add 26 = .ok (.aload_n 0, 1) := by decide +kernel
theorem dX5_add_27 : decode cX5_add 27 = .ok (.getfield 9, 3) := by decide +kernel
theorem dX5_add_30 : decode cX5_add 30 = .ok (.iload 4, 2) := by decide +kernel
theorem dX5_add_32 : decode cX5_add 32 = .ok (.iconst 3, 1) := by decide +kernel
theorem dX5_add_33 : decode cX5_add 33 = .ok (.imul, 1) := by decide +kernel
theorem dX5_add_34 : decode cX5_add 34 = .ok (.iconst 1, 1) := by decide +kernel
theorem dX5_add_35 : decode cX5_add 35 = .ok (.iadd, 1) := by decide +kernel
theorem dX5_add_36 : decode cX5_add 36 = .ok (.iload_n 2, 1) := by decide +kernel
theorem dX5_add_37 : decode cX5_add 37 = .ok (.iastore, 1) := by decide +kernel
theorem dX5_add_38 : decode cX5_add 38 = .ok (.aload_n 0, 1) := by decide +kernel
theorem dX5_add_39 : decode cX5_add 39 = .ok (.getfield 9, 3) := by decide +kernel
theorem dX5_add_42 : decode cX5_add 42 = .ok (.iload 4, 2) := by decide +kernel
theorem dX5_add_44 : decode cX5_add 44 = .ok (.iconst 3, 1) := by decide +kernel
theorem dX5_add_45 : decode cX5_add 45 = .ok (.imul, 1) := by decide +kernel
theorem dX5_add_46 : decode cX5_add 46 = .ok (.iconst 2, 1) := by decide +kernel
theorem dX5_add_47 : decode cX5_add 47 = .ok (.iadd, 1) := by decide +kernel
theorem dX5_add_48 : decode cX5_add 48 = .ok (.iload_n 3, 1) := by decide +kernel
theorem dX5_add_49 : decode cX5_add 49 = .ok (.iastore, 1) := by decide +kernel
theorem dX5_add_50 : decode cX5_add 50 = .ok (.aload_n 0, 1) := by decide +kernel
theorem dX5_add_51 : decode cX5_add 51 = .ok (.getfield 15, 3) := by decide +kernel
theorem dX5_add_54 : decode cX5_add 54 = .ok (.iload 4, 2) := by decide +kernel
theorem dX5_add_56 : decode cX5_add 56 = .ok (.iload_n 2, 1) := by decide +kernel
theorem dX5_add_57 : decode cX5_add 57 = .ok (.iconst (-1), 1) := by decide +kernel
theorem dX5_add_58 : decode cX5_add 58 = .ok (.if_icmp .ne 7, 3) := by decide +kernel
theorem dX5_add_61 : decode cX5_add 61 = .ok (.iconst 1, 1) := by decide +kernel
theorem dX5_add_62 : decode cX5_add 62 = .ok (.goto 13, 3) := by decide +kernel
theorem dX5_add_65 : decode cX5_add 65 = .ok (.iload_n 3, 1) := by decide +kernel
theorem dX5_add_66 : decode cX5_add 66 = .ok (.iconst (-1), 1) := by decide +kernel
theorem dX5_add_67 : decode cX5_add 67 = .ok (.if_icmp .ne 7, 3) := by decide +kernel
theorem dX5_add_70 : decode cX5_add 70 = .ok (.iconst 2, 1) := by decide +kernel
theorem dX5_add_71 : decode cX5_add 71 = .ok (.goto 4, 3) := by decide +kernel
theorem dX5_add_74 : decode cX5_add 74 = .ok (.iconst 3, 1) := by decide +kernel
theorem dX5_add_75 : decode cX5_add 75 = .ok (.iastore, 1) := by decide +kernel
theorem dX5_add_76 : decode cX5_add 76 = .ok (.aload_n 0, 1) := by decide +kernel
theorem dX5_add_77 : decode cX5_add 77 = .ok (.getfield 18, 3) := by decide +kernel
theorem dX5_add_80 : decode cX5_add 80 = .ok (.iload 4, 2) := by decide +kernel
theorem dX5_add_82 : decode cX5_add 82 = .ok (.iload_n 1, 1) := by decide +kernel
theorem dX5_add_83 : decode cX5_add 83 = .ok (.iastore, 1) := by decide +kernel
theorem dX5_add_84 : decode cX5_add 84 = .ok (.iload 4, 2) := by decide +kernel
theorem dX5_add_86 : decode cX5_add 86 = .ok (.ireturn, 1) := by decide +kernel
theorem dX6_init_0 : decode cX6_init 0 = .ok (.aload_n 0, 1) := by decide +kernel
theorem dX6_init_1 : decode cX6_init 1 = .ok (.invokespecial 3, 3) := by decide +kernel
theorem dX6_init_4 : decode cX6_init 4 = .ok (.aload_n 0, 1) := by decide +kernel
theorem dX6_init_5 : decode cX6_init 5 = .ok (.iconst 4, 1) := by decide +kernel
theorem dX6_init_6 : decode cX6_init 6 = .ok (.newarray .long, 2) := by decide +kernel
theorem dX6_init_8 : decode cX6_init 8 = .ok (.putfield 9, 3) := by decide +kernel
theorem dX6_init_11 : decode cX6_init 11 = .ok (.aload_n 0, 1) := by decide +kernel
theorem dX6_init_12 : decode cX6_init 12 = .ok (.iconst 4, 1) := by decide +kernel
theorem dX6_init_13 : decode cX6_init 13 = .ok (.newarray .long, 2) := by decide +kernel
theorem dX6_init_15 : decode cX6_init 15 = .ok (.putfield 15, 3) := by decide +kernel
theorem dX6_init_18 : decode cX6_init 18 = .ok (.aload_n 0, 1) := by decide +kernel
theorem dX6_init_19 : decode cX6_init 19 = .ok (.bipush 8, 2) := by decide +kernel
theorem dX6_init_21 : decode cX6_init 21 = .ok (.newarray .long, 2) := by decide +kernel
theorem dX6_init_23 : decode cX6_init 23 = .ok (.putfield 18, 3) := by decide +kernel
theorem dX6_init_26 : decode cX6_init 26 = .ok (.return_, 1) := by decide +kernel
set_option maxRecDepth 20000 in
theorem ggX6_tellAsk_X6_spread : GoodIn wsX6_tellAsk wsX6_spread := goodIn_r _ [6, 7, 8, 9, 10] (by decide +kernel) (by decide +kernel)
set_option maxRecDepth 20000 in
theorem gX6_tellAsk_X6_spread : GoodIn wsX6_tellAsk (va_wsS RX6 21 yX6_spread wsX6_spread) := goodIn_app (goodIn_of _ (by decide +kernel)) ggX6_tellAsk_X6_spread
theorem dX6_tellAsk_0 : decode cX6_tellAsk 0 = .ok (.aload_n 0, 1) := by decide +kernel
theorem dX6_tellAsk_1 : decode cX6_tellAsk 1 = .ok (.getfield 9, 3) := by decide +kernel
theorem dX6_tellAsk_4 : decode cX6_tellAsk 4 = .ok (.iload_n 1, 1) := by decide +kernel
theorem dX6_tellAsk_5 : decode cX6_tellAsk 5 = .ok (.iload_n 2, 1) := by decide +kernel
theorem dX6_tellAsk_6 : decode cX6_tellAsk 6 = .ok (.invokestatic 21, 3) := by decide +kernel
theorem dX6_tellAsk_9 : decode cX6_tellAsk 9 = .ok (.aload_n 0, 1) := by decide +kernel
theorem dX6_tellAsk_10 : decode cX6_tellAsk 10 = .ok (.getfield 15, 3) := by decide +kernel
theorem dX6_tellAsk_13 : decode cX6_tellAsk 13 = .ok (.iload_n 1, 1) := by decide +kernel
theorem dX6_tellAsk_14 : decode cX6_tellAsk 14 = .ok (.iload_n 3, 1) := by decide +kernel
theorem dX6_tellAsk_15 : decode cX6_tellAsk 15 = .ok (.invokestatic 21, 3) := by decide +kernel
theorem dX6_tellAsk_18 : decode cX6_tellAsk 18 = .ok (.return_, 1) := by decide +kernel
set_option maxRecDepth 20000 in
theorem ggX6_spread_X8_holds : GoodIn wsX6_spread wsX8_holds := goodIn_r _ [4] (by decide +kernel) (by decide +kernel)
set_option maxRecDepth 20000 in
theorem gX6_spread_X8_holds_n27 : GoodIn wsX6_spread (wsX8_holds) := ggX6_spread_X8_holds
theorem dX6_spread_0 : decode cX6_spread 0 = .ok (.iconst 0, 1) := by decide +kernel
theorem dX6_spread_1 : decode cX6_spread 1 = .ok (.istore_n 3, 1) := by decide +kernel
theorem dX6_spread_2 : decode cX6_spread 2 = .ok (.iload_n 3, 1) := by decide +kernel
theorem dX6_spread_3 : decode cX6_spread 3 = .ok (.aload_n 0, 1) := by decide +kernel
theorem dX6_spread_4 : decode cX6_spread 4 = .ok (.arraylength, 1) := by decide +kernel
theorem dX6_spread_5 : decode cX6_spread 5 = .ok (.if_icmp .ge 45, 3) := by decide +kernel
theorem dX6_spread_8 : decode cX6_spread 8 = .ok (.aload_n 0, 1) := by decide +kernel
theorem dX6_spread_9 : decode cX6_spread 9 = .ok (.iload_n 3, 1) := by decide +kernel
theorem dX6_spread_10 : decode cX6_spread 10 = .ok (.laload, 1) := by decide +kernel
theorem dX6_spread_11 : decode cX6_spread 11 = .ok (.lconst 1, 1) := by decide +kernel
theorem dX6_spread_12 : decode cX6_spread 12 = .ok (.iload_n 1, 1) := by decide +kernel
theorem dX6_spread_13 : decode cX6_spread 13 = .ok (.lshl, 1) := by decide +kernel
theorem dX6_spread_14 : decode cX6_spread 14 = .ok (.ldc2_w 25, 3) := by decide +kernel
theorem dX6_spread_17 : decode cX6_spread 17 = .ok (.lxor, 1) := by decide +kernel
theorem dX6_spread_18 : decode cX6_spread 18 = .ok (.land, 1) := by decide +kernel
theorem dX6_spread_19 : decode cX6_spread 19 = .ok (.lstore 4, 2) := by decide +kernel
theorem dX6_spread_21 : decode cX6_spread 21 = .ok (.aload_n 0, 1) := by decide +kernel
theorem dX6_spread_22 : decode cX6_spread 22 = .ok (.iload_n 3, 1) := by decide +kernel
theorem dX6_spread_23 : decode cX6_spread 23 = .ok (.iload_n 2, 1) := by decide +kernel
theorem dX6_spread_24 : decode cX6_spread 24 = .ok (.i2l, 1) := by decide +kernel
theorem dX6_spread_25 : decode cX6_spread 25 = .ok (.iload_n 3, 1) := by decide +kernel
theorem dX6_spread_26 : decode cX6_spread 26 = .ok (.invokestatic 27, 3) := by decide +kernel
theorem dX6_spread_29 : decode cX6_spread 29 = .ok (.ifCond .eq 12, 3) := by decide +kernel
theorem dX6_spread_32 : decode cX6_spread 32 = .ok (.lload 4, 2) := by decide +kernel
theorem dX6_spread_34 : decode cX6_spread 34 = .ok (.lconst 1, 1) := by decide +kernel
theorem dX6_spread_35 : decode cX6_spread 35 = .ok (.iload_n 1, 1) := by decide +kernel
theorem dX6_spread_36 : decode cX6_spread 36 = .ok (.lshl, 1) := by decide +kernel
theorem dX6_spread_37 : decode cX6_spread 37 = .ok (.lor, 1) := by decide +kernel
theorem dX6_spread_38 : decode cX6_spread 38 = .ok (.goto 5, 3) := by decide +kernel
theorem dX6_spread_41 : decode cX6_spread 41 = .ok (.lload 4, 2) := by decide +kernel
theorem dX6_spread_43 : decode cX6_spread 43 = .ok (.lastore, 1) := by decide +kernel
theorem dX6_spread_44 : decode cX6_spread 44 = .ok (.iinc 3 1, 3) := by decide +kernel
theorem dX6_spread_47 : decode cX6_spread 47 = .ok (.goto (-45), 3) := by decide +kernel
theorem dX6_spread_50 : decode cX6_spread 50 = .ok (.return_, 1) := by decide +kernel
set_option maxRecDepth 20000 in
theorem ggX6_tellBars_X8_pairOf : GoodIn wsX6_tellBars wsX8_pairOf := goodIn_r _ [4] (by decide +kernel) (by decide +kernel)
set_option maxRecDepth 20000 in
theorem gX6_tellBars_X8_pairOf_n31 : GoodIn wsX6_tellBars (wsX8_pairOf) := ggX6_tellBars_X8_pairOf
theorem dX6_tellBars_0 : decode cX6_tellBars 0 = .ok (.lconst 0, 1) := by decide +kernel
theorem dX6_tellBars_1 : decode cX6_tellBars 1 = .ok (.lstore_n 3, 1) := by decide +kernel
theorem dX6_tellBars_2 : decode cX6_tellBars 2 = .ok (.iconst 0, 1) := by decide +kernel
theorem dX6_tellBars_3 : decode cX6_tellBars 3 = .ok (.istore 5, 2) := by decide +kernel
theorem dX6_tellBars_5 : decode cX6_tellBars 5 = .ok (.iload 5, 2) := by decide +kernel
theorem dX6_tellBars_7 : decode cX6_tellBars 7 = .ok (.bipush 8, 2) := by decide +kernel
theorem dX6_tellBars_9 : decode cX6_tellBars 9 = .ok (.if_icmp .ge 27, 3) := by decide +kernel
theorem dX6_tellBars_12 : decode cX6_tellBars 12 = .ok (.iload 5, 2) := by decide +kernel
theorem dX6_tellBars_14 : decode cX6_tellBars 14 = .ok (.iload_n 1, 1) := by decide +kernel
theorem dX6_tellBars_15 : decode cX6_tellBars 15 = .ok (.if_icmp .eq 15, 3) := by decide +kernel
theorem dX6_tellBars_18 : decode cX6_tellBars 18 = .ok (.lload_n 3, 1) := by decide +kernel
theorem dX6_tellBars_19 : decode cX6_tellBars 19 = .ok (.iload_n 2, 1) := by decide +kernel
theorem dX6_tellBars_20 : decode cX6_tellBars 20 = .ok (.i2l, 1) := by decide +kernel
theorem dX6_tellBars_21 : decode cX6_tellBars 21 = .ok (.iload 5, 2) := by decide +kernel
theorem dX6_tellBars_23 : decode cX6_tellBars 23 = .ok (.iconst 0, 1) := by decide +kernel
theorem dX6_tellBars_24 : decode cX6_tellBars 24 = .ok (.invokestatic 31, 3) := by decide +kernel
theorem dX6_tellBars_27 : decode cX6_tellBars 27 = .ok (.lshl, 1) := by decide +kernel
theorem dX6_tellBars_28 : decode cX6_tellBars 28 = .ok (.lor, 1) := by decide +kernel
theorem dX6_tellBars_29 : decode cX6_tellBars 29 = .ok (.lstore_n 3, 1) := by decide +kernel
theorem dX6_tellBars_30 : decode cX6_tellBars 30 = .ok (.iinc 5 1, 3) := by decide +kernel
theorem dX6_tellBars_33 : decode cX6_tellBars 33 = .ok (.goto (-28), 3) := by decide +kernel
theorem dX6_tellBars_36 : decode cX6_tellBars 36 = .ok (.aload_n 0, 1) := by decide +kernel
theorem dX6_tellBars_37 : decode cX6_tellBars 37 = .ok (.getfield 18, 3) := by decide +kernel
theorem dX6_tellBars_40 : decode cX6_tellBars 40 = .ok (.iload_n 1, 1) := by decide +kernel
theorem dX6_tellBars_41 : decode cX6_tellBars 41 = .ok (.lload_n 3, 1) := by decide +kernel
theorem dX6_tellBars_42 : decode cX6_tellBars 42 = .ok (.lastore, 1) := by decide +kernel
theorem dX6_tellBars_43 : decode cX6_tellBars 43 = .ok (.return_, 1) := by decide +kernel
theorem dX7_init_0 : decode cX7_init 0 = .ok (.aload_n 0, 1) := by decide +kernel
theorem dX7_init_1 : decode cX7_init 1 = .ok (.invokespecial 3, 3) := by decide +kernel
theorem dX7_init_4 : decode cX7_init 4 = .ok (.aload_n 0, 1) := by decide +kernel
theorem dX7_init_5 : decode cX7_init 5 = .ok (.bipush 24, 2) := by decide +kernel
theorem dX7_init_7 : decode cX7_init 7 = .ok (.newarray .int, 2) := by decide +kernel
theorem dX7_init_9 : decode cX7_init 9 = .ok (.putfield 9, 3) := by decide +kernel
theorem dX7_init_12 : decode cX7_init 12 = .ok (.aload_n 0, 1) := by decide +kernel
theorem dX7_init_13 : decode cX7_init 13 = .ok (.aload_n 1, 1) := by decide +kernel
theorem dX7_init_14 : decode cX7_init 14 = .ok (.putfield 15, 3) := by decide +kernel
theorem dX7_init_17 : decode cX7_init 17 = .ok (.aload_n 0, 1) := by decide +kernel
theorem dX7_init_18 : decode cX7_init 18 = .ok (.aload_n 2, 1) := by decide +kernel
theorem dX7_init_19 : decode cX7_init 19 = .ok (.putfield 19, 3) := by decide +kernel
theorem dX7_init_22 : decode cX7_init 22 = .ok (.aload_n 0, 1) := by decide +kernel
theorem dX7_init_23 : decode cX7_init 23 = .ok (.aload_n 3, 1) := by decide +kernel
theorem dX7_init_24 : decode cX7_init 24 = .ok (.putfield 23, 3) := by decide +kernel
theorem dX7_init_27 : decode cX7_init 27 = .ok (.aload_n 0, 1) := by decide +kernel
theorem dX7_init_28 : decode cX7_init 28 = .ok (.aload 4, 2) := by decide +kernel
theorem dX7_init_30 : decode cX7_init 30 = .ok (.putfield 27, 3) := by decide +kernel
theorem dX7_init_33 : decode cX7_init 33 = .ok (.return_, 1) := by decide +kernel
set_option maxRecDepth 20000 in
theorem ggX7_partOnWay_X7_measure : GoodIn wsX7_partOnWay wsX7_measure := goodIn_r _ [6, 1, 7, 8, 9, 10, 5, 11, 12, 13, 14, 15, 16, 17, 18, 19, 57, 58, 59, 60, 61, 62, 63, 64, 65, 66, 67, 68, 69, 70, 71, 72, 73] (by decide +kernel) (by decide +kernel)
set_option maxRecDepth 20000 in
theorem gX7_partOnWay_X7_measure : GoodIn wsX7_partOnWay (wsV RX7 31 RX7 yX7_measure wsX7_measure) := goodIn_app (goodIn_of _ (by decide +kernel)) ggX7_partOnWay_X7_measure
set_option maxRecDepth 20000 in
theorem ggX7_partOnWay_X7_source : GoodIn wsX7_partOnWay wsX7_source := goodIn_r _ [23, 24, 1, 25, 26, 27, 5, 28, 29, 30, 31, 32, 33, 34, 35, 36, 37, 38, 18, 39, 40, 41, 42, 43, 17, 19, 57, 58, 59, 60, 61, 74, 75, 76, 77, 78, 79, 80, 81, 82, 83, 84, 71, 72, 73] (by decide +kernel) (by decide +kernel)
set_option maxRecDepth 20000 in
theorem gX7_partOnWay_X7_source : GoodIn wsX7_partOnWay (wsV RX7 35 RX7 yX7_source wsX7_source) := goodIn_app (goodIn_of _ (by decide +kernel)) ggX7_partOnWay_X7_source
set_option maxRecDepth 20000 in
theorem ggX7_partOnWay_X7_next : GoodIn wsX7_partOnWay wsX7_next := goodIn_r _ [47, 7, 1, 48, 49, 50, 51, 52, 53, 54, 55, 18, 56, 17, 19, 12, 13, 14, 5, 15, 16, 57, 58, 59, 60, 61, 62, 63, 64, 65, 66, 67, 68, 69, 70, 71, 72, 73] (by decide +kernel) (by decide +kernel)
set_option maxRecDepth 20000 in
theorem gX7_partOnWay_X7_next : GoodIn wsX7_partOnWay (wsV RX7 39 RX7 yX7_next wsX7_next) := goodIn_app (goodIn_of _ (by decide +kernel)) ggX7_partOnWay_X7_next
theorem dX7_partOnWay_0 : decode cX7_partOnWay 0 = .ok (.aload_n 0, 1) := by decide +kernel
theorem dX7_partOnWay_1 : decode cX7_partOnWay 1 = .ok (.iload_n 2, 1) := by decide +kernel
theorem dX7_partOnWay_2 : decode cX7_partOnWay 2 = .ok (.iload_n 3, 1) := by decide +kernel
theorem dX7_partOnWay_3 : decode cX7_partOnWay 3 = .ok (.invokevirtual 31, 3) := by decide +kernel
theorem dX7_partOnWay_6 : decode cX7_partOnWay 6 = .ok (.aload_n 0, 1) := by decide +kernel
theorem dX7_partOnWay_7 : decode cX7_partOnWay 7 = .ok (.iload_n 1, 1) := by decide +kernel
theorem dX7_partOnWay_8 : decode cX7_partOnWay 8 = .ok (.iload_n 2, 1) := by decide +kernel
theorem dX7_partOnWay_9 : decode cX7_partOnWay 9 = .ok (.invokevirtual 35, 3) := by decide +kernel
theorem dX7_partOnWay_12 : decode cX7_partOnWay 12 = .ok (.istore 5, 2) := by decide +kernel
theorem dX7_partOnWay_14 : decode cX7_partOnWay 14 = .ok (.iload 5, 2) := by decide +kernel
theorem dX7_partOnWay_16 : decode cX7_partOnWay 16 = .ok (.iconst (-1), 1) := by decide +kernel
theorem dX7_partOnWay_17 : decode cX7_partOnWay 17 = .ok (.if_icmp .eq 20, 3) := by decide +kernel
theorem dX7_partOnWay_20 : decode cX7_partOnWay 20 = .ok (.iload 4, 2) := by decide +kernel
theorem dX7_partOnWay_22 : decode cX7_partOnWay 22 = .ok (.ifCond .lt 15, 3) := by decide +kernel
theorem dX7_partOnWay_25 : decode cX7_partOnWay 25 = .ok (.iload 4, 2) := by decide +kernel
theorem dX7_partOnWay_27 : decode cX7_partOnWay 27 = .ok (.aload_n 0, 1) := by decide +kernel
theorem dX7_partOnWay_28 : decode cX7_partOnWay 28 = .ok (.getfield 9, 3) := by decide +kernel
theorem dX7_partOnWay_31 : decode cX7_partOnWay 31 = .ok (.iload 5, 2) := by decide +kernel
theorem dX7_partOnWay_33 : decode cX7_partOnWay 33 = .ok (.iaload, 1) := by decide +kernel
theorem dX7_partOnWay_34 : decode cX7_partOnWay 34 = .ok (.if_icmp .le 5, 3) := by decide +kernel
theorem dX7_partOnWay_37 : decode cX7_partOnWay 37 = .ok (.iconst (-1), 1) := by decide +kernel
theorem dX7_partOnWay_38 : decode cX7_partOnWay 38 = .ok (.ireturn, 1) := by decide +kernel
theorem dX7_partOnWay_39 : decode cX7_partOnWay 39 = .ok (.iconst 0, 1) := by decide +kernel
theorem dX7_partOnWay_40 : decode cX7_partOnWay 40 = .ok (.istore 6, 2) := by decide +kernel
theorem dX7_partOnWay_42 : decode cX7_partOnWay 42 = .ok (.iload 6, 2) := by decide +kernel
theorem dX7_partOnWay_44 : decode cX7_partOnWay 44 = .ok (.iload 4, 2) := by decide +kernel
theorem dX7_partOnWay_46 : decode cX7_partOnWay 46 = .ok (.if_icmp .ge 24, 3) := by decide +kernel
theorem dX7_partOnWay_49 : decode cX7_partOnWay 49 = .ok (.iload 5, 2) := by decide +kernel
theorem dX7_partOnWay_51 : decode cX7_partOnWay 51 = .ok (.iconst (-1), 1) := by decide +kernel
theorem dX7_partOnWay_52 : decode cX7_partOnWay 52 = .ok (.if_icmp .eq 18, 3) := by decide +kernel
theorem dX7_partOnWay_55 : decode cX7_partOnWay 55 = .ok (.aload_n 0, 1) := by decide +kernel
theorem dX7_partOnWay_56 : decode cX7_partOnWay 56 = .ok (.iload_n 2, 1) := by decide +kernel
theorem dX7_partOnWay_57 : decode cX7_partOnWay 57 = .ok (.iload 5, 2) := by decide +kernel
theorem dX7_partOnWay_59 : decode cX7_partOnWay 59 = .ok (.invokevirtual 39, 3) := by decide +kernel
theorem dX7_partOnWay_62 : decode cX7_partOnWay 62 = .ok (.istore 5, 2) := by decide +kernel
theorem dX7_partOnWay_64 : decode cX7_partOnWay 64 = .ok (.iinc 6 1, 3) := by decide +kernel
theorem dX7_partOnWay_67 : decode cX7_partOnWay 67 = .ok (.goto (-25), 3) := by decide +kernel
theorem dX7_partOnWay_70 : decode cX7_partOnWay 70 = .ok (.iload 5, 2) := by decide +kernel
theorem dX7_partOnWay_72 : decode cX7_partOnWay 72 = .ok (.ireturn, 1) := by decide +kernel
set_option maxRecDepth 20000 in
theorem ggX7_noticed_X8_pairOf : GoodIn wsX7_noticed wsX8_pairOf := goodIn_r _ [5] (by decide +kernel) (by decide +kernel)
set_option maxRecDepth 20000 in
theorem gX7_noticed_X8_pairOf_n42 : GoodIn wsX7_noticed (wsX8_pairOf) := ggX7_noticed_X8_pairOf
set_option maxRecDepth 20000 in
theorem ggX7_noticed_X7_measure : GoodIn wsX7_noticed wsX7_measure := goodIn_r _ [10, 2, 11, 12, 13, 14, 9, 15, 16, 17, 18, 19, 20, 21, 4, 22, 40, 41, 42, 43, 44, 51, 52, 53, 54, 55, 56, 57, 58, 59, 60, 61, 62] (by decide +kernel) (by decide +kernel)
set_option maxRecDepth 20000 in
theorem gX7_noticed_X7_measure : GoodIn wsX7_noticed (wsV RX7 31 RX7 yX7_measure wsX7_measure) := goodIn_app (goodIn_of _ (by decide +kernel)) ggX7_noticed_X7_measure
set_option maxRecDepth 20000 in
theorem ggX7_noticed_X7_brings : GoodIn wsX7_noticed wsX7_brings := goodIn_r _ [26, 27, 1, 28, 29, 30, 31, 32, 33, 34, 35, 36, 4, 37, 38, 39, 3, 5, 21, 22, 40, 41, 42, 43, 44, 45, 46, 47, 48, 49, 50, 63, 64, 65, 66, 67, 60, 61, 62] (by decide +kernel) (by decide +kernel)
set_option maxRecDepth 20000 in
theorem gX7_noticed_X7_brings : GoodIn wsX7_noticed (wsV RX7 54 RX7 yX7_brings wsX7_brings) := goodIn_app (goodIn_of _ (by decide +kernel)) ggX7_noticed_X7_brings
theorem dX7_noticed_0 : decode cX7_noticed 0 = .ok (.iconst 0, 1) := by decide +kernel
theorem dX7_noticed_1 : decode cX7_noticed 1 = .ok (.istore_n 2, 1) := by decide +kernel
theorem dX7_noticed_2 : decode cX7_noticed 2 = .ok (.iconst 0, 1) := by decide +kernel
theorem dX7_noticed_3 : decode cX7_noticed 3 = .ok (.istore_n 3, 1) := by decide +kernel
theorem dX7_noticed_4 : decode cX7_noticed 4 = .ok (.iload_n 3, 1) := by decide +kernel
theorem dX7_noticed_5 : decode cX7_noticed 5 = .ok (.bipush 8, 2) := by decide +kernel
theorem dX7_noticed_7 : decode cX7_noticed 7 = .ok (.if_icmp .ge 80, 3) := by decide +kernel
theorem dX7_noticed_10 : decode cX7_noticed 10 = .ok (.iload_n 3, 1) := by decide +kernel
theorem dX7_noticed_11 : decode cX7_noticed 11 = .ok (.iconst 0, 1) := by decide +kernel
theorem dX7_noticed_12 : decode cX7_noticed 12 = .ok (.invokestatic 42, 3) := by decide +kernel
theorem dX7_noticed_15 : decode cX7_noticed 15 = .ok (.istore 4, 2) := by decide +kernel
theorem dX7_noticed_17 : decode cX7_noticed 17 = .ok (.aload_n 0, 1) := by decide +kernel
theorem dX7_noticed_18 : decode cX7_noticed 18 = .ok (.iload 4, 2) := by decide +kernel
theorem dX7_noticed_20 : decode cX7_noticed 20 = .ok (.aload_n 0, 1) := by decide +kernel
theorem dX7_noticed_21 : decode cX7_noticed 21 = .ok (.getfield 19, 3) := by decide +kernel
theorem dX7_noticed_24 : decode cX7_noticed 24 = .ok (.getfield 45, 3) := by decide +kernel
theorem dX7_noticed_27 : decode cX7_noticed 27 = .ok (.invokevirtual 31, 3) := by decide +kernel
theorem dX7_noticed_30 : decode cX7_noticed 30 = .ok (.iconst 0, 1) := by decide +kernel
theorem dX7_noticed_31 : decode cX7_noticed 31 = .ok (.istore 5, 2) := by decide +kernel
theorem dX7_noticed_33 : decode cX7_noticed 33 = .ok (.iload 5, 2) := by decide +kernel
theorem dX7_noticed_35 : decode cX7_noticed 35 = .ok (.aload_n 0, 1) := by decide +kernel
theorem dX7_noticed_36 : decode cX7_noticed 36 = .ok (.getfield 19, 3) := by decide +kernel
theorem dX7_noticed_39 : decode cX7_noticed 39 = .ok (.getfield 51, 3) := by decide +kernel
theorem dX7_noticed_42 : decode cX7_noticed 42 = .ok (.if_icmp .ge 39, 3) := by decide +kernel
theorem dX7_noticed_45 : decode cX7_noticed 45 = .ok (.aload_n 0, 1) := by decide +kernel
theorem dX7_noticed_46 : decode cX7_noticed 46 = .ok (.getfield 9, 3) := by decide +kernel
theorem dX7_noticed_49 : decode cX7_noticed 49 = .ok (.iload 5, 2) := by decide +kernel
theorem dX7_noticed_51 : decode cX7_noticed 51 = .ok (.iaload, 1) := by decide +kernel
theorem dX7_noticed_52 : decode cX7_noticed 52 = .ok (.iconst (-1), 1) := by decide +kernel
theorem dX7_noticed_53 : decode cX7_noticed 53 = .ok (.if_icmp .eq 22, 3) := by decide +kernel
theorem dX7_noticed_56 : decode cX7_noticed 56 = .ok (.aload_n 0, 1) := by decide +kernel
theorem dX7_noticed_57 : decode cX7_noticed 57 = .ok (.iload_n 1, 1) := by decide +kernel
theorem dX7_noticed_58 : decode cX7_noticed 58 = .ok (.iload 5, 2) := by decide +kernel
theorem dX7_noticed_60 : decode cX7_noticed 60 = .ok (.iload 4, 2) := by decide +kernel
theorem dX7_noticed_62 : decode cX7_noticed 62 = .ok (.invokevirtual 54, 3) := by decide +kernel
theorem dX7_noticed_65 : decode cX7_noticed 65 = .ok (.ifCond .eq 10, 3) := by decide +kernel
theorem dX7_noticed_68 : decode cX7_noticed 68 = .ok (.iload_n 2, 1) := by decide +kernel
theorem dX7_noticed_69 : decode cX7_noticed 69 = .ok (.iconst 1, 1) := by decide +kernel
theorem dX7_noticed_70 : decode cX7_noticed 70 = .ok (.iload 5, 2) := by decide +kernel
theorem dX7_noticed_72 : decode cX7_noticed 72 = .ok (.ishl, 1) := by decide +kernel
theorem dX7_noticed_73 : decode cX7_noticed 73 = .ok (.ior, 1) := by decide +kernel
theorem dX7_noticed_74 : decode cX7_noticed 74 = .ok (.istore_n 2, 1) := by decide +kernel
theorem dX7_noticed_75 : decode cX7_noticed 75 = .ok (.iinc 5 1, 3) := by decide +kernel
theorem dX7_noticed_78 : decode cX7_noticed 78 = .ok (.goto (-45), 3) := by decide +kernel
theorem dX7_noticed_81 : decode cX7_noticed 81 = .ok (.iinc 3 1, 3) := by decide +kernel
theorem dX7_noticed_84 : decode cX7_noticed 84 = .ok (.goto (-80), 3) := by decide +kernel
theorem dX7_noticed_87 : decode cX7_noticed 87 = .ok (.iload_n 2, 1) := by decide +kernel
theorem dX7_noticed_88 : decode cX7_noticed 88 = .ok (.ireturn, 1) := by decide +kernel
set_option maxRecDepth 20000 in
theorem ggX7_brings_X2_brought : GoodIn wsX7_brings wsX2_brought := goodIn_r _ [7, 8, 9, 10, 11, 12, 13, 14, 15, 16, 17, 31, 32, 33, 34, 35, 36, 37, 38, 25, 26, 27, 28, 29, 30] (by decide +kernel) (by decide +kernel)
set_option maxRecDepth 20000 in
theorem gX7_brings_X2_brought : GoodIn wsX7_brings (wsV RX7 61 RX2 yX2_brought wsX2_brought) := goodIn_app (goodIn_of _ (by decide +kernel)) ggX7_brings_X2_brought
set_option maxRecDepth 20000 in
theorem ggX7_brings_X8_holds : GoodIn wsX7_brings wsX8_holds := goodIn_r _ [19] (by decide +kernel) (by decide +kernel)
set_option maxRecDepth 20000 in
theorem gX7_brings_X8_holds_n67 : GoodIn wsX7_brings (wsX8_holds) := ggX7_brings_X8_holds
theorem dX7_brings_0 : decode cX7_brings 0 = .ok (.aload_n 0, 1) := by decide +kernel
theorem dX7_brings_1 : decode cX7_brings 1 = .ok (.getfield 27, 3) := by decide +kernel
theorem dX7_brings_4 : decode cX7_brings 4 = .ok (.iload_n 1, 1) := by decide +kernel
theorem dX7_brings_5 : decode cX7_brings 5 = .ok (.iload_n 2, 1) := by decide +kernel
theorem dX7_brings_6 : decode cX7_brings 6 = .ok (.aload_n 0, 1) := by decide +kernel
theorem dX7_brings_7 : decode cX7_brings 7 = .ok (.getfield 19, 3) := by decide +kernel
theorem dX7_brings_10 : decode cX7_brings 10 = .ok (.getfield 58, 3) := by decide +kernel
theorem dX7_brings_13 : decode cX7_brings 13 = .ok (.iload_n 2, 1) := by decide +kernel
theorem dX7_brings_14 : decode cX7_brings 14 = .ok (.iaload, 1) := by decide +kernel
theorem dX7_brings_15 : decode cX7_brings 15 = .ok (.invokevirtual 61, 3) := by decide +kernel
theorem dX7_brings_18 : decode cX7_brings 18 = .ok (.iload_n 3, 1) := by decide +kernel
theorem dX7_brings_19 : decode cX7_brings 19 = .ok (.invokestatic 67, 3) := by decide +kernel
theorem dX7_brings_22 : decode cX7_brings 22 = .ok (.ireturn, 1) := by decide +kernel
set_option maxRecDepth 20000 in
theorem ggX7_goes_X8_holds : GoodIn wsX7_goes wsX8_holds := goodIn_r _ [5] (by decide +kernel) (by decide +kernel)
set_option maxRecDepth 20000 in
theorem gX7_goes_X8_holds_n67 : GoodIn wsX7_goes (wsX8_holds) := ggX7_goes_X8_holds
theorem dX7_goes_0 : decode cX7_goes 0 = .ok (.aload_n 0, 1) := by decide +kernel
theorem dX7_goes_1 : decode cX7_goes 1 = .ok (.getfield 15, 3) := by decide +kernel
theorem dX7_goes_4 : decode cX7_goes 4 = .ok (.getfield 71, 3) := by decide +kernel
theorem dX7_goes_7 : decode cX7_goes 7 = .ok (.aload_n 0, 1) := by decide +kernel
theorem dX7_goes_8 : decode cX7_goes 8 = .ok (.getfield 23, 3) := by decide +kernel
theorem dX7_goes_11 : decode cX7_goes 11 = .ok (.getfield 77, 3) := by decide +kernel
theorem dX7_goes_14 : decode cX7_goes 14 = .ok (.iload_n 2, 1) := by decide +kernel
theorem dX7_goes_15 : decode cX7_goes 15 = .ok (.iaload, 1) := by decide +kernel
theorem dX7_goes_16 : decode cX7_goes 16 = .ok (.laload, 1) := by decide +kernel
theorem dX7_goes_17 : decode cX7_goes 17 = .ok (.iload_n 1, 1) := by decide +kernel
theorem dX7_goes_18 : decode cX7_goes 18 = .ok (.invokestatic 67, 3) := by decide +kernel
theorem dX7_goes_21 : decode cX7_goes 21 = .ok (.ireturn, 1) := by decide +kernel
set_option maxRecDepth 20000 in
theorem ggX7_measure_X7_measureInto : GoodIn wsX7_measure wsX7_measureInto := goodIn_r _ [7, 1, 2, 8, 9, 10, 6, 11, 12, 13, 14, 15, 16, 17, 18, 19, 20, 21, 22, 23, 24, 25, 26, 27, 28, 29, 30, 31, 32] (by decide +kernel) (by decide +kernel)
set_option maxRecDepth 20000 in
theorem gX7_measure_X7_measureInto : GoodIn wsX7_measure (wsV RX7 85 RX7 yX7_measureInto wsX7_measureInto) := goodIn_app (goodIn_of _ (by decide +kernel)) ggX7_measure_X7_measureInto
theorem dX7_measure_0 : decode cX7_measure 0 = .ok (.iconst 0, 1) := by decide +kernel
theorem dX7_measure_1 : decode cX7_measure 1 = .ok (.istore_n 3, 1) := by decide +kernel
theorem dX7_measure_2 : decode cX7_measure 2 = .ok (.iload_n 3, 1) := by decide +kernel
theorem dX7_measure_3 : decode cX7_measure 3 = .ok (.bipush 24, 2) := by decide +kernel
theorem dX7_measure_5 : decode cX7_measure 5 = .ok (.if_icmp .ge 16, 3) := by decide +kernel
theorem dX7_measure_8 : decode cX7_measure 8 = .ok (.aload_n 0, 1) := by decide +kernel
theorem dX7_measure_9 : decode cX7_measure 9 = .ok (.getfield 9, 3) := by decide +kernel
theorem dX7_measure_12 : decode cX7_measure 12 = .ok (.iload_n 3, 1) := by decide +kernel
theorem dX7_measure_13 : decode cX7_measure 13 = .ok (.iconst (-1), 1) := by decide +kernel
theorem dX7_measure_14 : decode cX7_measure 14 = .ok (.iastore, 1) := by decide +kernel
theorem dX7_measure_15 : decode cX7_measure 15 = .ok (.iinc 3 1, 3) := by decide +kernel
theorem dX7_measure_18 : decode cX7_measure 18 = .ok (.goto (-16), 3) := by decide +kernel
theorem dX7_measure_21 : decode cX7_measure 21 = .ok (.aload_n 0, 1) := by decide +kernel
theorem dX7_measure_22 : decode cX7_measure 22 = .ok (.getfield 9, 3) := by decide +kernel
theorem dX7_measure_25 : decode cX7_measure 25 = .ok (.iload_n 2, 1) := by decide +kernel
theorem dX7_measure_26 : decode cX7_measure 26 = .ok (.iconst 0, 1) := by decide +kernel
theorem dX7_measure_27 : decode cX7_measure 27 = .ok (.iastore, 1) := by decide +kernel
theorem dX7_measure_28 : decode cX7_measure 28 = .ok (.bipush 23, 2) := by decide +kernel
theorem dX7_measure_30 : decode cX7_measure 30 = .ok (.istore_n 3, 1) := by decide +kernel
theorem dX7_measure_31 : decode cX7_measure 31 = .ok (.iload_n 3, 1) := by decide +kernel
theorem dX7_measure_32 : decode cX7_measure 32 = .ok (.ifCond .lt 38, 3) := by decide +kernel
theorem dX7_measure_35 : decode cX7_measure 35 = .ok (.aload_n 0, 1) := by decide +kernel
theorem dX7_measure_36 : decode cX7_measure 36 = .ok (.getfield 23, 3) := by decide +kernel
theorem dX7_measure_39 : decode cX7_measure 39 = .ok (.getfield 82, 3) := by decide +kernel
theorem dX7_measure_42 : decode cX7_measure 42 = .ok (.iload_n 3, 1) := by decide +kernel
theorem dX7_measure_43 : decode cX7_measure 43 = .ok (.iaload, 1) := by decide +kernel
theorem dX7_measure_44 : decode cX7_measure 44 = .ok (.istore 4, 2) := by decide +kernel
theorem dX7_measure_46 : decode cX7_measure 46 = .ok (.aload_n 0, 1) := by decide +kernel
theorem dX7_measure_47 : decode cX7_measure 47 = .ok (.getfield 9, 3) := by decide +kernel
theorem dX7_measure_50 : decode cX7_measure 50 = .ok (.iload 4, 2) := by decide +kernel
theorem dX7_measure_52 : decode cX7_measure 52 = .ok (.iaload, 1) := by decide +kernel
theorem dX7_measure_53 : decode cX7_measure 53 = .ok (.iconst (-1), 1) := by decide +kernel
theorem dX7_measure_54 : decode cX7_measure 54 = .ok (.if_icmp .eq 10, 3) := by decide +kernel
theorem dX7_measure_57 : decode cX7_measure 57 = .ok (.aload_n 0, 1) := by decide +kernel
theorem dX7_measure_58 : decode cX7_measure 58 = .ok (.iload_n 1, 1) := by decide +kernel
theorem dX7_measure_59 : decode cX7_measure 59 = .ok (.iload 4, 2) := by decide +kernel
theorem dX7_measure_61 : decode cX7_measure 61 = .ok (.invokevirtual 85, 3) := by decide +kernel
theorem dX7_measure_64 : decode cX7_measure 64 = .ok (.iinc 3 (-1), 3) := by decide +kernel
theorem dX7_measure_67 : decode cX7_measure 67 = .ok (.goto (-36), 3) := by decide +kernel
theorem dX7_measure_70 : decode cX7_measure 70 = .ok (.return_, 1) := by decide +kernel
set_option maxRecDepth 20000 in
theorem ggX7_measureInto_X7_goes : GoodIn wsX7_measureInto wsX7_goes := goodIn_r _ [7, 8, 2, 9, 10, 11, 12, 13, 14, 15, 16, 26, 27, 28, 17, 18, 19, 20, 21, 22, 23, 24, 25] (by decide +kernel) (by decide +kernel)
set_option maxRecDepth 20000 in
theorem gX7_measureInto_X7_goes : GoodIn wsX7_measureInto (wsV RX7 100 RX7 yX7_goes wsX7_goes) := goodIn_app (goodIn_of _ (by decide +kernel)) ggX7_measureInto_X7_goes
theorem dX7_measureInto_0 : decode cX7_measureInto 0 = .ok (.aload_n 0, 1) := by decide +kernel
theorem dX7_measureInto_1 : decode cX7_measureInto 1 = .ok (.getfield 9, 3) := by decide +kernel
theorem dX7_measureInto_4 : decode cX7_measureInto 4 = .ok (.iload_n 2, 1) := by decide +kernel
theorem dX7_measureInto_5 : decode cX7_measureInto 5 = .ok (.iaload, 1) := by decide +kernel
theorem dX7_measureInto_6 : decode cX7_measureInto 6 = .ok (.iconst 1, 1) := by decide +kernel
theorem dX7_measureInto_7 : decode cX7_measureInto 7 = .ok (.iadd, 1) := by decide +kernel
theorem dX7_measureInto_8 : decode cX7_measureInto 8 = .ok (.istore_n 3, 1) := by decide +kernel
theorem dX7_measureInto_9 : decode cX7_measureInto 9 = .ok (.aload_n 0, 1) := by decide +kernel
theorem dX7_measureInto_10 : decode cX7_measureInto 10 = .ok (.getfield 23, 3) := by decide +kernel
theorem dX7_measureInto_13 : decode cX7_measureInto 13 = .ok (.getfield 88, 3) := by decide +kernel
theorem dX7_measureInto_16 : decode cX7_measureInto 16 = .ok (.iload_n 2, 1) := by decide +kernel
theorem dX7_measureInto_17 : decode cX7_measureInto 17 = .ok (.iaload, 1) := by decide +kernel
theorem dX7_measureInto_18 : decode cX7_measureInto 18 = .ok (.istore 4, 2) := by decide +kernel
theorem dX7_measureInto_20 : decode cX7_measureInto 20 = .ok (.iload 4, 2) := by decide +kernel
theorem dX7_measureInto_22 : decode cX7_measureInto 22 = .ok (.aload_n 0, 1) := by decide +kernel
theorem dX7_measureInto_23 : decode cX7_measureInto 23 = .ok (.getfield 23, 3) := by decide +kernel
