theorem dX9_join_108 : decode cX9_join 108 = .ok (.ifCond .eq 5, 3) := by decide +kernel
theorem dX9_join_111 : decode cX9_join 111 = .ok (.iconst (-1), 1) := by decide +kernel
theorem dX9_join_112 : decode cX9_join 112 = .ok (.ireturn, 1) := by decide +kernel
theorem dX9_join_113 : decode cX9_join 113 = .ok (.aload_n 0, 1) := by decide +kernel
theorem dX9_join_114 : decode cX9_join 114 = .ok (.getfield 32, 3) := by decide +kernel
theorem dX9_join_117 : decode cX9_join 117 = .ok (.aload_n 0, 1) := by decide +kernel
theorem dX9_join_118 : decode cX9_join 118 = .ok (.getfield 108, 3) := by decide +kernel
theorem dX9_join_121 : decode cX9_join 121 = .ok (.iload_n 1, 1) := by decide +kernel
theorem dX9_join_122 : decode cX9_join 122 = .ok (.iastore, 1) := by decide +kernel
theorem dX9_join_123 : decode cX9_join 123 = .ok (.aload_n 0, 1) := by decide +kernel
theorem dX9_join_124 : decode cX9_join 124 = .ok (.getfield 35, 3) := by decide +kernel
theorem dX9_join_127 : decode cX9_join 127 = .ok (.aload_n 0, 1) := by decide +kernel
theorem dX9_join_128 : decode cX9_join 128 = .ok (.getfield 108, 3) := by decide +kernel
theorem dX9_join_131 : decode cX9_join 131 = .ok (.iload_n 2, 1) := by decide +kernel
theorem dX9_join_132 : decode cX9_join 132 = .ok (.iastore, 1) := by decide +kernel
theorem dX9_join_133 : decode cX9_join 133 = .ok (.aload_n 0, 1) := by decide +kernel
theorem dX9_join_134 : decode cX9_join 134 = .ok (.getfield 38, 3) := by decide +kernel
theorem dX9_join_137 : decode cX9_join 137 = .ok (.aload_n 0, 1) := by decide +kernel
theorem dX9_join_138 : decode cX9_join 138 = .ok (.getfield 108, 3) := by decide +kernel
theorem dX9_join_141 : decode cX9_join 141 = .ok (.iload_n 3, 1) := by decide +kernel
theorem dX9_join_142 : decode cX9_join 142 = .ok (.iastore, 1) := by decide +kernel
theorem dX9_join_143 : decode cX9_join 143 = .ok (.aload_n 0, 1) := by decide +kernel
theorem dX9_join_144 : decode cX9_join 144 = .ok (.dup, 1) := by decide +kernel
theorem dX9_join_145 : decode cX9_join 145 = .ok (.getfield 108, 3) := by decide +kernel
theorem dX9_join_148 : decode cX9_join 148 = .ok (.iconst 1, 1) := by decide +kernel
theorem dX9_join_149 : decode cX9_join 149 = .ok (.iadd, 1) := by decide +kernel
theorem dX9_join_150 : decode cX9_join 150 = .ok (.putfield 108, 3) := by decide +kernel
theorem dX9_join_153 : decode cX9_join 153 = .ok (.aload_n 0, 1) := by decide +kernel
theorem dX9_join_154 : decode cX9_join 154 = .ok (.getfield 108, 3) := by decide +kernel
theorem dX9_join_157 : decode cX9_join 157 = .ok (.iconst 1, 1) := by decide +kernel
theorem dX9_join_158 : decode cX9_join 158 = .ok (.isub, 1) := by decide +kernel
theorem dX9_join_159 : decode cX9_join 159 = .ok (.ireturn, 1) := by decide +kernel
set_option maxRecDepth 20000 in
theorem ggX9_cut_X9_lies : GoodIn wsX9_cut wsX9_lies := goodIn_r _ [6] (by decide +kernel) (by decide +kernel)
set_option maxRecDepth 20000 in
theorem gX9_cut_X9_lies : GoodIn wsX9_cut (va_wsS RX9 91 yX9_lies wsX9_lies) := goodIn_app (goodIn_of _ (by decide +kernel)) ggX9_cut_X9_lies
theorem dX9_cut_0 : decode cX9_cut 0 = .ok (.iload_n 1, 1) := by decide +kernel
theorem dX9_cut_1 : decode cX9_cut 1 = .ok (.iconst 0, 1) := by decide +kernel
theorem dX9_cut_2 : decode cX9_cut 2 = .ok (.aload_n 0, 1) := by decide +kernel
theorem dX9_cut_3 : decode cX9_cut 3 = .ok (.getfield 108, 3) := by decide +kernel
theorem dX9_cut_6 : decode cX9_cut 6 = .ok (.iconst 1, 1) := by decide +kernel
theorem dX9_cut_7 : decode cX9_cut 7 = .ok (.isub, 1) := by decide +kernel
theorem dX9_cut_8 : decode cX9_cut 8 = .ok (.invokestatic 91, 3) := by decide +kernel
theorem dX9_cut_11 : decode cX9_cut 11 = .ok (.ifCond .eq 12, 3) := by decide +kernel
theorem dX9_cut_14 : decode cX9_cut 14 = .ok (.aload_n 0, 1) := by decide +kernel
theorem dX9_cut_15 : decode cX9_cut 15 = .ok (.getfield 41, 3) := by decide +kernel
theorem dX9_cut_18 : decode cX9_cut 18 = .ok (.iload_n 1, 1) := by decide +kernel
theorem dX9_cut_19 : decode cX9_cut 19 = .ok (.baload, 1) := by decide +kernel
theorem dX9_cut_20 : decode cX9_cut 20 = .ok (.ifCond .eq 5, 3) := by decide +kernel
theorem dX9_cut_23 : decode cX9_cut 23 = .ok (.iconst 0, 1) := by decide +kernel
theorem dX9_cut_24 : decode cX9_cut 24 = .ok (.ireturn, 1) := by decide +kernel
theorem dX9_cut_25 : decode cX9_cut 25 = .ok (.aload_n 0, 1) := by decide +kernel
theorem dX9_cut_26 : decode cX9_cut 26 = .ok (.getfield 41, 3) := by decide +kernel
theorem dX9_cut_29 : decode cX9_cut 29 = .ok (.iload_n 1, 1) := by decide +kernel
theorem dX9_cut_30 : decode cX9_cut 30 = .ok (.iconst 1, 1) := by decide +kernel
theorem dX9_cut_31 : decode cX9_cut 31 = .ok (.bastore, 1) := by decide +kernel
theorem dX9_cut_32 : decode cX9_cut 32 = .ok (.iconst 1, 1) := by decide +kernel
theorem dX9_cut_33 : decode cX9_cut 33 = .ok (.ireturn, 1) := by decide +kernel
set_option maxRecDepth 20000 in
theorem ggX9_except_X9_isPart : GoodIn wsX9_except wsX9_isPart := goodIn_r _ [6, 7, 8, 9, 5, 10, 17, 18, 19, 20, 21, 22, 23, 24, 25, 26, 27, 28, 29, 30, 31, 32, 33, 34, 35, 36, 37, 38, 39, 40, 41, 42, 43, 44, 45, 46] (by decide +kernel) (by decide +kernel)
set_option maxRecDepth 20000 in
theorem gX9_except_X9_isPart : GoodIn wsX9_except (wsV RX9 105 RX9 yX9_isPart wsX9_isPart) := goodIn_app (goodIn_of _ (by decide +kernel)) ggX9_except_X9_isPart
set_option maxRecDepth 20000 in
theorem ggX9_except_X9_isLicence : GoodIn wsX9_except wsX9_isLicence := goodIn_r _ [13, 8, 9, 5, 10] (by decide +kernel) (by decide +kernel)
set_option maxRecDepth 20000 in
theorem gX9_except_X9_isLicence : GoodIn wsX9_except (va_wsS RX9 95 yX9_isLicence wsX9_isLicence) := goodIn_app (goodIn_of _ (by decide +kernel)) ggX9_except_X9_isLicence
set_option maxRecDepth 20000 in
theorem ggX9_except_X9_lies : GoodIn wsX9_except wsX9_lies := goodIn_r _ [10] (by decide +kernel) (by decide +kernel)
set_option maxRecDepth 20000 in
theorem gX9_except_X9_lies : GoodIn wsX9_except (va_wsS RX9 91 yX9_lies wsX9_lies) := goodIn_app (goodIn_of _ (by decide +kernel)) ggX9_except_X9_lies
set_option maxRecDepth 20000 in
theorem ggX9_except_X9_bit : GoodIn wsX9_except wsX9_bit := goodIn_r _ [16] (by decide +kernel) (by decide +kernel)
set_option maxRecDepth 20000 in
theorem gX9_except_X9_bit : GoodIn wsX9_except (va_wsS RX9 99 yX9_bit wsX9_bit) := goodIn_app (goodIn_of _ (by decide +kernel)) ggX9_except_X9_bit
theorem dX9_except_0 : decode cX9_except 0 = .ok (.aload_n 0, 1) := by decide +kernel
theorem dX9_except_1 : decode cX9_except 1 = .ok (.iload_n 1, 1) := by decide +kernel
theorem dX9_except_2 : decode cX9_except 2 = .ok (.invokevirtual 105, 3) := by decide +kernel
theorem dX9_except_5 : decode cX9_except 5 = .ok (.ifCond .eq 37, 3) := by decide +kernel
theorem dX9_except_8 : decode cX9_except 8 = .ok (.iload_n 2, 1) := by decide +kernel
theorem dX9_except_9 : decode cX9_except 9 = .ok (.invokestatic 95, 3) := by decide +kernel
theorem dX9_except_12 : decode cX9_except 12 = .ok (.ifCond .eq 30, 3) := by decide +kernel
theorem dX9_except_15 : decode cX9_except 15 = .ok (.iload_n 3, 1) := by decide +kernel
theorem dX9_except_16 : decode cX9_except 16 = .ok (.iconst 0, 1) := by decide +kernel
theorem dX9_except_17 : decode cX9_except 17 = .ok (.bipush 7, 2) := by decide +kernel
theorem dX9_except_19 : decode cX9_except 19 = .ok (.invokestatic 91, 3) := by decide +kernel
theorem dX9_except_22 : decode cX9_except 22 = .ok (.ifCond .eq 20, 3) := by decide +kernel
theorem dX9_except_25 : decode cX9_except 25 = .ok (.aload_n 0, 1) := by decide +kernel
theorem dX9_except_26 : decode cX9_except 26 = .ok (.getfield 29, 3) := by decide +kernel
theorem dX9_except_29 : decode cX9_except 29 = .ok (.iload_n 1, 1) := by decide +kernel
theorem dX9_except_30 : decode cX9_except 30 = .ok (.laload, 1) := by decide +kernel
theorem dX9_except_31 : decode cX9_except 31 = .ok (.iload_n 2, 1) := by decide +kernel
theorem dX9_except_32 : decode cX9_except 32 = .ok (.iload_n 3, 1) := by decide +kernel
theorem dX9_except_33 : decode cX9_except 33 = .ok (.invokestatic 99, 3) := by decide +kernel
theorem dX9_except_36 : decode cX9_except 36 = .ok (.land, 1) := by decide +kernel
theorem dX9_except_37 : decode cX9_except 37 = .ok (.lconst 0, 1) := by decide +kernel
theorem dX9_except_38 : decode cX9_except 38 = .ok (.lcmp, 1) := by decide +kernel
theorem dX9_except_39 : decode cX9_except 39 = .ok (.ifCond .eq 5, 3) := by decide +kernel
theorem dX9_except_42 : decode cX9_except 42 = .ok (.iconst 0, 1) := by decide +kernel
theorem dX9_except_43 : decode cX9_except 43 = .ok (.ireturn, 1) := by decide +kernel
theorem dX9_except_44 : decode cX9_except 44 = .ok (.aload_n 0, 1) := by decide +kernel
theorem dX9_except_45 : decode cX9_except 45 = .ok (.getfield 29, 3) := by decide +kernel
theorem dX9_except_48 : decode cX9_except 48 = .ok (.iload_n 1, 1) := by decide +kernel
theorem dX9_except_49 : decode cX9_except 49 = .ok (.dup2, 1) := by decide +kernel
theorem dX9_except_50 : decode cX9_except 50 = .ok (.laload, 1) := by decide +kernel
theorem dX9_except_51 : decode cX9_except 51 = .ok (.iload_n 2, 1) := by decide +kernel
theorem dX9_except_52 : decode cX9_except 52 = .ok (.iload_n 3, 1) := by decide +kernel
theorem dX9_except_53 : decode cX9_except 53 = .ok (.invokestatic 99, 3) := by decide +kernel
theorem dX9_except_56 : decode cX9_except 56 = .ok (.lor, 1) := by decide +kernel
theorem dX9_except_57 : decode cX9_except 57 = .ok (.lastore, 1) := by decide +kernel
theorem dX9_except_58 : decode cX9_except 58 = .ok (.iconst 1, 1) := by decide +kernel
theorem dX9_except_59 : decode cX9_except 59 = .ok (.ireturn, 1) := by decide +kernel
set_option maxRecDepth 20000 in
theorem ggX9_product_X9_isPart : GoodIn wsX9_product wsX9_isPart := goodIn_r _ [6, 7, 8, 9, 5, 10, 11, 12, 13, 14, 15, 16, 17, 18, 19, 20, 21, 22, 23, 24, 25, 26, 27, 28, 29, 30, 31, 32, 33, 34, 35, 36, 37, 38, 39, 40] (by decide +kernel) (by decide +kernel)
set_option maxRecDepth 20000 in
theorem gX9_product_X9_isPart : GoodIn wsX9_product (wsV RX9 105 RX9 yX9_isPart wsX9_isPart) := goodIn_app (goodIn_of _ (by decide +kernel)) ggX9_product_X9_isPart
theorem dX9_product_0 : decode cX9_product 0 = .ok (.aload_n 0, 1) := by decide +kernel
theorem dX9_product_1 : decode cX9_product 1 = .ok (.iload_n 1, 1) := by decide +kernel
theorem dX9_product_2 : decode cX9_product 2 = .ok (.invokevirtual 105, 3) := by decide +kernel
theorem dX9_product_5 : decode cX9_product 5 = .ok (.ifCond .ne 5, 3) := by decide +kernel
theorem dX9_product_8 : decode cX9_product 8 = .ok (.iconst 0, 1) := by decide +kernel
theorem dX9_product_9 : decode cX9_product 9 = .ok (.ireturn, 1) := by decide +kernel
theorem dX9_product_10 : decode cX9_product 10 = .ok (.aload_n 0, 1) := by decide +kernel
theorem dX9_product_11 : decode cX9_product 11 = .ok (.iload_n 1, 1) := by decide +kernel
theorem dX9_product_12 : decode cX9_product 12 = .ok (.putfield 118, 3) := by decide +kernel
theorem dX9_product_15 : decode cX9_product 15 = .ok (.iconst 1, 1) := by decide +kernel
theorem dX9_product_16 : decode cX9_product 16 = .ok (.ireturn, 1) := by decide +kernel
set_option maxRecDepth 20000 in
theorem ggX9_change_X9_lies : GoodIn wsX9_change wsX9_lies := goodIn_r _ [11] (by decide +kernel) (by decide +kernel)
set_option maxRecDepth 20000 in
theorem gX9_change_X9_lies : GoodIn wsX9_change (va_wsS RX9 91 yX9_lies wsX9_lies) := goodIn_app (goodIn_of _ (by decide +kernel)) ggX9_change_X9_lies
set_option maxRecDepth 20000 in
theorem ggX9_change_X9_isPart : GoodIn wsX9_change wsX9_isPart := goodIn_r _ [15, 16, 8, 9, 10, 11, 20, 21, 22, 23, 24, 25, 26, 27, 28, 29, 30, 31, 32, 33, 34, 35, 36, 37, 38, 39, 40, 41, 42, 43, 44, 45, 46, 47, 48, 49] (by decide +kernel) (by decide +kernel)
set_option maxRecDepth 20000 in
theorem gX9_change_X9_isPart : GoodIn wsX9_change (wsV RX9 105 RX9 yX9_isPart wsX9_isPart) := goodIn_app (goodIn_of _ (by decide +kernel)) ggX9_change_X9_isPart
set_option maxRecDepth 20000 in
theorem ggX9_change_X9_isLicence : GoodIn wsX9_change wsX9_isLicence := goodIn_r _ [19, 8, 9, 10, 11] (by decide +kernel) (by decide +kernel)
set_option maxRecDepth 20000 in
theorem gX9_change_X9_isLicence : GoodIn wsX9_change (va_wsS RX9 95 yX9_isLicence wsX9_isLicence) := goodIn_app (goodIn_of _ (by decide +kernel)) ggX9_change_X9_isLicence
theorem dX9_change_0 : decode cX9_change 0 = .ok (.aload_n 0, 1) := by decide +kernel
theorem dX9_change_1 : decode cX9_change 1 = .ok (.getfield 121, 3) := by decide +kernel
theorem dX9_change_4 : decode cX9_change 4 = .ok (.bipush 10, 2) := by decide +kernel
theorem dX9_change_6 : decode cX9_change 6 = .ok (.if_icmp .eq 23, 3) := by decide +kernel
theorem dX9_change_9 : decode cX9_change 9 = .ok (.iload_n 1, 1) := by decide +kernel
theorem dX9_change_10 : decode cX9_change 10 = .ok (.iconst 0, 1) := by decide +kernel
theorem dX9_change_11 : decode cX9_change 11 = .ok (.iconst 1, 1) := by decide +kernel
theorem dX9_change_12 : decode cX9_change 12 = .ok (.invokestatic 91, 3) := by decide +kernel
theorem dX9_change_15 : decode cX9_change 15 = .ok (.ifCond .eq 14, 3) := by decide +kernel
theorem dX9_change_18 : decode cX9_change 18 = .ok (.iload 4, 2) := by decide +kernel
theorem dX9_change_20 : decode cX9_change 20 = .ok (.iconst 0, 1) := by decide +kernel
theorem dX9_change_21 : decode cX9_change 21 = .ok (.ldc 124, 2) := by decide +kernel
theorem dX9_change_23 : decode cX9_change 23 = .ok (.invokestatic 91, 3) := by decide +kernel
theorem dX9_change_26 : decode cX9_change 26 = .ok (.ifCond .ne 5, 3) := by decide +kernel
theorem dX9_change_29 : decode cX9_change 29 = .ok (.iconst (-1), 1) := by decide +kernel
theorem dX9_change_30 : decode cX9_change 30 = .ok (.ireturn, 1) := by decide +kernel
theorem dX9_change_31 : decode cX9_change 31 = .ok (.iload_n 1, 1) := by decide +kernel
theorem dX9_change_32 : decode cX9_change 32 = .ok (.ifCond .ne 21, 3) := by decide +kernel
theorem dX9_change_35 : decode cX9_change 35 = .ok (.aload_n 0, 1) := by decide +kernel
theorem dX9_change_36 : decode cX9_change 36 = .ok (.iload_n 2, 1) := by decide +kernel
theorem dX9_change_37 : decode cX9_change 37 = .ok (.invokevirtual 105, 3) := by decide +kernel
theorem dX9_change_40 : decode cX9_change 40 = .ok (.ifCond .eq 27, 3) := by decide +kernel
theorem dX9_change_43 : decode cX9_change 43 = .ok (.iload_n 3, 1) := by decide +kernel
theorem dX9_change_44 : decode cX9_change 44 = .ok (.invokestatic 95, 3) := by decide +kernel
theorem dX9_change_47 : decode cX9_change 47 = .ok (.ifCond .ne 22, 3) := by decide +kernel
theorem dX9_change_50 : decode cX9_change 50 = .ok (.goto 17, 3) := by decide +kernel
theorem dX9_change_53 : decode cX9_change 53 = .ok (.iload_n 2, 1) := by decide +kernel
theorem dX9_change_54 : decode cX9_change 54 = .ok (.iconst 0, 1) := by decide +kernel
theorem dX9_change_55 : decode cX9_change 55 = .ok (.aload_n 0, 1) := by decide +kernel
theorem dX9_change_56 : decode cX9_change 56 = .ok (.getfield 108, 3) := by decide +kernel
theorem dX9_change_59 : decode cX9_change 59 = .ok (.iconst 1, 1) := by decide +kernel
theorem dX9_change_60 : decode cX9_change 60 = .ok (.isub, 1) := by decide +kernel
theorem dX9_change_61 : decode cX9_change 61 = .ok (.invokestatic 91, 3) := by decide +kernel
theorem dX9_change_64 : decode cX9_change 64 = .ok (.ifCond .ne 5, 3) := by decide +kernel
theorem dX9_change_67 : decode cX9_change 67 = .ok (.iconst (-1), 1) := by decide +kernel
theorem dX9_change_68 : decode cX9_change 68 = .ok (.ireturn, 1) := by decide +kernel
theorem dX9_change_69 : decode cX9_change 69 = .ok (.aload_n 0, 1) := by decide +kernel
theorem dX9_change_70 : decode cX9_change 70 = .ok (.getfield 45, 3) := by decide +kernel
theorem dX9_change_73 : decode cX9_change 73 = .ok (.aload_n 0, 1) := by decide +kernel
theorem dX9_change_74 : decode cX9_change 74 = .ok (.getfield 121, 3) := by decide +kernel
theorem dX9_change_77 : decode cX9_change 77 = .ok (.iload_n 1, 1) := by decide +kernel
theorem dX9_change_78 : decode cX9_change 78 = .ok (.iastore, 1) := by decide +kernel
theorem dX9_change_79 : decode cX9_change 79 = .ok (.aload_n 0, 1) := by decide +kernel
theorem dX9_change_80 : decode cX9_change 80 = .ok (.getfield 48, 3) := by decide +kernel
theorem dX9_change_83 : decode cX9_change 83 = .ok (.aload_n 0, 1) := by decide +kernel
theorem dX9_change_84 : decode cX9_change 84 = .ok (.getfield 121, 3) := by decide +kernel
theorem dX9_change_87 : decode cX9_change 87 = .ok (.iload_n 2, 1) := by decide +kernel
theorem dX9_change_88 : decode cX9_change 88 = .ok (.iastore, 1) := by decide +kernel
theorem dX9_change_89 : decode cX9_change 89 = .ok (.aload_n 0, 1) := by decide +kernel
theorem dX9_change_90 : decode cX9_change 90 = .ok (.getfield 51, 3) := by decide +kernel
theorem dX9_change_93 : decode cX9_change 93 = .ok (.aload_n 0, 1) := by decide +kernel
theorem dX9_change_94 : decode cX9_change 94 = .ok (.getfield 121, 3) := by decide +kernel
theorem dX9_change_97 : decode cX9_change 97 = .ok (.iload_n 3, 1) := by decide +kernel
theorem dX9_change_98 : decode cX9_change 98 = .ok (.iastore, 1) := by decide +kernel
theorem dX9_change_99 : decode cX9_change 99 = .ok (.aload_n 0, 1) := by decide +kernel
theorem dX9_change_100 : decode cX9_change 100 = .ok (.getfield 54, 3) := by decide +kernel
theorem dX9_change_103 : decode cX9_change 103 = .ok (.aload_n 0, 1) := by decide +kernel
theorem dX9_change_104 : decode cX9_change 104 = .ok (.getfield 121, 3) := by decide +kernel
theorem dX9_change_107 : decode cX9_change 107 = .ok (.iload 4, 2) := by decide +kernel
theorem dX9_change_109 : decode cX9_change 109 = .ok (.iastore, 1) := by decide +kernel
theorem dX9_change_110 : decode cX9_change 110 = .ok (.aload_n 0, 1) := by decide +kernel
theorem dX9_change_111 : decode cX9_change 111 = .ok (.dup, 1) := by decide +kernel
theorem dX9_change_112 : decode cX9_change 112 = .ok (.getfield 121, 3) := by decide +kernel
theorem dX9_change_115 : decode cX9_change 115 = .ok (.iconst 1, 1) := by decide +kernel
theorem dX9_change_116 : decode cX9_change 116 = .ok (.iadd, 1) := by decide +kernel
theorem dX9_change_117 : decode cX9_change 117 = .ok (.putfield 121, 3) := by decide +kernel
theorem dX9_change_120 : decode cX9_change 120 = .ok (.aload_n 0, 1) := by decide +kernel
theorem dX9_change_121 : decode cX9_change 121 = .ok (.getfield 121, 3) := by decide +kernel
theorem dX9_change_124 : decode cX9_change 124 = .ok (.iconst 1, 1) := by decide +kernel
theorem dX9_change_125 : decode cX9_change 125 = .ok (.isub, 1) := by decide +kernel
theorem dX9_change_126 : decode cX9_change 126 = .ok (.ireturn, 1) := by decide +kernel
theorem dX9_orders_0 : decode cX9_orders 0 = .ok (.iconst 0, 1) := by decide +kernel
theorem dX9_orders_1 : decode cX9_orders 1 = .ok (.istore_n 1, 1) := by decide +kernel
theorem dX9_orders_2 : decode cX9_orders 2 = .ok (.iload_n 1, 1) := by decide +kernel
theorem dX9_orders_3 : decode cX9_orders 3 = .ok (.bipush 24, 2) := by decide +kernel
theorem dX9_orders_5 : decode cX9_orders 5 = .ok (.if_icmp .ge 16, 3) := by decide +kernel
theorem dX9_orders_8 : decode cX9_orders 8 = .ok (.aload_n 0, 1) := by decide +kernel
theorem dX9_orders_9 : decode cX9_orders 9 = .ok (.getfield 72, 3) := by decide +kernel
theorem dX9_orders_12 : decode cX9_orders 12 = .ok (.iload_n 1, 1) := by decide +kernel
theorem dX9_orders_13 : decode cX9_orders 13 = .ok (.iconst 0, 1) := by decide +kernel
theorem dX9_orders_14 : decode cX9_orders 14 = .ok (.iastore, 1) := by decide +kernel
theorem dX9_orders_15 : decode cX9_orders 15 = .ok (.iinc 1 1, 3) := by decide +kernel
theorem dX9_orders_18 : decode cX9_orders 18 = .ok (.goto (-16), 3) := by decide +kernel
theorem dX9_orders_21 : decode cX9_orders 21 = .ok (.iconst 0, 1) := by decide +kernel
theorem dX9_orders_22 : decode cX9_orders 22 = .ok (.istore_n 1, 1) := by decide +kernel
theorem dX9_orders_23 : decode cX9_orders 23 = .ok (.iload_n 1, 1) := by decide +kernel
theorem dX9_orders_24 : decode cX9_orders 24 = .ok (.aload_n 0, 1) := by decide +kernel
theorem dX9_orders_25 : decode cX9_orders 25 = .ok (.getfield 87, 3) := by decide +kernel
theorem dX9_orders_28 : decode cX9_orders 28 = .ok (.if_icmp .ge 85, 3) := by decide +kernel
theorem dX9_orders_31 : decode cX9_orders 31 = .ok (.iconst 0, 1) := by decide +kernel
theorem dX9_orders_32 : decode cX9_orders 32 = .ok (.istore_n 2, 1) := by decide +kernel
theorem dX9_orders_33 : decode cX9_orders 33 = .ok (.iload_n 2, 1) := by decide +kernel
theorem dX9_orders_34 : decode cX9_orders 34 = .ok (.aload_n 0, 1) := by decide +kernel
theorem dX9_orders_35 : decode cX9_orders 35 = .ok (.getfield 108, 3) := by decide +kernel
theorem dX9_orders_38 : decode cX9_orders 38 = .ok (.if_icmp .ge 69, 3) := by decide +kernel
theorem dX9_orders_41 : decode cX9_orders 41 = .ok (.aload_n 0, 1) := by decide +kernel
theorem dX9_orders_42 : decode cX9_orders 42 = .ok (.getfield 60, 3) := by decide +kernel
theorem dX9_orders_45 : decode cX9_orders 45 = .ok (.iload_n 2, 1) := by decide +kernel
theorem dX9_orders_46 : decode cX9_orders 46 = .ok (.baload, 1) := by decide +kernel
theorem dX9_orders_47 : decode cX9_orders 47 = .ok (.ifCond .ne 54, 3) := by decide +kernel
theorem dX9_orders_50 : decode cX9_orders 50 = .ok (.aload_n 0, 1) := by decide +kernel
theorem dX9_orders_51 : decode cX9_orders 51 = .ok (.getfield 72, 3) := by decide +kernel
theorem dX9_orders_54 : decode cX9_orders 54 = .ok (.aload_n 0, 1) := by decide +kernel
theorem dX9_orders_55 : decode cX9_orders 55 = .ok (.getfield 35, 3) := by decide +kernel
theorem dX9_orders_58 : decode cX9_orders 58 = .ok (.iload_n 2, 1) := by decide +kernel
theorem dX9_orders_59 : decode cX9_orders 59 = .ok (.iaload, 1) := by decide +kernel
theorem dX9_orders_60 : decode cX9_orders 60 = .ok (.iaload, 1) := by decide +kernel
theorem dX9_orders_61 : decode cX9_orders 61 = .ok (.aload_n 0, 1) := by decide +kernel
theorem dX9_orders_62 : decode cX9_orders 62 = .ok (.getfield 72, 3) := by decide +kernel
theorem dX9_orders_65 : decode cX9_orders 65 = .ok (.aload_n 0, 1) := by decide +kernel
theorem dX9_orders_66 : decode cX9_orders 66 = .ok (.getfield 32, 3) := by decide +kernel
theorem dX9_orders_69 : decode cX9_orders 69 = .ok (.iload_n 2, 1) := by decide +kernel
theorem dX9_orders_70 : decode cX9_orders 70 = .ok (.iaload, 1) := by decide +kernel
theorem dX9_orders_71 : decode cX9_orders 71 = .ok (.iaload, 1) := by decide +kernel
theorem dX9_orders_72 : decode cX9_orders 72 = .ok (.iconst 1, 1) := by decide +kernel
theorem dX9_orders_73 : decode cX9_orders 73 = .ok (.iadd, 1) := by decide +kernel
theorem dX9_orders_74 : decode cX9_orders 74 = .ok (.if_icmp .ge 27, 3) := by decide +kernel
theorem dX9_orders_77 : decode cX9_orders 77 = .ok (.aload_n 0, 1) := by decide +kernel
theorem dX9_orders_78 : decode cX9_orders 78 = .ok (.getfield 72, 3) := by decide +kernel
theorem dX9_orders_81 : decode cX9_orders 81 = .ok (.aload_n 0, 1) := by decide +kernel
theorem dX9_orders_82 : decode cX9_orders 82 = .ok (.getfield 35, 3) := by decide +kernel
theorem dX9_orders_85 : decode cX9_orders 85 = .ok (.iload_n 2, 1) := by decide +kernel
theorem dX9_orders_86 : decode cX9_orders 86 = .ok (.iaload, 1) := by decide +kernel
theorem dX9_orders_87 : decode cX9_orders 87 = .ok (.aload_n 0, 1) := by decide +kernel
theorem dX9_orders_88 : decode cX9_orders 88 = .ok (.getfield 72, 3) := by decide +kernel
theorem dX9_orders_91 : decode cX9_orders 91 = .ok (.aload_n 0, 1) := by decide +kernel
theorem dX9_orders_92 : decode cX9_orders 92 = .ok (.getfield 32, 3) := by decide +kernel
theorem dX9_orders_95 : decode cX9_orders 95 = .ok (.iload_n 2, 1) := by decide +kernel
theorem dX9_orders_96 : decode cX9_orders 96 = .ok (.iaload, 1) := by decide +kernel
theorem dX9_orders_97 : decode cX9_orders 97 = .ok (.iaload, 1) := by decide +kernel
theorem dX9_orders_98 : decode cX9_orders 98 = .ok (.iconst 1, 1) := by decide +kernel
theorem dX9_orders_99 : decode cX9_orders 99 = .ok (.iadd, 1) := by decide +kernel
theorem dX9_orders_100 : decode cX9_orders 100 = .ok (.iastore, 1) := by decide +kernel
theorem dX9_orders_101 : decode cX9_orders 101 = .ok (.iinc 2 1, 3) := by decide +kernel
theorem dX9_orders_104 : decode cX9_orders 104 = .ok (.goto (-71), 3) := by decide +kernel
theorem dX9_orders_107 : decode cX9_orders 107 = .ok (.iinc 1 1, 3) := by decide +kernel
theorem dX9_orders_110 : decode cX9_orders 110 = .ok (.goto (-87), 3) := by decide +kernel
theorem dX9_orders_113 : decode cX9_orders 113 = .ok (.aload_n 0, 1) := by decide +kernel
theorem dX9_orders_114 : decode cX9_orders 114 = .ok (.iconst 0, 1) := by decide +kernel
theorem dX9_orders_115 : decode cX9_orders 115 = .ok (.putfield 125, 3) := by decide +kernel
theorem dX9_orders_118 : decode cX9_orders 118 = .ok (.iconst 0, 1) := by decide +kernel
theorem dX9_orders_119 : decode cX9_orders 119 = .ok (.istore_n 1, 1) := by decide +kernel
theorem dX9_orders_120 : decode cX9_orders 120 = .ok (.iload_n 1, 1) := by decide +kernel
theorem dX9_orders_121 : decode cX9_orders 121 = .ok (.bipush 24, 2) := by decide +kernel
theorem dX9_orders_123 : decode cX9_orders 123 = .ok (.if_icmp .ge 72, 3) := by decide +kernel
theorem dX9_orders_126 : decode cX9_orders 126 = .ok (.iconst 0, 1) := by decide +kernel
theorem dX9_orders_127 : decode cX9_orders 127 = .ok (.istore_n 2, 1) := by decide +kernel
theorem dX9_orders_128 : decode cX9_orders 128 = .ok (.iload_n 2, 1) := by decide +kernel
theorem dX9_orders_129 : decode cX9_orders 129 = .ok (.aload_n 0, 1) := by decide +kernel
theorem dX9_orders_130 : decode cX9_orders 130 = .ok (.getfield 108, 3) := by decide +kernel
theorem dX9_orders_133 : decode cX9_orders 133 = .ok (.if_icmp .ge 56, 3) := by decide +kernel
theorem dX9_orders_136 : decode cX9_orders 136 = .ok (.aload_n 0, 1) := by decide +kernel
theorem dX9_orders_137 : decode cX9_orders 137 = .ok (.getfield 60, 3) := by decide +kernel
theorem dX9_orders_140 : decode cX9_orders 140 = .ok (.iload_n 2, 1) := by decide +kernel
theorem dX9_orders_141 : decode cX9_orders 141 = .ok (.baload, 1) := by decide +kernel
theorem dX9_orders_142 : decode cX9_orders 142 = .ok (.ifCond .ne 41, 3) := by decide +kernel
theorem dX9_orders_145 : decode cX9_orders 145 = .ok (.aload_n 0, 1) := by decide +kernel
theorem dX9_orders_146 : decode cX9_orders 146 = .ok (.getfield 72, 3) := by decide +kernel
theorem dX9_orders_149 : decode cX9_orders 149 = .ok (.aload_n 0, 1) := by decide +kernel
theorem dX9_orders_150 : decode cX9_orders 150 = .ok (.getfield 32, 3) := by decide +kernel
theorem dX9_orders_153 : decode cX9_orders 153 = .ok (.iload_n 2, 1) := by decide +kernel
theorem dX9_orders_154 : decode cX9_orders 154 = .ok (.iaload, 1) := by decide +kernel
theorem dX9_orders_155 : decode cX9_orders 155 = .ok (.iaload, 1) := by decide +kernel
theorem dX9_orders_156 : decode cX9_orders 156 = .ok (.iload_n 1, 1) := by decide +kernel
theorem dX9_orders_157 : decode cX9_orders 157 = .ok (.if_icmp .eq 6, 3) := by decide +kernel
theorem dX9_orders_160 : decode cX9_orders 160 = .ok (.goto 23, 3) := by decide +kernel
theorem dX9_orders_163 : decode cX9_orders 163 = .ok (.aload_n 0, 1) := by decide +kernel
theorem dX9_orders_164 : decode cX9_orders 164 = .ok (.getfield 69, 3) := by decide +kernel
theorem dX9_orders_167 : decode cX9_orders 167 = .ok (.aload_n 0, 1) := by decide +kernel
theorem dX9_orders_168 : decode cX9_orders 168 = .ok (.getfield 125, 3) := by decide +kernel
theorem dX9_orders_171 : decode cX9_orders 171 = .ok (.iload_n 2, 1) := by decide +kernel
theorem dX9_orders_172 : decode cX9_orders 172 = .ok (.iastore, 1) := by decide +kernel
theorem dX9_orders_173 : decode cX9_orders 173 = .ok (.aload_n 0, 1) := by decide +kernel
theorem dX9_orders_174 : decode cX9_orders 174 = .ok (.dup, 1) := by decide +kernel
theorem dX9_orders_175 : decode cX9_orders 175 = .ok (.getfield 125, 3) := by decide +kernel
theorem dX9_orders_178 : decode cX9_orders 178 = .ok (.iconst 1, 1) := by decide +kernel
theorem dX9_orders_179 : decode cX9_orders 179 = .ok (.iadd, 1) := by decide +kernel
theorem dX9_orders_180 : decode cX9_orders 180 = .ok (.putfield 125, 3) := by decide +kernel
theorem dX9_orders_183 : decode cX9_orders 183 = .ok (.iinc 2 1, 3) := by decide +kernel
theorem dX9_orders_186 : decode cX9_orders 186 = .ok (.goto (-58), 3) := by decide +kernel
theorem dX9_orders_189 : decode cX9_orders 189 = .ok (.iinc 1 1, 3) := by decide +kernel
theorem dX9_orders_192 : decode cX9_orders 192 = .ok (.goto (-72), 3) := by decide +kernel
theorem dX9_orders_195 : decode cX9_orders 195 = .ok (.return_, 1) := by decide +kernel
theorem dX9_brings_0 : decode cX9_brings 0 = .ok (.aload_n 0, 1) := by decide +kernel
theorem dX9_brings_1 : decode cX9_brings 1 = .ok (.getfield 7, 3) := by decide +kernel
theorem dX9_brings_4 : decode cX9_brings 4 = .ok (.iconst 4, 1) := by decide +kernel
theorem dX9_brings_5 : decode cX9_brings 5 = .ok (.aload_n 0, 1) := by decide +kernel
theorem dX9_brings_6 : decode cX9_brings 6 = .ok (.getfield 63, 3) := by decide +kernel
theorem dX9_brings_9 : decode cX9_brings 9 = .ok (.iload_n 2, 1) := by decide +kernel
theorem dX9_brings_10 : decode cX9_brings 10 = .ok (.iaload, 1) := by decide +kernel
theorem dX9_brings_11 : decode cX9_brings 11 = .ok (.imul, 1) := by decide +kernel
theorem dX9_brings_12 : decode cX9_brings 12 = .ok (.iload_n 1, 1) := by decide +kernel
theorem dX9_brings_13 : decode cX9_brings 13 = .ok (.iadd, 1) := by decide +kernel
theorem dX9_brings_14 : decode cX9_brings 14 = .ok (.iaload, 1) := by decide +kernel
theorem dX9_brings_15 : decode cX9_brings 15 = .ok (.i2l, 1) := by decide +kernel
theorem dX9_brings_16 : decode cX9_brings 16 = .ok (.bipush 8, 2) := by decide +kernel
theorem dX9_brings_18 : decode cX9_brings 18 = .ok (.aload_n 0, 1) := by decide +kernel
theorem dX9_brings_19 : decode cX9_brings 19 = .ok (.getfield 63, 3) := by decide +kernel
theorem dX9_brings_22 : decode cX9_brings 22 = .ok (.iload_n 2, 1) := by decide +kernel
theorem dX9_brings_23 : decode cX9_brings 23 = .ok (.iaload, 1) := by decide +kernel
theorem dX9_brings_24 : decode cX9_brings 24 = .ok (.imul, 1) := by decide +kernel
theorem dX9_brings_25 : decode cX9_brings 25 = .ok (.lshl, 1) := by decide +kernel
theorem dX9_brings_26 : decode cX9_brings 26 = .ok (.aload_n 0, 1) := by decide +kernel
theorem dX9_brings_27 : decode cX9_brings 27 = .ok (.getfield 29, 3) := by decide +kernel
theorem dX9_brings_30 : decode cX9_brings 30 = .ok (.iload_n 2, 1) := by decide +kernel
theorem dX9_brings_31 : decode cX9_brings 31 = .ok (.laload, 1) := by decide +kernel
theorem dX9_brings_32 : decode cX9_brings 32 = .ok (.ldc2_w 103, 3) := by decide +kernel
theorem dX9_brings_35 : decode cX9_brings 35 = .ok (.lxor, 1) := by decide +kernel
theorem dX9_brings_36 : decode cX9_brings 36 = .ok (.land, 1) := by decide +kernel
theorem dX9_brings_37 : decode cX9_brings 37 = .ok (.lreturn, 1) := by decide +kernel
set_option maxRecDepth 20000 in
theorem ggX9_comes_X9_brings : GoodIn wsX9_comes wsX9_brings := goodIn_r _ [13, 14, 15, 16, 17, 18, 19, 20, 21, 22, 23, 24, 25, 26, 27, 28, 29, 30, 31, 32, 33, 34, 35, 36, 37, 38, 39, 40, 41, 42, 43, 44, 45, 46, 47] (by decide +kernel) (by decide +kernel)
set_option maxRecDepth 20000 in
theorem gX9_comes_X9_brings : GoodIn wsX9_comes (wsV RX9 128 RX9 yX9_brings wsX9_brings) := goodIn_app (goodIn_of _ (by decide +kernel)) ggX9_comes_X9_brings
theorem dX9_comes_0 : decode cX9_comes 0 = .ok (.iconst 0, 1) := by decide +kernel
theorem dX9_comes_1 : decode cX9_comes 1 = .ok (.istore_n 2, 1) := by decide +kernel
theorem dX9_comes_2 : decode cX9_comes 2 = .ok (.iload_n 2, 1) := by decide +kernel
theorem dX9_comes_3 : decode cX9_comes 3 = .ok (.aload_n 0, 1) := by decide +kernel
theorem dX9_comes_4 : decode cX9_comes 4 = .ok (.getfield 87, 3) := by decide +kernel
theorem dX9_comes_7 : decode cX9_comes 7 = .ok (.if_icmp .ge 21, 3) := by decide +kernel
theorem dX9_comes_10 : decode cX9_comes 10 = .ok (.aload_n 0, 1) := by decide +kernel
theorem dX9_comes_11 : decode cX9_comes 11 = .ok (.getfield 66, 3) := by decide +kernel
theorem dX9_comes_14 : decode cX9_comes 14 = .ok (.iload_n 2, 1) := by decide +kernel
theorem dX9_comes_15 : decode cX9_comes 15 = .ok (.aload_n 0, 1) := by decide +kernel
theorem dX9_comes_16 : decode cX9_comes 16 = .ok (.iload_n 1, 1) := by decide +kernel
theorem dX9_comes_17 : decode cX9_comes 17 = .ok (.iload_n 2, 1) := by decide +kernel
theorem dX9_comes_18 : decode cX9_comes 18 = .ok (.invokevirtual 128, 3) := by decide +kernel
theorem dX9_comes_21 : decode cX9_comes 21 = .ok (.lastore, 1) := by decide +kernel
theorem dX9_comes_22 : decode cX9_comes 22 = .ok (.iinc 2 1, 3) := by decide +kernel
theorem dX9_comes_25 : decode cX9_comes 25 = .ok (.goto (-23), 3) := by decide +kernel
theorem dX9_comes_28 : decode cX9_comes 28 = .ok (.iconst 0, 1) := by decide +kernel
theorem dX9_comes_29 : decode cX9_comes 29 = .ok (.istore_n 2, 1) := by decide +kernel
theorem dX9_comes_30 : decode cX9_comes 30 = .ok (.iload_n 2, 1) := by decide +kernel
theorem dX9_comes_31 : decode cX9_comes 31 = .ok (.aload_n 0, 1) := by decide +kernel
theorem dX9_comes_32 : decode cX9_comes 32 = .ok (.getfield 125, 3) := by decide +kernel
theorem dX9_comes_35 : decode cX9_comes 35 = .ok (.if_icmp .ge 53, 3) := by decide +kernel
theorem dX9_comes_38 : decode cX9_comes 38 = .ok (.aload_n 0, 1) := by decide +kernel
theorem dX9_comes_39 : decode cX9_comes 39 = .ok (.getfield 69, 3) := by decide +kernel
theorem dX9_comes_42 : decode cX9_comes 42 = .ok (.iload_n 2, 1) := by decide +kernel
theorem dX9_comes_43 : decode cX9_comes 43 = .ok (.iaload, 1) := by decide +kernel
theorem dX9_comes_44 : decode cX9_comes 44 = .ok (.istore_n 3, 1) := by decide +kernel
theorem dX9_comes_45 : decode cX9_comes 45 = .ok (.aload_n 0, 1) := by decide +kernel
theorem dX9_comes_46 : decode cX9_comes 46 = .ok (.getfield 66, 3) := by decide +kernel
theorem dX9_comes_49 : decode cX9_comes 49 = .ok (.aload_n 0, 1) := by decide +kernel
theorem dX9_comes_50 : decode cX9_comes 50 = .ok (.getfield 35, 3) := by decide +kernel
theorem dX9_comes_53 : decode cX9_comes 53 = .ok (.iload_n 3, 1) := by decide +kernel
theorem dX9_comes_54 : decode cX9_comes 54 = .ok (.iaload, 1) := by decide +kernel
theorem dX9_comes_55 : decode cX9_comes 55 = .ok (.dup2, 1) := by decide +kernel
theorem dX9_comes_56 : decode cX9_comes 56 = .ok (.laload, 1) := by decide +kernel
theorem dX9_comes_57 : decode cX9_comes 57 = .ok (.aload_n 0, 1) := by decide +kernel
theorem dX9_comes_58 : decode cX9_comes 58 = .ok (.getfield 66, 3) := by decide +kernel
theorem dX9_comes_61 : decode cX9_comes 61 = .ok (.aload_n 0, 1) := by decide +kernel
theorem dX9_comes_62 : decode cX9_comes 62 = .ok (.getfield 32, 3) := by decide +kernel
theorem dX9_comes_65 : decode cX9_comes 65 = .ok (.iload_n 3, 1) := by decide +kernel
theorem dX9_comes_66 : decode cX9_comes 66 = .ok (.iaload, 1) := by decide +kernel
theorem dX9_comes_67 : decode cX9_comes 67 = .ok (.laload, 1) := by decide +kernel
theorem dX9_comes_68 : decode cX9_comes 68 = .ok (.aload_n 0, 1) := by decide +kernel
theorem dX9_comes_69 : decode cX9_comes 69 = .ok (.getfield 13, 3) := by decide +kernel
theorem dX9_comes_72 : decode cX9_comes 72 = .ok (.aload_n 0, 1) := by decide +kernel
theorem dX9_comes_73 : decode cX9_comes 73 = .ok (.getfield 38, 3) := by decide +kernel
theorem dX9_comes_76 : decode cX9_comes 76 = .ok (.iload_n 3, 1) := by decide +kernel
theorem dX9_comes_77 : decode cX9_comes 77 = .ok (.iaload, 1) := by decide +kernel
theorem dX9_comes_78 : decode cX9_comes 78 = .ok (.laload, 1) := by decide +kernel
theorem dX9_comes_79 : decode cX9_comes 79 = .ok (.land, 1) := by decide +kernel
theorem dX9_comes_80 : decode cX9_comes 80 = .ok (.lor, 1) := by decide +kernel
theorem dX9_comes_81 : decode cX9_comes 81 = .ok (.lastore, 1) := by decide +kernel
theorem dX9_comes_82 : decode cX9_comes 82 = .ok (.iinc 2 1, 3) := by decide +kernel
theorem dX9_comes_85 : decode cX9_comes 85 = .ok (.goto (-55), 3) := by decide +kernel
theorem dX9_comes_88 : decode cX9_comes 88 = .ok (.return_, 1) := by decide +kernel
theorem dX9_bits_0 : decode cX9_bits 0 = .ok (.iconst 0, 1) := by decide +kernel
theorem dX9_bits_1 : decode cX9_bits 1 = .ok (.istore_n 2, 1) := by decide +kernel
theorem dX9_bits_2 : decode cX9_bits 2 = .ok (.lload_n 0, 1) := by decide +kernel
theorem dX9_bits_3 : decode cX9_bits 3 = .ok (.lstore_n 3, 1) := by decide +kernel
theorem dX9_bits_4 : decode cX9_bits 4 = .ok (.lload_n 3, 1) := by decide +kernel
theorem dX9_bits_5 : decode cX9_bits 5 = .ok (.lconst 0, 1) := by decide +kernel
theorem dX9_bits_6 : decode cX9_bits 6 = .ok (.lcmp, 1) := by decide +kernel
theorem dX9_bits_7 : decode cX9_bits 7 = .ok (.ifCond .eq 15, 3) := by decide +kernel
theorem dX9_bits_10 : decode cX9_bits 10 = .ok (.iinc 2 1, 3) := by decide +kernel
theorem dX9_bits_13 : decode cX9_bits 13 = .ok (.lload_n 3, 1) := by decide +kernel
theorem dX9_bits_14 : decode cX9_bits 14 = .ok (.lload_n 3, 1) := by decide +kernel
theorem dX9_bits_15 : decode cX9_bits 15 = .ok (.lconst 1, 1) := by decide +kernel
theorem dX9_bits_16 : decode cX9_bits 16 = .ok (.lsub, 1) := by decide +kernel
theorem dX9_bits_17 : decode cX9_bits 17 = .ok (.land, 1) := by decide +kernel
theorem dX9_bits_18 : decode cX9_bits 18 = .ok (.lstore_n 3, 1) := by decide +kernel
theorem dX9_bits_19 : decode cX9_bits 19 = .ok (.goto (-15), 3) := by decide +kernel
theorem dX9_bits_22 : decode cX9_bits 22 = .ok (.iload_n 2, 1) := by decide +kernel
theorem dX9_bits_23 : decode cX9_bits 23 = .ok (.ireturn, 1) := by decide +kernel
theorem dX9_bars__0 : decode cX9_bars_ 0 = .ok (.lconst 0, 1) := by decide +kernel
theorem dX9_bars__1 : decode cX9_bars_ 1 = .ok (.lstore_n 2, 1) := by decide +kernel
theorem dX9_bars__2 : decode cX9_bars_ 2 = .ok (.iconst 0, 1) := by decide +kernel
theorem dX9_bars__3 : decode cX9_bars_ 3 = .ok (.istore 4, 2) := by decide +kernel
theorem dX9_bars__5 : decode cX9_bars_ 5 = .ok (.iload 4, 2) := by decide +kernel
theorem dX9_bars__7 : decode cX9_bars_ 7 = .ok (.bipush 8, 2) := by decide +kernel
theorem dX9_bars__9 : decode cX9_bars_ 9 = .ok (.if_icmp .ge 31, 3) := by decide +kernel
theorem dX9_bars__12 : decode cX9_bars_ 12 = .ok (.iload 4, 2) := by decide +kernel
theorem dX9_bars__14 : decode cX9_bars_ 14 = .ok (.iload_n 1, 1) := by decide +kernel
theorem dX9_bars__15 : decode cX9_bars_ 15 = .ok (.if_icmp .eq 19, 3) := by decide +kernel
theorem dX9_bars__18 : decode cX9_bars_ 18 = .ok (.lload_n 2, 1) := by decide +kernel
theorem dX9_bars__19 : decode cX9_bars_ 19 = .ok (.aload_n 0, 1) := by decide +kernel
theorem dX9_bars__20 : decode cX9_bars_ 20 = .ok (.getfield 17, 3) := by decide +kernel
theorem dX9_bars__23 : decode cX9_bars_ 23 = .ok (.iload_n 1, 1) := by decide +kernel
theorem dX9_bars__24 : decode cX9_bars_ 24 = .ok (.iaload, 1) := by decide +kernel
theorem dX9_bars__25 : decode cX9_bars_ 25 = .ok (.i2l, 1) := by decide +kernel
theorem dX9_bars__26 : decode cX9_bars_ 26 = .ok (.bipush 8, 2) := by decide +kernel
theorem dX9_bars__28 : decode cX9_bars_ 28 = .ok (.iload 4, 2) := by decide +kernel
theorem dX9_bars__30 : decode cX9_bars_ 30 = .ok (.imul, 1) := by decide +kernel
theorem dX9_bars__31 : decode cX9_bars_ 31 = .ok (.lshl, 1) := by decide +kernel
theorem dX9_bars__32 : decode cX9_bars_ 32 = .ok (.lor, 1) := by decide +kernel
theorem dX9_bars__33 : decode cX9_bars_ 33 = .ok (.lstore_n 2, 1) := by decide +kernel
theorem dX9_bars__34 : decode cX9_bars_ 34 = .ok (.iinc 4 1, 3) := by decide +kernel
theorem dX9_bars__37 : decode cX9_bars_ 37 = .ok (.goto (-32), 3) := by decide +kernel
theorem dX9_bars__40 : decode cX9_bars_ 40 = .ok (.lload_n 2, 1) := by decide +kernel
theorem dX9_bars__41 : decode cX9_bars_ 41 = .ok (.lreturn, 1) := by decide +kernel
set_option maxRecDepth 20000 in
theorem ggX9_quarrelsNow_X9_bars_ : GoodIn wsX9_quarrelsNow wsX9_bars_ := goodIn_r _ [9, 10, 14, 15, 16, 17, 18, 19, 20, 21, 22, 23, 24, 25, 26, 27, 28, 29, 30, 31, 32, 33, 34, 35, 36, 37, 38, 39, 40, 41, 42, 43] (by decide +kernel) (by decide +kernel)
set_option maxRecDepth 20000 in
theorem gX9_quarrelsNow_X9_bars_ : GoodIn wsX9_quarrelsNow (wsV RX9 131 RX9 yX9_bars_ wsX9_bars_) := goodIn_app (goodIn_of _ (by decide +kernel)) ggX9_quarrelsNow_X9_bars_
set_option maxRecDepth 20000 in
theorem ggX9_quarrelsNow_X9_bits : GoodIn wsX9_quarrelsNow wsX9_bits := goodIn_r _ [13] (by decide +kernel) (by decide +kernel)
set_option maxRecDepth 20000 in
theorem gX9_quarrelsNow_X9_bits : GoodIn wsX9_quarrelsNow (va_wsS RX9 135 yX9_bits wsX9_bits) := goodIn_app (goodIn_of _ (by decide +kernel)) ggX9_quarrelsNow_X9_bits
theorem dX9_quarrelsNow_0 : decode cX9_quarrelsNow 0 = .ok (.iconst 0, 1) := by decide +kernel
theorem dX9_quarrelsNow_1 : decode cX9_quarrelsNow 1 = .ok (.istore_n 1, 1) := by decide +kernel
theorem dX9_quarrelsNow_2 : decode cX9_quarrelsNow 2 = .ok (.iconst 0, 1) := by decide +kernel
theorem dX9_quarrelsNow_3 : decode cX9_quarrelsNow 3 = .ok (.istore_n 2, 1) := by decide +kernel
theorem dX9_quarrelsNow_4 : decode cX9_quarrelsNow 4 = .ok (.iload_n 2, 1) := by decide +kernel
theorem dX9_quarrelsNow_5 : decode cX9_quarrelsNow 5 = .ok (.aload_n 0, 1) := by decide +kernel
theorem dX9_quarrelsNow_6 : decode cX9_quarrelsNow 6 = .ok (.getfield 87, 3) := by decide +kernel
theorem dX9_quarrelsNow_9 : decode cX9_quarrelsNow 9 = .ok (.if_icmp .ge 41, 3) := by decide +kernel
theorem dX9_quarrelsNow_12 : decode cX9_quarrelsNow 12 = .ok (.aload_n 0, 1) := by decide +kernel
theorem dX9_quarrelsNow_13 : decode cX9_quarrelsNow 13 = .ok (.getfield 57, 3) := by decide +kernel
theorem dX9_quarrelsNow_16 : decode cX9_quarrelsNow 16 = .ok (.iload_n 2, 1) := by decide +kernel
theorem dX9_quarrelsNow_17 : decode cX9_quarrelsNow 17 = .ok (.baload, 1) := by decide +kernel
theorem dX9_quarrelsNow_18 : decode cX9_quarrelsNow 18 = .ok (.ifCond .eq 26, 3) := by decide +kernel
theorem dX9_quarrelsNow_21 : decode cX9_quarrelsNow 21 = .ok (.iload_n 1, 1) := by decide +kernel
theorem dX9_quarrelsNow_22 : decode cX9_quarrelsNow 22 = .ok (.aload_n 0, 1) := by decide +kernel
theorem dX9_quarrelsNow_23 : decode cX9_quarrelsNow 23 = .ok (.getfield 66, 3) := by decide +kernel
theorem dX9_quarrelsNow_26 : decode cX9_quarrelsNow 26 = .ok (.iload_n 2, 1) := by decide +kernel
theorem dX9_quarrelsNow_27 : decode cX9_quarrelsNow 27 = .ok (.laload, 1) := by decide +kernel
theorem dX9_quarrelsNow_28 : decode cX9_quarrelsNow 28 = .ok (.aload_n 0, 1) := by decide +kernel
theorem dX9_quarrelsNow_29 : decode cX9_quarrelsNow 29 = .ok (.aload_n 0, 1) := by decide +kernel
theorem dX9_quarrelsNow_30 : decode cX9_quarrelsNow 30 = .ok (.getfield 63, 3) := by decide +kernel
theorem dX9_quarrelsNow_33 : decode cX9_quarrelsNow 33 = .ok (.iload_n 2, 1) := by decide +kernel
theorem dX9_quarrelsNow_34 : decode cX9_quarrelsNow 34 = .ok (.iaload, 1) := by decide +kernel
theorem dX9_quarrelsNow_35 : decode cX9_quarrelsNow 35 = .ok (.invokevirtual 131, 3) := by decide +kernel
theorem dX9_quarrelsNow_38 : decode cX9_quarrelsNow 38 = .ok (.land, 1) := by decide +kernel
theorem dX9_quarrelsNow_39 : decode cX9_quarrelsNow 39 = .ok (.invokestatic 135, 3) := by decide +kernel
theorem dX9_quarrelsNow_42 : decode cX9_quarrelsNow 42 = .ok (.iadd, 1) := by decide +kernel
theorem dX9_quarrelsNow_43 : decode cX9_quarrelsNow 43 = .ok (.istore_n 1, 1) := by decide +kernel
theorem dX9_quarrelsNow_44 : decode cX9_quarrelsNow 44 = .ok (.iinc 2 1, 3) := by decide +kernel
theorem dX9_quarrelsNow_47 : decode cX9_quarrelsNow 47 = .ok (.goto (-43), 3) := by decide +kernel
theorem dX9_quarrelsNow_50 : decode cX9_quarrelsNow 50 = .ok (.iload_n 1, 1) := by decide +kernel
theorem dX9_quarrelsNow_51 : decode cX9_quarrelsNow 51 = .ok (.ireturn, 1) := by decide +kernel
set_option maxRecDepth 20000 in
theorem ggX9_works_X9_asItIs : GoodIn wsX9_works wsX9_asItIs := goodIn_r _ [6, 7, 8, 9, 10, 11, 12, 13, 42, 43, 44, 45, 46, 47, 48, 49, 50, 51, 52, 53, 54, 55, 56, 57, 58, 59, 60, 61, 62, 63, 64, 65, 66, 67, 68, 69, 70, 71] (by decide +kernel) (by decide +kernel)
set_option maxRecDepth 20000 in
theorem gX9_works_X9_asItIs : GoodIn wsX9_works (wsV RX9 111 RX9 yX9_asItIs wsX9_asItIs) := goodIn_app (goodIn_of _ (by decide +kernel)) ggX9_works_X9_asItIs
set_option maxRecDepth 20000 in
theorem ggX9_works_X9_orders : GoodIn wsX9_works wsX9_orders := goodIn_r _ [17, 18, 10, 7, 8, 19, 20, 21, 22, 42, 43, 44, 45, 46, 47, 48, 49, 50, 51, 52, 53, 54, 55, 56, 57, 58, 59, 60, 61, 62, 63, 64, 65, 66, 67, 68, 69, 70, 71] (by decide +kernel) (by decide +kernel)
set_option maxRecDepth 20000 in
theorem gX9_works_X9_orders : GoodIn wsX9_works (wsV RX9 139 RX9 yX9_orders wsX9_orders) := goodIn_app (goodIn_of _ (by decide +kernel)) ggX9_works_X9_orders
set_option maxRecDepth 20000 in
theorem ggX9_works_X9_reaches : GoodIn wsX9_works wsX9_reaches := goodIn_r _ [26, 27, 7, 8, 19, 20, 42, 43, 44, 45, 46, 47, 48, 49, 50, 51, 52, 53, 54, 55, 56, 57, 58, 59, 60, 61, 62, 63, 64, 65, 66, 67, 68, 69, 70, 71] (by decide +kernel) (by decide +kernel)
set_option maxRecDepth 20000 in
theorem gX9_works_X9_reaches : GoodIn wsX9_works (wsV RX9 114 RX9 yX9_reaches wsX9_reaches) := goodIn_app (goodIn_of _ (by decide +kernel)) ggX9_works_X9_reaches
set_option maxRecDepth 20000 in
theorem ggX9_works_X9_comes : GoodIn wsX9_works wsX9_comes := goodIn_r _ [31, 10, 32, 21, 22, 19, 20, 33, 34, 35, 36, 37, 5, 38, 39, 11, 40, 41, 42, 43, 44, 45, 46, 47, 48, 49, 50, 51, 52, 53, 54, 55, 56, 57, 58, 59, 60, 61, 62, 63, 64, 65, 66, 67, 68, 69, 70, 71] (by decide +kernel) (by decide +kernel)
set_option maxRecDepth 20000 in
theorem gX9_works_X9_comes : GoodIn wsX9_works (wsV RX9 142 RX9 yX9_comes wsX9_comes) := goodIn_app (goodIn_of _ (by decide +kernel)) ggX9_works_X9_comes
theorem dX9_works_0 : decode cX9_works 0 = .ok (.aload_n 0, 1) := by decide +kernel
theorem dX9_works_1 : decode cX9_works 1 = .ok (.invokevirtual 111, 3) := by decide +kernel
theorem dX9_works_4 : decode cX9_works 4 = .ok (.aload_n 0, 1) := by decide +kernel
theorem dX9_works_5 : decode cX9_works 5 = .ok (.invokevirtual 139, 3) := by decide +kernel
theorem dX9_works_8 : decode cX9_works 8 = .ok (.aload_n 0, 1) := by decide +kernel
theorem dX9_works_9 : decode cX9_works 9 = .ok (.aload_n 0, 1) := by decide +kernel
theorem dX9_works_10 : decode cX9_works 10 = .ok (.getfield 118, 3) := by decide +kernel
theorem dX9_works_13 : decode cX9_works 13 = .ok (.invokevirtual 114, 3) := by decide +kernel
theorem dX9_works_16 : decode cX9_works 16 = .ok (.aload_n 0, 1) := by decide +kernel
theorem dX9_works_17 : decode cX9_works 17 = .ok (.iload_n 1, 1) := by decide +kernel
theorem dX9_works_18 : decode cX9_works 18 = .ok (.invokevirtual 142, 3) := by decide +kernel
theorem dX9_works_21 : decode cX9_works 21 = .ok (.return_, 1) := by decide +kernel
set_option maxRecDepth 20000 in
theorem ggX9_come_X9_isShipping : GoodIn wsX9_come wsX9_isShipping := goodIn_r _ [6, 7, 8, 5, 9] (by decide +kernel) (by decide +kernel)
set_option maxRecDepth 20000 in
theorem gX9_come_X9_isShipping : GoodIn wsX9_come (va_wsS RX9 145 yX9_isShipping wsX9_isShipping) := goodIn_app (goodIn_of _ (by decide +kernel)) ggX9_come_X9_isShipping
set_option maxRecDepth 20000 in
theorem ggX9_come_X9_isPart : GoodIn wsX9_come wsX9_isPart := goodIn_r _ [13, 14, 7, 8, 5, 9, 60, 61, 62, 63, 64, 65, 66, 67, 68, 69, 70, 71, 72, 73, 74, 75, 76, 77, 78, 79, 80, 81, 82, 83, 84, 85, 86, 87, 88, 89] (by decide +kernel) (by decide +kernel)
set_option maxRecDepth 20000 in
theorem gX9_come_X9_isPart : GoodIn wsX9_come (wsV RX9 105 RX9 yX9_isPart wsX9_isPart) := goodIn_app (goodIn_of _ (by decide +kernel)) ggX9_come_X9_isPart
set_option maxRecDepth 20000 in
theorem ggX9_come_X9_isLicence : GoodIn wsX9_come wsX9_isLicence := goodIn_r _ [17, 7, 8, 5, 9] (by decide +kernel) (by decide +kernel)
set_option maxRecDepth 20000 in
theorem gX9_come_X9_isLicence : GoodIn wsX9_come (va_wsS RX9 95 yX9_isLicence wsX9_isLicence) := goodIn_app (goodIn_of _ (by decide +kernel)) ggX9_come_X9_isLicence
set_option maxRecDepth 20000 in
theorem ggX9_come_X9_works : GoodIn wsX9_come wsX9_works := goodIn_r _ [21, 22, 23, 24, 25, 5, 26, 27, 28, 29, 14, 30, 31, 32, 33, 34, 35, 36, 37, 38, 39, 40, 41, 42, 43, 44, 45, 46, 47, 48, 49, 50, 1, 51, 52, 53, 54, 55, 56, 57, 58, 59, 60, 61, 62, 63, 64, 65, 66, 67, 68, 69, 70, 71, 72, 73, 74, 75, 76, 77, 78, 79, 80, 81, 82, 83, 84, 85, 86, 87, 88, 89] (by decide +kernel) (by decide +kernel)
set_option maxRecDepth 20000 in
theorem gX9_come_X9_works : GoodIn wsX9_come (wsV RX9 148 RX9 yX9_works wsX9_works) := goodIn_app (goodIn_of _ (by decide +kernel)) ggX9_come_X9_works
theorem dX9_come_0 : decode cX9_come 0 = .ok (.iload_n 1, 1) := by decide +kernel
theorem dX9_come_1 : decode cX9_come 1 = .ok (.invokestatic 145, 3) := by decide +kernel
theorem dX9_come_4 : decode cX9_come 4 = .ok (.ifCond .eq 18, 3) := by decide +kernel
theorem dX9_come_7 : decode cX9_come 7 = .ok (.aload_n 0, 1) := by decide +kernel
theorem dX9_come_8 : decode cX9_come 8 = .ok (.iload_n 2, 1) := by decide +kernel
theorem dX9_come_9 : decode cX9_come 9 = .ok (.invokevirtual 105, 3) := by decide +kernel
theorem dX9_come_12 : decode cX9_come 12 = .ok (.ifCond .eq 10, 3) := by decide +kernel
theorem dX9_come_15 : decode cX9_come 15 = .ok (.iload_n 3, 1) := by decide +kernel
theorem dX9_come_16 : decode cX9_come 16 = .ok (.invokestatic 95, 3) := by decide +kernel
theorem dX9_come_19 : decode cX9_come 19 = .ok (.ifCond .ne 5, 3) := by decide +kernel
theorem dX9_come_22 : decode cX9_come 22 = .ok (.iconst (-1), 1) := by decide +kernel
theorem dX9_come_23 : decode cX9_come 23 = .ok (.ireturn, 1) := by decide +kernel
theorem dX9_come_24 : decode cX9_come 24 = .ok (.aload_n 0, 1) := by decide +kernel
theorem dX9_come_25 : decode cX9_come 25 = .ok (.iload_n 1, 1) := by decide +kernel
theorem dX9_come_26 : decode cX9_come 26 = .ok (.invokevirtual 148, 3) := by decide +kernel
theorem dX9_come_29 : decode cX9_come 29 = .ok (.aload_n 0, 1) := by decide +kernel
theorem dX9_come_30 : decode cX9_come 30 = .ok (.getfield 66, 3) := by decide +kernel
theorem dX9_come_33 : decode cX9_come 33 = .ok (.iload_n 2, 1) := by decide +kernel
theorem dX9_come_34 : decode cX9_come 34 = .ok (.laload, 1) := by decide +kernel
theorem dX9_come_35 : decode cX9_come 35 = .ok (.bipush 8, 2) := by decide +kernel
theorem dX9_come_37 : decode cX9_come 37 = .ok (.iload_n 3, 1) := by decide +kernel
theorem dX9_come_38 : decode cX9_come 38 = .ok (.imul, 1) := by decide +kernel
theorem dX9_come_39 : decode cX9_come 39 = .ok (.lshr, 1) := by decide +kernel
theorem dX9_come_40 : decode cX9_come 40 = .ok (.ldc2_w 151, 3) := by decide +kernel
theorem dX9_come_43 : decode cX9_come 43 = .ok (.land, 1) := by decide +kernel
theorem dX9_come_44 : decode cX9_come 44 = .ok (.l2i, 1) := by decide +kernel
theorem dX9_come_45 : decode cX9_come 45 = .ok (.ireturn, 1) := by decide +kernel
set_option maxRecDepth 20000 in
theorem ggX9_quarrels_X9_isShipping : GoodIn wsX9_quarrels wsX9_isShipping := goodIn_r _ [4, 5, 6, 3, 7] (by decide +kernel) (by decide +kernel)
set_option maxRecDepth 20000 in
theorem gX9_quarrels_X9_isShipping : GoodIn wsX9_quarrels (va_wsS RX9 145 yX9_isShipping wsX9_isShipping) := goodIn_app (goodIn_of _ (by decide +kernel)) ggX9_quarrels_X9_isShipping
set_option maxRecDepth 20000 in
theorem ggX9_quarrels_X9_works : GoodIn wsX9_quarrels wsX9_works := goodIn_r _ [11, 12, 13, 14, 15, 3, 16, 17, 18, 19, 20, 21, 22, 23, 24, 25, 26, 27, 28, 29, 30, 31, 32, 33, 34, 35, 36, 37, 38, 39, 40, 41, 42, 43, 44, 45, 46, 47, 48, 49, 50, 51, 64, 65, 66, 67, 68, 69, 70, 71, 72, 73, 74, 75, 76, 77, 78, 79, 80, 81, 82, 83, 84, 85, 86, 87, 88, 89, 90, 91, 92, 93] (by decide +kernel) (by decide +kernel)
set_option maxRecDepth 20000 in
theorem gX9_quarrels_X9_works : GoodIn wsX9_quarrels (wsV RX9 148 RX9 yX9_works wsX9_works) := goodIn_app (goodIn_of _ (by decide +kernel)) ggX9_quarrels_X9_works
set_option maxRecDepth 20000 in
theorem ggX9_quarrels_X9_quarrelsNow : GoodIn wsX9_quarrels wsX9_quarrelsNow := goodIn_r _ [55, 20, 37, 42, 21, 56, 57, 58, 3, 59, 60, 61, 62, 63, 64, 65, 66, 67, 68, 69, 70, 71, 72, 73, 74, 75, 76, 77, 78, 79, 80, 81, 82, 83, 84, 85, 86, 87, 88, 89, 90, 91, 92, 93] (by decide +kernel) (by decide +kernel)
set_option maxRecDepth 20000 in
theorem gX9_quarrels_X9_quarrelsNow : GoodIn wsX9_quarrels (wsV RX9 153 RX9 yX9_quarrelsNow wsX9_quarrelsNow) := goodIn_app (goodIn_of _ (by decide +kernel)) ggX9_quarrels_X9_quarrelsNow
theorem dX9_quarrels_0 : decode cX9_quarrels 0 = .ok (.iload_n 1, 1) := by decide +kernel
theorem dX9_quarrels_1 : decode cX9_quarrels 1 = .ok (.invokestatic 145, 3) := by decide +kernel
theorem dX9_quarrels_4 : decode cX9_quarrels 4 = .ok (.ifCond .ne 5, 3) := by decide +kernel
theorem dX9_quarrels_7 : decode cX9_quarrels 7 = .ok (.iconst (-1), 1) := by decide +kernel
theorem dX9_quarrels_8 : decode cX9_quarrels 8 = .ok (.ireturn, 1) := by decide +kernel
theorem dX9_quarrels_9 : decode cX9_quarrels 9 = .ok (.aload_n 0, 1) := by decide +kernel
theorem dX9_quarrels_10 : decode cX9_quarrels 10 = .ok (.iload_n 1, 1) := by decide +kernel
theorem dX9_quarrels_11 : decode cX9_quarrels 11 = .ok (.invokevirtual 148, 3) := by decide +kernel
theorem dX9_quarrels_14 : decode cX9_quarrels 14 = .ok (.aload_n 0, 1) := by decide +kernel
theorem dX9_quarrels_15 : decode cX9_quarrels 15 = .ok (.invokevirtual 153, 3) := by decide +kernel
theorem dX9_quarrels_18 : decode cX9_quarrels 18 = .ok (.ireturn, 1) := by decide +kernel
set_option maxRecDepth 20000 in
theorem ggX9_quarrel_X9_isShipping : GoodIn wsX9_quarrel wsX9_isShipping := goodIn_r _ [8, 9, 10, 7, 11] (by decide +kernel) (by decide +kernel)
set_option maxRecDepth 20000 in
theorem gX9_quarrel_X9_isShipping : GoodIn wsX9_quarrel (va_wsS RX9 145 yX9_isShipping wsX9_isShipping) := goodIn_app (goodIn_of _ (by decide +kernel)) ggX9_quarrel_X9_isShipping
set_option maxRecDepth 20000 in
theorem ggX9_quarrel_X9_works : GoodIn wsX9_quarrel wsX9_works := goodIn_r _ [15, 16, 17, 18, 19, 7, 20, 21, 22, 23, 1, 4, 24, 25, 26, 27, 28, 29, 30, 31, 32, 33, 34, 35, 36, 37, 38, 2, 39, 40, 41, 42, 3, 43, 44, 45, 46, 47, 48, 49, 50, 51, 57, 58, 59, 60, 61, 62, 63, 64, 65, 66, 67, 68, 69, 70, 71, 72, 73, 74, 75, 76, 77, 78, 79, 80, 81, 82, 83, 84, 85, 86] (by decide +kernel) (by decide +kernel)
set_option maxRecDepth 20000 in
theorem gX9_quarrel_X9_works : GoodIn wsX9_quarrel (wsV RX9 148 RX9 yX9_works wsX9_works) := goodIn_app (goodIn_of _ (by decide +kernel)) ggX9_quarrel_X9_works
set_option maxRecDepth 20000 in
theorem ggX9_quarrel_X9_bars_ : GoodIn wsX9_quarrel wsX9_bars_ := goodIn_r _ [55, 56, 57, 58, 59, 60, 61, 62, 63, 64, 65, 66, 67, 68, 69, 70, 71, 72, 73, 74, 75, 76, 77, 78, 79, 80, 81, 82, 83, 84, 85, 86] (by decide +kernel) (by decide +kernel)
set_option maxRecDepth 20000 in
theorem gX9_quarrel_X9_bars_ : GoodIn wsX9_quarrel (wsV RX9 131 RX9 yX9_bars_ wsX9_bars_) := goodIn_app (goodIn_of _ (by decide +kernel)) ggX9_quarrel_X9_bars_
theorem dX9_quarrel_0 : decode cX9_quarrel 0 = .ok (.iload_n 1, 1) := by decide +kernel
theorem dX9_quarrel_1 : decode cX9_quarrel 1 = .ok (.invokestatic 145, 3) := by decide +kernel
theorem dX9_quarrel_4 : decode cX9_quarrel 4 = .ok (.ifCond .eq 7, 3) := by decide +kernel
theorem dX9_quarrel_7 : decode cX9_quarrel 7 = .ok (.iload_n 2, 1) := by decide +kernel
theorem dX9_quarrel_8 : decode cX9_quarrel 8 = .ok (.ifCond .ge 5, 3) := by decide +kernel
theorem dX9_quarrel_11 : decode cX9_quarrel 11 = .ok (.iconst (-1), 1) := by decide +kernel
theorem dX9_quarrel_12 : decode cX9_quarrel 12 = .ok (.ireturn, 1) := by decide +kernel
theorem dX9_quarrel_13 : decode cX9_quarrel 13 = .ok (.aload_n 0, 1) := by decide +kernel
theorem dX9_quarrel_14 : decode cX9_quarrel 14 = .ok (.iload_n 1, 1) := by decide +kernel
theorem dX9_quarrel_15 : decode cX9_quarrel 15 = .ok (.invokevirtual 148, 3) := by decide +kernel
theorem dX9_quarrel_18 : decode cX9_quarrel 18 = .ok (.iconst 0, 1) := by decide +kernel
theorem dX9_quarrel_19 : decode cX9_quarrel 19 = .ok (.istore_n 3, 1) := by decide +kernel
theorem dX9_quarrel_20 : decode cX9_quarrel 20 = .ok (.iconst 0, 1) := by decide +kernel
theorem dX9_quarrel_21 : decode cX9_quarrel 21 = .ok (.istore 4, 2) := by decide +kernel
theorem dX9_quarrel_23 : decode cX9_quarrel 23 = .ok (.iload 4, 2) := by decide +kernel
theorem dX9_quarrel_25 : decode cX9_quarrel 25 = .ok (.aload_n 0, 1) := by decide +kernel
theorem dX9_quarrel_26 : decode cX9_quarrel 26 = .ok (.getfield 87, 3) := by decide +kernel
theorem dX9_quarrel_29 : decode cX9_quarrel 29 = .ok (.if_icmp .ge 92, 3) := by decide +kernel
theorem dX9_quarrel_32 : decode cX9_quarrel 32 = .ok (.aload_n 0, 1) := by decide +kernel
theorem dX9_quarrel_33 : decode cX9_quarrel 33 = .ok (.getfield 57, 3) := by decide +kernel
theorem dX9_quarrel_36 : decode cX9_quarrel 36 = .ok (.iload 4, 2) := by decide +kernel
theorem dX9_quarrel_38 : decode cX9_quarrel 38 = .ok (.baload, 1) := by decide +kernel
theorem dX9_quarrel_39 : decode cX9_quarrel 39 = .ok (.ifCond .eq 25, 3) := by decide +kernel
theorem dX9_quarrel_42 : decode cX9_quarrel 42 = .ok (.aload_n 0, 1) := by decide +kernel
theorem dX9_quarrel_43 : decode cX9_quarrel 43 = .ok (.getfield 66, 3) := by decide +kernel
theorem dX9_quarrel_46 : decode cX9_quarrel 46 = .ok (.iload 4, 2) := by decide +kernel
theorem dX9_quarrel_48 : decode cX9_quarrel 48 = .ok (.laload, 1) := by decide +kernel
theorem dX9_quarrel_49 : decode cX9_quarrel 49 = .ok (.aload_n 0, 1) := by decide +kernel
theorem dX9_quarrel_50 : decode cX9_quarrel 50 = .ok (.aload_n 0, 1) := by decide +kernel
theorem dX9_quarrel_51 : decode cX9_quarrel 51 = .ok (.getfield 63, 3) := by decide +kernel
theorem dX9_quarrel_54 : decode cX9_quarrel 54 = .ok (.iload 4, 2) := by decide +kernel
theorem dX9_quarrel_56 : decode cX9_quarrel 56 = .ok (.iaload, 1) := by decide +kernel
theorem dX9_quarrel_57 : decode cX9_quarrel 57 = .ok (.invokevirtual 131, 3) := by decide +kernel
theorem dX9_quarrel_60 : decode cX9_quarrel 60 = .ok (.land, 1) := by decide +kernel
theorem dX9_quarrel_61 : decode cX9_quarrel 61 = .ok (.goto 4, 3) := by decide +kernel
theorem dX9_quarrel_64 : decode cX9_quarrel 64 = .ok (.lconst 0, 1) := by decide +kernel
theorem dX9_quarrel_65 : decode cX9_quarrel 65 = .ok (.lstore 5, 2) := by decide +kernel
theorem dX9_quarrel_67 : decode cX9_quarrel 67 = .ok (.iconst 0, 1) := by decide +kernel
theorem dX9_quarrel_68 : decode cX9_quarrel 68 = .ok (.istore 7, 2) := by decide +kernel
theorem dX9_quarrel_70 : decode cX9_quarrel 70 = .ok (.iload 7, 2) := by decide +kernel
theorem dX9_quarrel_72 : decode cX9_quarrel 72 = .ok (.bipush 64, 2) := by decide +kernel
theorem dX9_quarrel_74 : decode cX9_quarrel 74 = .ok (.if_icmp .ge 41, 3) := by decide +kernel
theorem dX9_quarrel_77 : decode cX9_quarrel 77 = .ok (.lload 5, 2) := by decide +kernel
theorem dX9_quarrel_79 : decode cX9_quarrel 79 = .ok (.iload 7, 2) := by decide +kernel
theorem dX9_quarrel_81 : decode cX9_quarrel 81 = .ok (.lshr, 1) := by decide +kernel
theorem dX9_quarrel_82 : decode cX9_quarrel 82 = .ok (.lconst 1, 1) := by decide +kernel
theorem dX9_quarrel_83 : decode cX9_quarrel 83 = .ok (.land, 1) := by decide +kernel
theorem dX9_quarrel_84 : decode cX9_quarrel 84 = .ok (.lconst 0, 1) := by decide +kernel
theorem dX9_quarrel_85 : decode cX9_quarrel 85 = .ok (.lcmp, 1) := by decide +kernel
theorem dX9_quarrel_86 : decode cX9_quarrel 86 = .ok (.ifCond .ne 6, 3) := by decide +kernel
theorem dX9_quarrel_89 : decode cX9_quarrel 89 = .ok (.goto 20, 3) := by decide +kernel
theorem dX9_quarrel_92 : decode cX9_quarrel 92 = .ok (.iload_n 3, 1) := by decide +kernel
theorem dX9_quarrel_93 : decode cX9_quarrel 93 = .ok (.iload_n 2, 1) := by decide +kernel
theorem dX9_quarrel_94 : decode cX9_quarrel 94 = .ok (.if_icmp .ne 12, 3) := by decide +kernel
theorem dX9_quarrel_97 : decode cX9_quarrel 97 = .ok (.bipush 64, 2) := by decide +kernel
theorem dX9_quarrel_99 : decode cX9_quarrel 99 = .ok (.iload 4, 2) := by decide +kernel
theorem dX9_quarrel_101 : decode cX9_quarrel 101 = .ok (.imul, 1) := by decide +kernel
theorem dX9_quarrel_102 : decode cX9_quarrel 102 = .ok (.iload 7, 2) := by decide +kernel
theorem dX9_quarrel_104 : decode cX9_quarrel 104 = .ok (.iadd, 1) := by decide +kernel
theorem dX9_quarrel_105 : decode cX9_quarrel 105 = .ok (.ireturn, 1) := by decide +kernel
theorem dX9_quarrel_106 : decode cX9_quarrel 106 = .ok (.iinc 3 1, 3) := by decide +kernel
theorem dX9_quarrel_109 : decode cX9_quarrel 109 = .ok (.iinc 7 1, 3) := by decide +kernel
theorem dX9_quarrel_112 : decode cX9_quarrel 112 = .ok (.goto (-42), 3) := by decide +kernel
theorem dX9_quarrel_115 : decode cX9_quarrel 115 = .ok (.iinc 4 1, 3) := by decide +kernel
theorem dX9_quarrel_118 : decode cX9_quarrel 118 = .ok (.goto (-95), 3) := by decide +kernel
theorem dX9_quarrel_121 : decode cX9_quarrel 121 = .ok (.iconst (-1), 1) := by decide +kernel
theorem dX9_quarrel_122 : decode cX9_quarrel 122 = .ok (.ireturn, 1) := by decide +kernel
set_option maxRecDepth 20000 in
theorem ggX9_ways_X9_asItIs : GoodIn wsX9_ways wsX9_asItIs := goodIn_r _ [10, 11, 12, 13, 2, 14, 15, 16, 23, 24, 25, 26, 27, 28, 29, 30, 31, 32, 33, 34, 35, 36, 37, 38, 39, 40, 41, 42, 43, 44, 45, 46, 47, 48, 49, 50, 51, 52] (by decide +kernel) (by decide +kernel)
set_option maxRecDepth 20000 in
theorem gX9_ways_X9_asItIs : GoodIn wsX9_ways (wsV RX9 111 RX9 yX9_asItIs wsX9_asItIs) := goodIn_app (goodIn_of _ (by decide +kernel)) ggX9_ways_X9_asItIs
set_option maxRecDepth 20000 in
theorem ggX9_ways_X9_reaches : GoodIn wsX9_ways wsX9_reaches := goodIn_r _ [20, 3, 11, 12, 21, 22, 23, 24, 25, 26, 27, 28, 29, 30, 31, 32, 33, 34, 35, 36, 37, 38, 39, 40, 41, 42, 43, 44, 45, 46, 47, 48, 49, 50, 51, 52] (by decide +kernel) (by decide +kernel)
set_option maxRecDepth 20000 in
theorem gX9_ways_X9_reaches : GoodIn wsX9_ways (wsV RX9 114 RX9 yX9_reaches wsX9_reaches) := goodIn_app (goodIn_of _ (by decide +kernel)) ggX9_ways_X9_reaches
theorem dX9_ways_0 : decode cX9_ways 0 = .ok (.aload_n 0, 1) := by decide +kernel
theorem dX9_ways_1 : decode cX9_ways 1 = .ok (.invokevirtual 111, 3) := by decide +kernel
theorem dX9_ways_4 : decode cX9_ways 4 = .ok (.aload_n 0, 1) := by decide +kernel
theorem dX9_ways_5 : decode cX9_ways 5 = .ok (.aload_n 0, 1) := by decide +kernel
theorem dX9_ways_6 : decode cX9_ways 6 = .ok (.getfield 118, 3) := by decide +kernel
theorem dX9_ways_9 : decode cX9_ways 9 = .ok (.invokevirtual 114, 3) := by decide +kernel
theorem dX9_ways_12 : decode cX9_ways 12 = .ok (.lconst 1, 1) := by decide +kernel
theorem dX9_ways_13 : decode cX9_ways 13 = .ok (.lstore_n 1, 1) := by decide +kernel
theorem dX9_ways_14 : decode cX9_ways 14 = .ok (.iconst 0, 1) := by decide +kernel
theorem dX9_ways_15 : decode cX9_ways 15 = .ok (.istore_n 3, 1) := by decide +kernel
theorem dX9_ways_16 : decode cX9_ways 16 = .ok (.iload_n 3, 1) := by decide +kernel
theorem dX9_ways_17 : decode cX9_ways 17 = .ok (.aload_n 0, 1) := by decide +kernel
theorem dX9_ways_18 : decode cX9_ways 18 = .ok (.getfield 87, 3) := by decide +kernel
theorem dX9_ways_21 : decode cX9_ways 21 = .ok (.if_icmp .ge 40, 3) := by decide +kernel
theorem dX9_ways_24 : decode cX9_ways 24 = .ok (.aload_n 0, 1) := by decide +kernel
theorem dX9_ways_25 : decode cX9_ways 25 = .ok (.getfield 57, 3) := by decide +kernel
theorem dX9_ways_28 : decode cX9_ways 28 = .ok (.iload_n 3, 1) := by decide +kernel
theorem dX9_ways_29 : decode cX9_ways 29 = .ok (.baload, 1) := by decide +kernel
theorem dX9_ways_30 : decode cX9_ways 30 = .ok (.ifCond .eq 23, 3) := by decide +kernel
theorem dX9_ways_33 : decode cX9_ways 33 = .ok (.lload_n 1, 1) := by decide +kernel
theorem dX9_ways_34 : decode cX9_ways 34 = .ok (.ldc2_w 157, 3) := by decide +kernel
theorem dX9_ways_37 : decode cX9_ways 37 = .ok (.lcmp, 1) := by decide +kernel
theorem dX9_ways_38 : decode cX9_ways 38 = .ok (.ifCond .gt 15, 3) := by decide +kernel
theorem dX9_ways_41 : decode cX9_ways 41 = .ok (.lload_n 1, 1) := by decide +kernel
theorem dX9_ways_42 : decode cX9_ways 42 = .ok (.aload_n 0, 1) := by decide +kernel
theorem dX9_ways_43 : decode cX9_ways 43 = .ok (.getfield 23, 3) := by decide +kernel
theorem dX9_ways_46 : decode cX9_ways 46 = .ok (.iload_n 3, 1) := by decide +kernel
theorem dX9_ways_47 : decode cX9_ways 47 = .ok (.iaload, 1) := by decide +kernel
theorem dX9_ways_48 : decode cX9_ways 48 = .ok (.i2l, 1) := by decide +kernel
theorem dX9_ways_49 : decode cX9_ways 49 = .ok (.lmul, 1) := by decide +kernel
theorem dX9_ways_50 : decode cX9_ways 50 = .ok (.goto 4, 3) := by decide +kernel
theorem dX9_ways_53 : decode cX9_ways 53 = .ok (.lload_n 1, 1) := by decide +kernel
theorem dX9_ways_54 : decode cX9_ways 54 = .ok (.lstore_n 1, 1) := by decide +kernel
theorem dX9_ways_55 : decode cX9_ways 55 = .ok (.iinc 3 1, 3) := by decide +kernel
theorem dX9_ways_58 : decode cX9_ways 58 = .ok (.goto (-42), 3) := by decide +kernel
theorem dX9_ways_61 : decode cX9_ways 61 = .ok (.lload_n 1, 1) := by decide +kernel
theorem dX9_ways_62 : decode cX9_ways 62 = .ok (.ldc2_w 157, 3) := by decide +kernel
theorem dX9_ways_65 : decode cX9_ways 65 = .ok (.lcmp, 1) := by decide +kernel
theorem dX9_ways_66 : decode cX9_ways 66 = .ok (.ifCond .le 7, 3) := by decide +kernel
theorem dX9_ways_69 : decode cX9_ways 69 = .ok (.iconst (-1), 1) := by decide +kernel
theorem dX9_ways_70 : decode cX9_ways 70 = .ok (.goto 5, 3) := by decide +kernel
theorem dX9_ways_73 : decode cX9_ways 73 = .ok (.lload_n 1, 1) := by decide +kernel
theorem dX9_ways_74 : decode cX9_ways 74 = .ok (.l2i, 1) := by decide +kernel
theorem dX9_ways_75 : decode cX9_ways 75 = .ok (.ireturn, 1) := by decide +kernel
set_option maxRecDepth 20000 in
theorem ggX9_judge_X9_isShipping : GoodIn wsX9_judge wsX9_isShipping := goodIn_r _ [14, 15, 16, 13, 17] (by decide +kernel) (by decide +kernel)
set_option maxRecDepth 20000 in
theorem gX9_judge_X9_isShipping : GoodIn wsX9_judge (va_wsS RX9 145 yX9_isShipping wsX9_isShipping) := goodIn_app (goodIn_of _ (by decide +kernel)) ggX9_judge_X9_isShipping
set_option maxRecDepth 20000 in
theorem ggX9_judge_X9_ways : GoodIn wsX9_judge wsX9_ways := goodIn_r _ [21, 9, 1, 4, 22, 5, 23, 24, 25, 13, 26, 27, 28, 29, 6, 7, 3, 30, 31, 32, 33, 34, 35, 72, 73, 74, 75, 76, 77, 78, 79, 80, 81, 82, 83, 84, 85, 86, 87, 88, 89, 90, 91, 92, 93, 94, 95, 96, 97, 98, 99, 100, 101] (by decide +kernel) (by decide +kernel)
set_option maxRecDepth 20000 in
theorem gX9_judge_X9_ways : GoodIn wsX9_judge (wsV RX9 159 RX9 yX9_ways wsX9_ways) := goodIn_app (goodIn_of _ (by decide +kernel)) ggX9_judge_X9_ways
set_option maxRecDepth 20000 in
theorem ggX9_judge_X9_works : GoodIn wsX9_judge wsX9_works := goodIn_r _ [39, 9, 23, 24, 25, 13, 26, 27, 28, 29, 1, 6, 7, 3, 40, 41, 42, 43, 44, 34, 35, 45, 46, 30, 31, 32, 33, 4, 47, 48, 49, 50, 8, 51, 52, 53, 54, 55, 56, 57, 58, 59, 72, 73, 74, 75, 76, 77, 78, 79, 80, 81, 82, 83, 84, 85, 86, 87, 88, 89, 90, 91, 92, 93, 94, 95, 96, 97, 98, 99, 100, 101] (by decide +kernel) (by decide +kernel)
set_option maxRecDepth 20000 in
theorem gX9_judge_X9_works : GoodIn wsX9_judge (wsV RX9 148 RX9 yX9_works wsX9_works) := goodIn_app (goodIn_of _ (by decide +kernel)) ggX9_judge_X9_works
set_option maxRecDepth 20000 in
theorem ggX9_judge_X9_comes : GoodIn wsX9_judge wsX9_comes := goodIn_r _ [50, 1, 8, 45, 46, 34, 35, 51, 52, 53, 54, 55, 13, 56, 57, 6, 58, 59, 72, 73, 74, 75, 76, 77, 78, 79, 80, 81, 82, 83, 84, 85, 86, 87, 88, 89, 90, 91, 92, 93, 94, 95, 96, 97, 98, 99, 100, 101] (by decide +kernel) (by decide +kernel)
set_option maxRecDepth 20000 in
theorem gX9_judge_X9_comes : GoodIn wsX9_judge (wsV RX9 142 RX9 yX9_comes wsX9_comes) := goodIn_app (goodIn_of _ (by decide +kernel)) ggX9_judge_X9_comes
set_option maxRecDepth 20000 in
theorem ggX9_judge_X9_quarrelsNow : GoodIn wsX9_judge wsX9_quarrelsNow := goodIn_r _ [63, 1, 4, 8, 6, 64, 65, 66, 13, 67, 68, 69, 70, 71, 72, 73, 74, 75, 76, 77, 78, 79, 80, 81, 82, 83, 84, 85, 86, 87, 88, 89, 90, 91, 92, 93, 94, 95, 96, 97, 98, 99, 100, 101] (by decide +kernel) (by decide +kernel)
set_option maxRecDepth 20000 in
theorem gX9_judge_X9_quarrelsNow : GoodIn wsX9_judge (wsV RX9 153 RX9 yX9_quarrelsNow wsX9_quarrelsNow) := goodIn_app (goodIn_of _ (by decide +kernel)) ggX9_judge_X9_quarrelsNow
set_option maxRecDepth 20000 in
theorem ggX9_judge_X9_bits : GoodIn wsX9_judge wsX9_bits := goodIn_r _ [71] (by decide +kernel) (by decide +kernel)
set_option maxRecDepth 20000 in
theorem gX9_judge_X9_bits : GoodIn wsX9_judge (va_wsS RX9 135 yX9_bits wsX9_bits) := goodIn_app (goodIn_of _ (by decide +kernel)) ggX9_judge_X9_bits
theorem dX9_judge_0 : decode cX9_judge 0 = .ok (.iload_n 1, 1) := by decide +kernel
theorem dX9_judge_1 : decode cX9_judge 1 = .ok (.invokestatic 145, 3) := by decide +kernel
theorem dX9_judge_4 : decode cX9_judge 4 = .ok (.ifCond .eq 10, 3) := by decide +kernel
theorem dX9_judge_7 : decode cX9_judge 7 = .ok (.aload_n 0, 1) := by decide +kernel
theorem dX9_judge_8 : decode cX9_judge 8 = .ok (.getfield 87, 3) := by decide +kernel
theorem dX9_judge_11 : decode cX9_judge 11 = .ok (.ifCond .ne 5, 3) := by decide +kernel
theorem dX9_judge_14 : decode cX9_judge 14 = .ok (.iconst (-1), 1) := by decide +kernel
theorem dX9_judge_15 : decode cX9_judge 15 = .ok (.ireturn, 1) := by decide +kernel
theorem dX9_judge_16 : decode cX9_judge 16 = .ok (.aload_n 0, 1) := by decide +kernel
theorem dX9_judge_17 : decode cX9_judge 17 = .ok (.invokevirtual 159, 3) := by decide +kernel
theorem dX9_judge_20 : decode cX9_judge 20 = .ok (.istore_n 2, 1) := by decide +kernel
theorem dX9_judge_21 : decode cX9_judge 21 = .ok (.iload_n 2, 1) := by decide +kernel
theorem dX9_judge_22 : decode cX9_judge 22 = .ok (.iconst (-1), 1) := by decide +kernel
theorem dX9_judge_23 : decode cX9_judge 23 = .ok (.if_icmp .ne 5, 3) := by decide +kernel
theorem dX9_judge_26 : decode cX9_judge 26 = .ok (.iconst (-1), 1) := by decide +kernel
theorem dX9_judge_27 : decode cX9_judge 27 = .ok (.ireturn, 1) := by decide +kernel
theorem dX9_judge_28 : decode cX9_judge 28 = .ok (.aload_n 0, 1) := by decide +kernel
theorem dX9_judge_29 : decode cX9_judge 29 = .ok (.iload_n 1, 1) := by decide +kernel
theorem dX9_judge_30 : decode cX9_judge 30 = .ok (.invokevirtual 148, 3) := by decide +kernel
theorem dX9_judge_33 : decode cX9_judge 33 = .ok (.iconst (-1), 1) := by decide +kernel
theorem dX9_judge_34 : decode cX9_judge 34 = .ok (.istore_n 3, 1) := by decide +kernel
theorem dX9_judge_35 : decode cX9_judge 35 = .ok (.iconst 0, 1) := by decide +kernel
theorem dX9_judge_36 : decode cX9_judge 36 = .ok (.istore 4, 2) := by decide +kernel
theorem dX9_judge_38 : decode cX9_judge 38 = .ok (.iconst 0, 1) := by decide +kernel
theorem dX9_judge_39 : decode cX9_judge 39 = .ok (.istore 5, 2) := by decide +kernel
theorem dX9_judge_41 : decode cX9_judge 41 = .ok (.iload 5, 2) := by decide +kernel
theorem dX9_judge_43 : decode cX9_judge 43 = .ok (.iload_n 2, 1) := by decide +kernel
theorem dX9_judge_44 : decode cX9_judge 44 = .ok (.if_icmp .ge 203, 3) := by decide +kernel
theorem dX9_judge_47 : decode cX9_judge 47 = .ok (.iload 5, 2) := by decide +kernel
theorem dX9_judge_49 : decode cX9_judge 49 = .ok (.istore 6, 2) := by decide +kernel
theorem dX9_judge_51 : decode cX9_judge 51 = .ok (.aload_n 0, 1) := by decide +kernel
theorem dX9_judge_52 : decode cX9_judge 52 = .ok (.getfield 87, 3) := by decide +kernel
theorem dX9_judge_55 : decode cX9_judge 55 = .ok (.iconst 1, 1) := by decide +kernel
theorem dX9_judge_56 : decode cX9_judge 56 = .ok (.isub, 1) := by decide +kernel
theorem dX9_judge_57 : decode cX9_judge 57 = .ok (.istore 7, 2) := by decide +kernel
theorem dX9_judge_59 : decode cX9_judge 59 = .ok (.iload 7, 2) := by decide +kernel
theorem dX9_judge_61 : decode cX9_judge 61 = .ok (.ifCond .lt 89, 3) := by decide +kernel
theorem dX9_judge_64 : decode cX9_judge 64 = .ok (.aload_n 0, 1) := by decide +kernel
theorem dX9_judge_65 : decode cX9_judge 65 = .ok (.getfield 75, 3) := by decide +kernel
theorem dX9_judge_68 : decode cX9_judge 68 = .ok (.iload 7, 2) := by decide +kernel
theorem dX9_judge_70 : decode cX9_judge 70 = .ok (.aload_n 0, 1) := by decide +kernel
theorem dX9_judge_71 : decode cX9_judge 71 = .ok (.getfield 26, 3) := by decide +kernel
theorem dX9_judge_74 : decode cX9_judge 74 = .ok (.iload 7, 2) := by decide +kernel
theorem dX9_judge_76 : decode cX9_judge 76 = .ok (.iaload, 1) := by decide +kernel
theorem dX9_judge_77 : decode cX9_judge 77 = .ok (.iastore, 1) := by decide +kernel
theorem dX9_judge_78 : decode cX9_judge 78 = .ok (.aload_n 0, 1) := by decide +kernel
theorem dX9_judge_79 : decode cX9_judge 79 = .ok (.getfield 57, 3) := by decide +kernel
theorem dX9_judge_82 : decode cX9_judge 82 = .ok (.iload 7, 2) := by decide +kernel
theorem dX9_judge_84 : decode cX9_judge 84 = .ok (.baload, 1) := by decide +kernel
theorem dX9_judge_85 : decode cX9_judge 85 = .ok (.ifCond .ne 6, 3) := by decide +kernel
theorem dX9_judge_88 : decode cX9_judge 88 = .ok (.goto 56, 3) := by decide +kernel
theorem dX9_judge_91 : decode cX9_judge 91 = .ok (.aload_n 0, 1) := by decide +kernel
theorem dX9_judge_92 : decode cX9_judge 92 = .ok (.getfield 75, 3) := by decide +kernel
theorem dX9_judge_95 : decode cX9_judge 95 = .ok (.iload 7, 2) := by decide +kernel
theorem dX9_judge_97 : decode cX9_judge 97 = .ok (.iload 6, 2) := by decide +kernel
theorem dX9_judge_99 : decode cX9_judge 99 = .ok (.aload_n 0, 1) := by decide +kernel
theorem dX9_judge_100 : decode cX9_judge 100 = .ok (.getfield 23, 3) := by decide +kernel
theorem dX9_judge_103 : decode cX9_judge 103 = .ok (.iload 7, 2) := by decide +kernel
theorem dX9_judge_105 : decode cX9_judge 105 = .ok (.iaload, 1) := by decide +kernel
theorem dX9_judge_106 : decode cX9_judge 106 = .ok (.irem, 1) := by decide +kernel
theorem dX9_judge_107 : decode cX9_judge 107 = .ok (.iastore, 1) := by decide +kernel
theorem dX9_judge_108 : decode cX9_judge 108 = .ok (.iload 6, 2) := by decide +kernel
theorem dX9_judge_110 : decode cX9_judge 110 = .ok (.aload_n 0, 1) := by decide +kernel
theorem dX9_judge_111 : decode cX9_judge 111 = .ok (.getfield 23, 3) := by decide +kernel
theorem dX9_judge_114 : decode cX9_judge 114 = .ok (.iload 7, 2) := by decide +kernel
theorem dX9_judge_116 : decode cX9_judge 116 = .ok (.iaload, 1) := by decide +kernel
theorem dX9_judge_117 : decode cX9_judge 117 = .ok (.idiv, 1) := by decide +kernel
theorem dX9_judge_118 : decode cX9_judge 118 = .ok (.istore 6, 2) := by decide +kernel
theorem dX9_judge_120 : decode cX9_judge 120 = .ok (.aload_n 0, 1) := by decide +kernel
theorem dX9_judge_121 : decode cX9_judge 121 = .ok (.getfield 63, 3) := by decide +kernel
theorem dX9_judge_124 : decode cX9_judge 124 = .ok (.iload 7, 2) := by decide +kernel
theorem dX9_judge_126 : decode cX9_judge 126 = .ok (.aload_n 0, 1) := by decide +kernel
theorem dX9_judge_127 : decode cX9_judge 127 = .ok (.getfield 20, 3) := by decide +kernel
theorem dX9_judge_130 : decode cX9_judge 130 = .ok (.iconst 3, 1) := by decide +kernel
theorem dX9_judge_131 : decode cX9_judge 131 = .ok (.iload 7, 2) := by decide +kernel
theorem dX9_judge_133 : decode cX9_judge 133 = .ok (.imul, 1) := by decide +kernel
theorem dX9_judge_134 : decode cX9_judge 134 = .ok (.aload_n 0, 1) := by decide +kernel
theorem dX9_judge_135 : decode cX9_judge 135 = .ok (.getfield 75, 3) := by decide +kernel
theorem dX9_judge_138 : decode cX9_judge 138 = .ok (.iload 7, 2) := by decide +kernel
theorem dX9_judge_140 : decode cX9_judge 140 = .ok (.iaload, 1) := by decide +kernel
theorem dX9_judge_141 : decode cX9_judge 141 = .ok (.iadd, 1) := by decide +kernel
theorem dX9_judge_142 : decode cX9_judge 142 = .ok (.iaload, 1) := by decide +kernel
theorem dX9_judge_143 : decode cX9_judge 143 = .ok (.iastore, 1) := by decide +kernel
theorem dX9_judge_144 : decode cX9_judge 144 = .ok (.iinc 7 (-1), 3) := by decide +kernel
theorem dX9_judge_147 : decode cX9_judge 147 = .ok (.goto (-88), 3) := by decide +kernel
theorem dX9_judge_150 : decode cX9_judge 150 = .ok (.aload_n 0, 1) := by decide +kernel
theorem dX9_judge_151 : decode cX9_judge 151 = .ok (.iload_n 1, 1) := by decide +kernel
theorem dX9_judge_152 : decode cX9_judge 152 = .ok (.invokevirtual 142, 3) := by decide +kernel
theorem dX9_judge_155 : decode cX9_judge 155 = .ok (.aload_n 0, 1) := by decide +kernel
theorem dX9_judge_156 : decode cX9_judge 156 = .ok (.invokevirtual 153, 3) := by decide +kernel
theorem dX9_judge_159 : decode cX9_judge 159 = .ok (.istore 7, 2) := by decide +kernel
theorem dX9_judge_161 : decode cX9_judge 161 = .ok (.aload_n 0, 1) := by decide +kernel
theorem dX9_judge_162 : decode cX9_judge 162 = .ok (.getfield 66, 3) := by decide +kernel
theorem dX9_judge_165 : decode cX9_judge 165 = .ok (.aload_n 0, 1) := by decide +kernel
theorem dX9_judge_166 : decode cX9_judge 166 = .ok (.getfield 118, 3) := by decide +kernel
theorem dX9_judge_169 : decode cX9_judge 169 = .ok (.laload, 1) := by decide +kernel
theorem dX9_judge_170 : decode cX9_judge 170 = .ok (.invokestatic 135, 3) := by decide +kernel
theorem dX9_judge_173 : decode cX9_judge 173 = .ok (.istore 8, 2) := by decide +kernel
theorem dX9_judge_175 : decode cX9_judge 175 = .ok (.iload_n 3, 1) := by decide +kernel
theorem dX9_judge_176 : decode cX9_judge 176 = .ok (.iconst (-1), 1) := by decide +kernel
theorem dX9_judge_177 : decode cX9_judge 177 = .ok (.if_icmp .eq 25, 3) := by decide +kernel
theorem dX9_judge_180 : decode cX9_judge 180 = .ok (.iload 7, 2) := by decide +kernel
theorem dX9_judge_182 : decode cX9_judge 182 = .ok (.iload_n 3, 1) := by decide +kernel
theorem dX9_judge_183 : decode cX9_judge 183 = .ok (.if_icmp .gt 58, 3) := by decide +kernel
theorem dX9_judge_186 : decode cX9_judge 186 = .ok (.iload 7, 2) := by decide +kernel
theorem dX9_judge_188 : decode cX9_judge 188 = .ok (.iload_n 3, 1) := by decide +kernel
theorem dX9_judge_189 : decode cX9_judge 189 = .ok (.if_icmp .ne 13, 3) := by decide +kernel
theorem dX9_judge_192 : decode cX9_judge 192 = .ok (.iload 8, 2) := by decide +kernel
theorem dX9_judge_194 : decode cX9_judge 194 = .ok (.iload 4, 2) := by decide +kernel
theorem dX9_judge_196 : decode cX9_judge 196 = .ok (.if_icmp .lt 6, 3) := by decide +kernel
theorem dX9_judge_199 : decode cX9_judge 199 = .ok (.goto 42, 3) := by decide +kernel
theorem dX9_judge_202 : decode cX9_judge 202 = .ok (.iload 7, 2) := by decide +kernel
theorem dX9_judge_204 : decode cX9_judge 204 = .ok (.istore_n 3, 1) := by decide +kernel
theorem dX9_judge_205 : decode cX9_judge 205 = .ok (.iload 8, 2) := by decide +kernel
theorem dX9_judge_207 : decode cX9_judge 207 = .ok (.istore 4, 2) := by decide +kernel
theorem dX9_judge_209 : decode cX9_judge 209 = .ok (.iconst 0, 1) := by decide +kernel
theorem dX9_judge_210 : decode cX9_judge 210 = .ok (.istore 9, 2) := by decide +kernel
theorem dX9_judge_212 : decode cX9_judge 212 = .ok (.iload 9, 2) := by decide +kernel
theorem dX9_judge_214 : decode cX9_judge 214 = .ok (.aload_n 0, 1) := by decide +kernel
theorem dX9_judge_215 : decode cX9_judge 215 = .ok (.getfield 87, 3) := by decide +kernel
theorem dX9_judge_218 : decode cX9_judge 218 = .ok (.if_icmp .ge 23, 3) := by decide +kernel
theorem dX9_judge_221 : decode cX9_judge 221 = .ok (.aload_n 0, 1) := by decide +kernel
theorem dX9_judge_222 : decode cX9_judge 222 = .ok (.getfield 78, 3) := by decide +kernel
theorem dX9_judge_225 : decode cX9_judge 225 = .ok (.iload 9, 2) := by decide +kernel
theorem dX9_judge_227 : decode cX9_judge 227 = .ok (.aload_n 0, 1) := by decide +kernel
theorem dX9_judge_228 : decode cX9_judge 228 = .ok (.getfield 75, 3) := by decide +kernel
theorem dX9_judge_231 : decode cX9_judge 231 = .ok (.iload 9, 2) := by decide +kernel
theorem dX9_judge_233 : decode cX9_judge 233 = .ok (.iaload, 1) := by decide +kernel
theorem dX9_judge_234 : decode cX9_judge 234 = .ok (.iastore, 1) := by decide +kernel
theorem dX9_judge_235 : decode cX9_judge 235 = .ok (.iinc 9 1, 3) := by decide +kernel
theorem dX9_judge_238 : decode cX9_judge 238 = .ok (.goto (-26), 3) := by decide +kernel
theorem dX9_judge_241 : decode cX9_judge 241 = .ok (.iinc 5 1, 3) := by decide +kernel
theorem dX9_judge_244 : decode cX9_judge 244 = .ok (.goto (-203), 3) := by decide +kernel
theorem dX9_judge_247 : decode cX9_judge 247 = .ok (.iconst 0, 1) := by decide +kernel
theorem dX9_judge_248 : decode cX9_judge 248 = .ok (.istore 5, 2) := by decide +kernel
theorem dX9_judge_250 : decode cX9_judge 250 = .ok (.iload 5, 2) := by decide +kernel
theorem dX9_judge_252 : decode cX9_judge 252 = .ok (.aload_n 0, 1) := by decide +kernel
theorem dX9_judge_253 : decode cX9_judge 253 = .ok (.getfield 87, 3) := by decide +kernel
theorem dX9_judge_256 : decode cX9_judge 256 = .ok (.if_icmp .ge 23, 3) := by decide +kernel
theorem dX9_judge_259 : decode cX9_judge 259 = .ok (.aload_n 0, 1) := by decide +kernel
theorem dX9_judge_260 : decode cX9_judge 260 = .ok (.getfield 26, 3) := by decide +kernel
theorem dX9_judge_263 : decode cX9_judge 263 = .ok (.iload 5, 2) := by decide +kernel
theorem dX9_judge_265 : decode cX9_judge 265 = .ok (.aload_n 0, 1) := by decide +kernel
theorem dX9_judge_266 : decode cX9_judge 266 = .ok (.getfield 78, 3) := by decide +kernel
theorem dX9_judge_269 : decode cX9_judge 269 = .ok (.iload 5, 2) := by decide +kernel
theorem dX9_judge_271 : decode cX9_judge 271 = .ok (.iaload, 1) := by decide +kernel
theorem dX9_judge_272 : decode cX9_judge 272 = .ok (.iastore, 1) := by decide +kernel
theorem dX9_judge_273 : decode cX9_judge 273 = .ok (.iinc 5 1, 3) := by decide +kernel
theorem dX9_judge_276 : decode cX9_judge 276 = .ok (.goto (-26), 3) := by decide +kernel
theorem dX9_judge_279 : decode cX9_judge 279 = .ok (.iload_n 3, 1) := by decide +kernel
theorem dX9_judge_280 : decode cX9_judge 280 = .ok (.ireturn, 1) := by decide +kernel
theorem dX9_priceOf_0 : decode cX9_priceOf 0 = .ok (.iconst 0, 1) := by decide +kernel
theorem dX9_priceOf_1 : decode cX9_priceOf 1 = .ok (.istore_n 2, 1) := by decide +kernel
theorem dX9_priceOf_2 : decode cX9_priceOf 2 = .ok (.iconst 0, 1) := by decide +kernel
theorem dX9_priceOf_3 : decode cX9_priceOf 3 = .ok (.istore_n 3, 1) := by decide +kernel
theorem dX9_priceOf_4 : decode cX9_priceOf 4 = .ok (.iload_n 3, 1) := by decide +kernel
theorem dX9_priceOf_5 : decode cX9_priceOf 5 = .ok (.aload_n 0, 1) := by decide +kernel
theorem dX9_priceOf_6 : decode cX9_priceOf 6 = .ok (.getfield 121, 3) := by decide +kernel
theorem dX9_priceOf_9 : decode cX9_priceOf 9 = .ok (.if_icmp .ge 31, 3) := by decide +kernel
theorem dX9_priceOf_12 : decode cX9_priceOf 12 = .ok (.iload_n 2, 1) := by decide +kernel
