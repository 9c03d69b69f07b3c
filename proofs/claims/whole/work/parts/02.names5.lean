theorem dX5_divisor_23 : decode cX5_divisor 23 = .ok (.istore_n 2, 1) := by decide +kernel
theorem dX5_divisor_24 : decode cX5_divisor 24 = .ok (.iload 4, 2) := by decide +kernel
theorem dX5_divisor_26 : decode cX5_divisor 26 = .ok (.istore_n 3, 1) := by decide +kernel
theorem dX5_divisor_27 : decode cX5_divisor 27 = .ok (.goto (-14), 3) := by decide +kernel
theorem dX5_divisor_30 : decode cX5_divisor 30 = .ok (.iload_n 2, 1) := by decide +kernel
theorem dX5_divisor_31 : decode cX5_divisor 31 = .ok (.ireturn, 1) := by decide +kernel
set_option maxRecDepth 20000 in
theorem ggX5_fraction_X5_divisor : GoodIn wsX5_fraction wsX5_divisor := goodIn_r _ [4] (by decide +kernel) (by decide +kernel)
set_option maxRecDepth 20000 in
theorem gX5_fraction_X5_divisor : GoodIn wsX5_fraction (va_wsS RX5 197 yX5_divisor wsX5_divisor) := goodIn_app (goodIn_of _ (by decide +kernel)) ggX5_fraction_X5_divisor
theorem dX5_fraction_0 : decode cX5_fraction 0 = .ok (.iload_n 0, 1) := by decide +kernel
theorem dX5_fraction_1 : decode cX5_fraction 1 = .ok (.iload_n 1, 1) := by decide +kernel
theorem dX5_fraction_2 : decode cX5_fraction 2 = .ok (.invokestatic 197, 3) := by decide +kernel
theorem dX5_fraction_5 : decode cX5_fraction 5 = .ok (.istore_n 3, 1) := by decide +kernel
theorem dX5_fraction_6 : decode cX5_fraction 6 = .ok (.iload_n 2, 1) := by decide +kernel
theorem dX5_fraction_7 : decode cX5_fraction 7 = .ok (.ifCond .eq 9, 3) := by decide +kernel
theorem dX5_fraction_10 : decode cX5_fraction 10 = .ok (.iload_n 0, 1) := by decide +kernel
theorem dX5_fraction_11 : decode cX5_fraction 11 = .ok (.iload_n 3, 1) := by decide +kernel
theorem dX5_fraction_12 : decode cX5_fraction 12 = .ok (.idiv, 1) := by decide +kernel
theorem dX5_fraction_13 : decode cX5_fraction 13 = .ok (.goto 6, 3) := by decide +kernel
theorem dX5_fraction_16 : decode cX5_fraction 16 = .ok (.iload_n 1, 1) := by decide +kernel
theorem dX5_fraction_17 : decode cX5_fraction 17 = .ok (.iload_n 3, 1) := by decide +kernel
theorem dX5_fraction_18 : decode cX5_fraction 18 = .ok (.idiv, 1) := by decide +kernel
theorem dX5_fraction_19 : decode cX5_fraction 19 = .ok (.ireturn, 1) := by decide +kernel
set_option maxRecDepth 20000 in
theorem ggX5_share_X5_noLegger : GoodIn wsX5_share wsX5_noLegger := goodIn_r _ [10, 2, 11, 12, 9, 13, 56, 57, 58, 59, 60, 61, 62, 63, 64, 65, 66, 67, 68, 69, 70, 71, 72, 73, 74, 75, 76, 77, 78, 79, 80, 81, 82, 83, 84, 85, 86, 87, 88, 89, 90, 91, 92] (by decide +kernel) (by decide +kernel)
set_option maxRecDepth 20000 in
theorem gX5_share_X5_noLegger : GoodIn wsX5_share (wsV RX5 124 RX5 yX5_noLegger wsX5_noLegger) := goodIn_app (goodIn_of _ (by decide +kernel)) ggX5_share_X5_noLegger
set_option maxRecDepth 20000 in
theorem ggX5_share_X5_noBoat : GoodIn wsX5_share wsX5_noBoat := goodIn_r _ [17, 18, 11, 12, 9, 13, 56, 57, 58, 59, 60, 61, 62, 63, 64, 65, 66, 67, 68, 69, 70, 71, 72, 73, 74, 75, 76, 77, 78, 79, 80, 81, 82, 83, 84, 85, 86, 87, 88, 89, 90, 91, 92] (by decide +kernel) (by decide +kernel)
set_option maxRecDepth 20000 in
theorem gX5_share_X5_noBoat : GoodIn wsX5_share (wsV RX5 130 RX5 yX5_noBoat wsX5_noBoat) := goodIn_app (goodIn_of _ (by decide +kernel)) ggX5_share_X5_noBoat
set_option maxRecDepth 20000 in
theorem ggX5_share_X5_findBest : GoodIn wsX5_share wsX5_findBest := goodIn_r _ [22, 4, 5, 2, 23, 24, 25, 26, 27, 9, 28, 29, 30, 31, 32, 33, 34, 35, 36, 37, 38, 39, 40, 41, 42, 43, 56, 57, 58, 59, 60, 61, 62, 63, 64, 65, 66, 67, 68, 69, 70, 71, 72, 73, 74, 75, 76, 77, 78, 79, 80, 81, 82, 83, 84, 85, 86, 87, 88, 89, 90, 91, 92] (by decide +kernel) (by decide +kernel)
set_option maxRecDepth 20000 in
theorem gX5_share_X5_findBest : GoodIn wsX5_share (wsV RX5 158 RX5 yX5_findBest wsX5_findBest) := goodIn_app (goodIn_of _ (by decide +kernel)) ggX5_share_X5_findBest
set_option maxRecDepth 20000 in
theorem ggX5_share_X5_has : GoodIn wsX5_share wsX5_has := goodIn_r _ [43] (by decide +kernel) (by decide +kernel)
set_option maxRecDepth 20000 in
theorem gX5_share_X5_has : GoodIn wsX5_share (va_wsS RX5 141 yX5_has wsX5_has) := goodIn_app (goodIn_of _ (by decide +kernel)) ggX5_share_X5_has
set_option maxRecDepth 20000 in
theorem ggX5_share_X5_many : GoodIn wsX5_share wsX5_many := goodIn_r _ [46] (by decide +kernel) (by decide +kernel)
set_option maxRecDepth 20000 in
theorem gX5_share_X5_many : GoodIn wsX5_share (va_wsS RX5 178 yX5_many wsX5_many) := goodIn_app (goodIn_of _ (by decide +kernel)) ggX5_share_X5_many
set_option maxRecDepth 20000 in
theorem ggX5_share_X5_ways : GoodIn wsX5_share wsX5_ways := goodIn_r _ [49] (by decide +kernel) (by decide +kernel)
set_option maxRecDepth 20000 in
theorem gX5_share_X5_ways : GoodIn wsX5_share (va_wsS RX5 200 yX5_ways wsX5_ways) := goodIn_app (goodIn_of _ (by decide +kernel)) ggX5_share_X5_ways
set_option maxRecDepth 20000 in
theorem ggX5_share_X5_fraction : GoodIn wsX5_share wsX5_fraction := goodIn_r _ [52, 53, 54, 9, 55] (by decide +kernel) (by decide +kernel)
set_option maxRecDepth 20000 in
theorem gX5_share_X5_fraction : GoodIn wsX5_share (va_wsS RX5 203 yX5_fraction wsX5_fraction) := goodIn_app (goodIn_of _ (by decide +kernel)) ggX5_share_X5_fraction
theorem dX5_share_0 : decode cX5_share 0 = .ok (.aload_n 0, 1) := by decide +kernel
theorem dX5_share_1 : decode cX5_share 1 = .ok (.iconst 0, 1) := by decide +kernel
theorem dX5_share_2 : decode cX5_share 2 = .ok (.putfield 63, 3) := by decide +kernel
theorem dX5_share_5 : decode cX5_share 5 = .ok (.aload_n 0, 1) := by decide +kernel
theorem dX5_share_6 : decode cX5_share 6 = .ok (.iload_n 1, 1) := by decide +kernel
theorem dX5_share_7 : decode cX5_share 7 = .ok (.invokevirtual 124, 3) := by decide +kernel
theorem dX5_share_10 : decode cX5_share 10 = .ok (.ifCond .ne 11, 3) := by decide +kernel
theorem dX5_share_13 : decode cX5_share 13 = .ok (.aload_n 0, 1) := by decide +kernel
theorem dX5_share_14 : decode cX5_share 14 = .ok (.iload_n 2, 1) := by decide +kernel
theorem dX5_share_15 : decode cX5_share 15 = .ok (.invokevirtual 130, 3) := by decide +kernel
theorem dX5_share_18 : decode cX5_share 18 = .ok (.ifCond .eq 5, 3) := by decide +kernel
theorem dX5_share_21 : decode cX5_share 21 = .ok (.iconst (-1), 1) := by decide +kernel
theorem dX5_share_22 : decode cX5_share 22 = .ok (.ireturn, 1) := by decide +kernel
theorem dX5_share_23 : decode cX5_share 23 = .ok (.iconst 0, 1) := by decide +kernel
theorem dX5_share_24 : decode cX5_share 24 = .ok (.istore 4, 2) := by decide +kernel
theorem dX5_share_26 : decode cX5_share 26 = .ok (.iload 4, 2) := by decide +kernel
theorem dX5_share_28 : decode cX5_share 28 = .ok (.iconst 1, 1) := by decide +kernel
theorem dX5_share_29 : decode cX5_share 29 = .ok (.aload_n 0, 1) := by decide +kernel
theorem dX5_share_30 : decode cX5_share 30 = .ok (.getfield 66, 3) := by decide +kernel
theorem dX5_share_33 : decode cX5_share 33 = .ok (.ishl, 1) := by decide +kernel
theorem dX5_share_34 : decode cX5_share 34 = .ok (.if_icmp .ge 44, 3) := by decide +kernel
theorem dX5_share_37 : decode cX5_share 37 = .ok (.aload_n 0, 1) := by decide +kernel
theorem dX5_share_38 : decode cX5_share 38 = .ok (.iload_n 2, 1) := by decide +kernel
theorem dX5_share_39 : decode cX5_share 39 = .ok (.iload 4, 2) := by decide +kernel
theorem dX5_share_41 : decode cX5_share 41 = .ok (.invokevirtual 158, 3) := by decide +kernel
theorem dX5_share_44 : decode cX5_share 44 = .ok (.aload_n 0, 1) := by decide +kernel
theorem dX5_share_45 : decode cX5_share 45 = .ok (.getfield 54, 3) := by decide +kernel
theorem dX5_share_48 : decode cX5_share 48 = .ok (.iload 4, 2) := by decide +kernel
theorem dX5_share_50 : decode cX5_share 50 = .ok (.aload_n 0, 1) := by decide +kernel
theorem dX5_share_51 : decode cX5_share 51 = .ok (.getfield 152, 3) := by decide +kernel
theorem dX5_share_54 : decode cX5_share 54 = .ok (.bipush (-9), 2) := by decide +kernel
theorem dX5_share_56 : decode cX5_share 56 = .ok (.if_icmp .ne 7, 3) := by decide +kernel
theorem dX5_share_59 : decode cX5_share 59 = .ok (.iconst 0, 1) := by decide +kernel
theorem dX5_share_60 : decode cX5_share 60 = .ok (.goto 11, 3) := by decide +kernel
theorem dX5_share_63 : decode cX5_share 63 = .ok (.sipush 200, 3) := by decide +kernel
theorem dX5_share_66 : decode cX5_share 66 = .ok (.aload_n 0, 1) := by decide +kernel
theorem dX5_share_67 : decode cX5_share 67 = .ok (.getfield 155, 3) := by decide +kernel
theorem dX5_share_70 : decode cX5_share 70 = .ok (.isub, 1) := by decide +kernel
theorem dX5_share_71 : decode cX5_share 71 = .ok (.iastore, 1) := by decide +kernel
theorem dX5_share_72 : decode cX5_share 72 = .ok (.iinc 4 1, 3) := by decide +kernel
theorem dX5_share_75 : decode cX5_share 75 = .ok (.goto (-49), 3) := by decide +kernel
theorem dX5_share_78 : decode cX5_share 78 = .ok (.iconst 0, 1) := by decide +kernel
theorem dX5_share_79 : decode cX5_share 79 = .ok (.istore 4, 2) := by decide +kernel
theorem dX5_share_81 : decode cX5_share 81 = .ok (.iconst 0, 1) := by decide +kernel
theorem dX5_share_82 : decode cX5_share 82 = .ok (.istore 5, 2) := by decide +kernel
theorem dX5_share_84 : decode cX5_share 84 = .ok (.iload 5, 2) := by decide +kernel
theorem dX5_share_86 : decode cX5_share 86 = .ok (.iconst 1, 1) := by decide +kernel
theorem dX5_share_87 : decode cX5_share 87 = .ok (.aload_n 0, 1) := by decide +kernel
theorem dX5_share_88 : decode cX5_share 88 = .ok (.getfield 66, 3) := by decide +kernel
theorem dX5_share_91 : decode cX5_share 91 = .ok (.ishl, 1) := by decide +kernel
theorem dX5_share_92 : decode cX5_share 92 = .ok (.if_icmp .ge 68, 3) := by decide +kernel
theorem dX5_share_95 : decode cX5_share 95 = .ok (.iload 5, 2) := by decide +kernel
theorem dX5_share_97 : decode cX5_share 97 = .ok (.iload_n 1, 1) := by decide +kernel
theorem dX5_share_98 : decode cX5_share 98 = .ok (.invokestatic 141, 3) := by decide +kernel
theorem dX5_share_101 : decode cX5_share 101 = .ok (.ifCond .ne 53, 3) := by decide +kernel
theorem dX5_share_104 : decode cX5_share 104 = .ok (.iload 5, 2) := by decide +kernel
theorem dX5_share_106 : decode cX5_share 106 = .ok (.invokestatic 178, 3) := by decide +kernel
theorem dX5_share_109 : decode cX5_share 109 = .ok (.istore 6, 2) := by decide +kernel
theorem dX5_share_111 : decode cX5_share 111 = .ok (.iload 4, 2) := by decide +kernel
theorem dX5_share_113 : decode cX5_share 113 = .ok (.iload 6, 2) := by decide +kernel
theorem dX5_share_115 : decode cX5_share 115 = .ok (.invokestatic 200, 3) := by decide +kernel
theorem dX5_share_118 : decode cX5_share 118 = .ok (.aload_n 0, 1) := by decide +kernel
theorem dX5_share_119 : decode cX5_share 119 = .ok (.getfield 66, 3) := by decide +kernel
theorem dX5_share_122 : decode cX5_share 122 = .ok (.iconst 1, 1) := by decide +kernel
theorem dX5_share_123 : decode cX5_share 123 = .ok (.isub, 1) := by decide +kernel
theorem dX5_share_124 : decode cX5_share 124 = .ok (.iload 6, 2) := by decide +kernel
theorem dX5_share_126 : decode cX5_share 126 = .ok (.isub, 1) := by decide +kernel
theorem dX5_share_127 : decode cX5_share 127 = .ok (.invokestatic 200, 3) := by decide +kernel
theorem dX5_share_130 : decode cX5_share 130 = .ok (.imul, 1) := by decide +kernel
theorem dX5_share_131 : decode cX5_share 131 = .ok (.aload_n 0, 1) := by decide +kernel
theorem dX5_share_132 : decode cX5_share 132 = .ok (.getfield 54, 3) := by decide +kernel
theorem dX5_share_135 : decode cX5_share 135 = .ok (.iload 5, 2) := by decide +kernel
theorem dX5_share_137 : decode cX5_share 137 = .ok (.iconst 1, 1) := by decide +kernel
theorem dX5_share_138 : decode cX5_share 138 = .ok (.iload_n 1, 1) := by decide +kernel
theorem dX5_share_139 : decode cX5_share 139 = .ok (.ishl, 1) := by decide +kernel
theorem dX5_share_140 : decode cX5_share 140 = .ok (.ior, 1) := by decide +kernel
theorem dX5_share_141 : decode cX5_share 141 = .ok (.iaload, 1) := by decide +kernel
theorem dX5_share_142 : decode cX5_share 142 = .ok (.aload_n 0, 1) := by decide +kernel
theorem dX5_share_143 : decode cX5_share 143 = .ok (.getfield 54, 3) := by decide +kernel
theorem dX5_share_146 : decode cX5_share 146 = .ok (.iload 5, 2) := by decide +kernel
theorem dX5_share_148 : decode cX5_share 148 = .ok (.iaload, 1) := by decide +kernel
theorem dX5_share_149 : decode cX5_share 149 = .ok (.isub, 1) := by decide +kernel
theorem dX5_share_150 : decode cX5_share 150 = .ok (.imul, 1) := by decide +kernel
theorem dX5_share_151 : decode cX5_share 151 = .ok (.iadd, 1) := by decide +kernel
theorem dX5_share_152 : decode cX5_share 152 = .ok (.istore 4, 2) := by decide +kernel
theorem dX5_share_154 : decode cX5_share 154 = .ok (.iinc 5 1, 3) := by decide +kernel
theorem dX5_share_157 : decode cX5_share 157 = .ok (.goto (-73), 3) := by decide +kernel
theorem dX5_share_160 : decode cX5_share 160 = .ok (.iload 4, 2) := by decide +kernel
theorem dX5_share_162 : decode cX5_share 162 = .ok (.aload_n 0, 1) := by decide +kernel
theorem dX5_share_163 : decode cX5_share 163 = .ok (.getfield 66, 3) := by decide +kernel
theorem dX5_share_166 : decode cX5_share 166 = .ok (.invokestatic 200, 3) := by decide +kernel
theorem dX5_share_169 : decode cX5_share 169 = .ok (.iload_n 3, 1) := by decide +kernel
theorem dX5_share_170 : decode cX5_share 170 = .ok (.invokestatic 203, 3) := by decide +kernel
theorem dX5_share_173 : decode cX5_share 173 = .ok (.ireturn, 1) := by decide +kernel
set_option maxRecDepth 20000 in
theorem ggX5_see_X5_in : GoodIn wsX5_see wsX5_in := goodIn_r _ [10] (by decide +kernel) (by decide +kernel)
set_option maxRecDepth 20000 in
theorem gX5_see_X5_in : GoodIn wsX5_see (va_wsS RX5 69 yX5_in wsX5_in) := goodIn_app (goodIn_of _ (by decide +kernel)) ggX5_see_X5_in
theorem dX5_see_0 : decode cX5_see 0 = .ok (.aload_n 0, 1) := by decide +kernel
theorem dX5_see_1 : decode cX5_see 1 = .ok (.iconst 0, 1) := by decide +kernel
theorem dX5_see_2 : decode cX5_see 2 = .ok (.putfield 63, 3) := by decide +kernel
theorem dX5_see_5 : decode cX5_see 5 = .ok (.iload_n 1, 1) := by decide +kernel
theorem dX5_see_6 : decode cX5_see 6 = .ok (.i2l, 1) := by decide +kernel
theorem dX5_see_7 : decode cX5_see 7 = .ok (.lconst 0, 1) := by decide +kernel
theorem dX5_see_8 : decode cX5_see 8 = .ok (.ldc2_w 207, 3) := by decide +kernel
theorem dX5_see_11 : decode cX5_see 11 = .ok (.invokestatic 69, 3) := by decide +kernel
theorem dX5_see_14 : decode cX5_see 14 = .ok (.ifCond .eq 15, 3) := by decide +kernel
theorem dX5_see_17 : decode cX5_see 17 = .ok (.iload_n 2, 1) := by decide +kernel
theorem dX5_see_18 : decode cX5_see 18 = .ok (.i2l, 1) := by decide +kernel
theorem dX5_see_19 : decode cX5_see 19 = .ok (.lconst 1, 1) := by decide +kernel
theorem dX5_see_20 : decode cX5_see 20 = .ok (.ldc2_w 128, 3) := by decide +kernel
theorem dX5_see_23 : decode cX5_see 23 = .ok (.invokestatic 69, 3) := by decide +kernel
theorem dX5_see_26 : decode cX5_see 26 = .ok (.ifCond .ne 6, 3) := by decide +kernel
theorem dX5_see_29 : decode cX5_see 29 = .ok (.bipush (-2), 2) := by decide +kernel
theorem dX5_see_31 : decode cX5_see 31 = .ok (.ireturn, 1) := by decide +kernel
theorem dX5_see_32 : decode cX5_see 32 = .ok (.aload_n 0, 1) := by decide +kernel
theorem dX5_see_33 : decode cX5_see 33 = .ok (.getfield 121, 3) := by decide +kernel
theorem dX5_see_36 : decode cX5_see 36 = .ok (.bipush 6, 2) := by decide +kernel
theorem dX5_see_38 : decode cX5_see 38 = .ok (.if_icmp .ne 6, 3) := by decide +kernel
theorem dX5_see_41 : decode cX5_see 41 = .ok (.bipush (-4), 2) := by decide +kernel
theorem dX5_see_43 : decode cX5_see 43 = .ok (.ireturn, 1) := by decide +kernel
theorem dX5_see_44 : decode cX5_see 44 = .ok (.aload_n 0, 1) := by decide +kernel
theorem dX5_see_45 : decode cX5_see 45 = .ok (.getfield 48, 3) := by decide +kernel
theorem dX5_see_48 : decode cX5_see 48 = .ok (.aload_n 0, 1) := by decide +kernel
theorem dX5_see_49 : decode cX5_see 49 = .ok (.getfield 121, 3) := by decide +kernel
theorem dX5_see_52 : decode cX5_see 52 = .ok (.iload_n 1, 1) := by decide +kernel
theorem dX5_see_53 : decode cX5_see 53 = .ok (.iastore, 1) := by decide +kernel
theorem dX5_see_54 : decode cX5_see 54 = .ok (.aload_n 0, 1) := by decide +kernel
theorem dX5_see_55 : decode cX5_see 55 = .ok (.getfield 51, 3) := by decide +kernel
theorem dX5_see_58 : decode cX5_see 58 = .ok (.aload_n 0, 1) := by decide +kernel
theorem dX5_see_59 : decode cX5_see 59 = .ok (.getfield 121, 3) := by decide +kernel
theorem dX5_see_62 : decode cX5_see 62 = .ok (.iload_n 2, 1) := by decide +kernel
theorem dX5_see_63 : decode cX5_see 63 = .ok (.iastore, 1) := by decide +kernel
theorem dX5_see_64 : decode cX5_see 64 = .ok (.aload_n 0, 1) := by decide +kernel
theorem dX5_see_65 : decode cX5_see 65 = .ok (.dup, 1) := by decide +kernel
theorem dX5_see_66 : decode cX5_see 66 = .ok (.getfield 121, 3) := by decide +kernel
theorem dX5_see_69 : decode cX5_see 69 = .ok (.iconst 1, 1) := by decide +kernel
theorem dX5_see_70 : decode cX5_see 70 = .ok (.iadd, 1) := by decide +kernel
theorem dX5_see_71 : decode cX5_see 71 = .ok (.putfield 121, 3) := by decide +kernel
theorem dX5_see_74 : decode cX5_see 74 = .ok (.aload_n 0, 1) := by decide +kernel
theorem dX5_see_75 : decode cX5_see 75 = .ok (.getfield 121, 3) := by decide +kernel
theorem dX5_see_78 : decode cX5_see 78 = .ok (.ireturn, 1) := by decide +kernel
theorem dX5_unsee_0 : decode cX5_unsee 0 = .ok (.aload_n 0, 1) := by decide +kernel
theorem dX5_unsee_1 : decode cX5_unsee 1 = .ok (.iconst 0, 1) := by decide +kernel
theorem dX5_unsee_2 : decode cX5_unsee 2 = .ok (.putfield 63, 3) := by decide +kernel
theorem dX5_unsee_5 : decode cX5_unsee 5 = .ok (.aload_n 0, 1) := by decide +kernel
theorem dX5_unsee_6 : decode cX5_unsee 6 = .ok (.getfield 121, 3) := by decide +kernel
theorem dX5_unsee_9 : decode cX5_unsee 9 = .ok (.istore_n 1, 1) := by decide +kernel
theorem dX5_unsee_10 : decode cX5_unsee 10 = .ok (.aload_n 0, 1) := by decide +kernel
theorem dX5_unsee_11 : decode cX5_unsee 11 = .ok (.iconst 0, 1) := by decide +kernel
theorem dX5_unsee_12 : decode cX5_unsee 12 = .ok (.putfield 121, 3) := by decide +kernel
theorem dX5_unsee_15 : decode cX5_unsee 15 = .ok (.iload_n 1, 1) := by decide +kernel
theorem dX5_unsee_16 : decode cX5_unsee 16 = .ok (.ireturn, 1) := by decide +kernel
set_option maxRecDepth 20000 in
theorem ggX5_isSeen_X5_power : GoodIn wsX5_isSeen wsX5_power := goodIn_r _ [7] (by decide +kernel) (by decide +kernel)
set_option maxRecDepth 20000 in
theorem gX5_isSeen_X5_power : GoodIn wsX5_isSeen (va_wsS RX5 187 yX5_power wsX5_power) := goodIn_app (goodIn_of _ (by decide +kernel)) ggX5_isSeen_X5_power
set_option maxRecDepth 20000 in
theorem ggX5_isSeen_X5_minutes : GoodIn wsX5_isSeen wsX5_minutes := goodIn_r _ [10] (by decide +kernel) (by decide +kernel)
set_option maxRecDepth 20000 in
theorem gX5_isSeen_X5_minutes : GoodIn wsX5_isSeen (va_wsS RX5 110 yX5_minutes wsX5_minutes) := goodIn_app (goodIn_of _ (by decide +kernel)) ggX5_isSeen_X5_minutes
set_option maxRecDepth 20000 in
theorem ggX5_isSeen_X5_next : GoodIn wsX5_isSeen wsX5_next := goodIn_r _ [13] (by decide +kernel) (by decide +kernel)
set_option maxRecDepth 20000 in
theorem gX5_isSeen_X5_next : GoodIn wsX5_isSeen (va_wsS RX5 118 yX5_next wsX5_next) := goodIn_app (goodIn_of _ (by decide +kernel)) ggX5_isSeen_X5_next
theorem dX5_isSeen_0 : decode cX5_isSeen 0 = .ok (.iconst 0, 1) := by decide +kernel
theorem dX5_isSeen_1 : decode cX5_isSeen 1 = .ok (.istore_n 2, 1) := by decide +kernel
theorem dX5_isSeen_2 : decode cX5_isSeen 2 = .ok (.iconst 1, 1) := by decide +kernel
theorem dX5_isSeen_3 : decode cX5_isSeen 3 = .ok (.istore_n 3, 1) := by decide +kernel
theorem dX5_isSeen_4 : decode cX5_isSeen 4 = .ok (.iconst 0, 1) := by decide +kernel
theorem dX5_isSeen_5 : decode cX5_isSeen 5 = .ok (.istore 4, 2) := by decide +kernel
theorem dX5_isSeen_7 : decode cX5_isSeen 7 = .ok (.iload 4, 2) := by decide +kernel
theorem dX5_isSeen_9 : decode cX5_isSeen 9 = .ok (.bipush 6, 2) := by decide +kernel
theorem dX5_isSeen_11 : decode cX5_isSeen 11 = .ok (.if_icmp .ge 86, 3) := by decide +kernel
theorem dX5_isSeen_14 : decode cX5_isSeen 14 = .ok (.iload_n 3, 1) := by decide +kernel
theorem dX5_isSeen_15 : decode cX5_isSeen 15 = .ok (.ifCond .eq 82, 3) := by decide +kernel
theorem dX5_isSeen_18 : decode cX5_isSeen 18 = .ok (.iload_n 1, 1) := by decide +kernel
theorem dX5_isSeen_19 : decode cX5_isSeen 19 = .ok (.iconst 4, 1) := by decide +kernel
theorem dX5_isSeen_20 : decode cX5_isSeen 20 = .ok (.iload_n 2, 1) := by decide +kernel
theorem dX5_isSeen_21 : decode cX5_isSeen 21 = .ok (.invokestatic 187, 3) := by decide +kernel
theorem dX5_isSeen_24 : decode cX5_isSeen 24 = .ok (.idiv, 1) := by decide +kernel
theorem dX5_isSeen_25 : decode cX5_isSeen 25 = .ok (.iconst 4, 1) := by decide +kernel
theorem dX5_isSeen_26 : decode cX5_isSeen 26 = .ok (.irem, 1) := by decide +kernel
theorem dX5_isSeen_27 : decode cX5_isSeen 27 = .ok (.istore 5, 2) := by decide +kernel
theorem dX5_isSeen_29 : decode cX5_isSeen 29 = .ok (.iconst 0, 1) := by decide +kernel
theorem dX5_isSeen_30 : decode cX5_isSeen 30 = .ok (.istore 6, 2) := by decide +kernel
theorem dX5_isSeen_32 : decode cX5_isSeen 32 = .ok (.iload 6, 2) := by decide +kernel
theorem dX5_isSeen_34 : decode cX5_isSeen 34 = .ok (.aload_n 0, 1) := by decide +kernel
theorem dX5_isSeen_35 : decode cX5_isSeen 35 = .ok (.getfield 121, 3) := by decide +kernel
theorem dX5_isSeen_38 : decode cX5_isSeen 38 = .ok (.if_icmp .ge 46, 3) := by decide +kernel
theorem dX5_isSeen_41 : decode cX5_isSeen 41 = .ok (.iload_n 3, 1) := by decide +kernel
theorem dX5_isSeen_42 : decode cX5_isSeen 42 = .ok (.ifCond .eq 34, 3) := by decide +kernel
theorem dX5_isSeen_45 : decode cX5_isSeen 45 = .ok (.aload_n 0, 1) := by decide +kernel
theorem dX5_isSeen_46 : decode cX5_isSeen 46 = .ok (.getfield 48, 3) := by decide +kernel
theorem dX5_isSeen_49 : decode cX5_isSeen 49 = .ok (.iload 6, 2) := by decide +kernel
theorem dX5_isSeen_51 : decode cX5_isSeen 51 = .ok (.iaload, 1) := by decide +kernel
theorem dX5_isSeen_52 : decode cX5_isSeen 52 = .ok (.iload 4, 2) := by decide +kernel
theorem dX5_isSeen_54 : decode cX5_isSeen 54 = .ok (.if_icmp .ne 18, 3) := by decide +kernel
theorem dX5_isSeen_57 : decode cX5_isSeen 57 = .ok (.aload_n 0, 1) := by decide +kernel
theorem dX5_isSeen_58 : decode cX5_isSeen 58 = .ok (.getfield 51, 3) := by decide +kernel
theorem dX5_isSeen_61 : decode cX5_isSeen 61 = .ok (.iload 6, 2) := by decide +kernel
theorem dX5_isSeen_63 : decode cX5_isSeen 63 = .ok (.iaload, 1) := by decide +kernel
theorem dX5_isSeen_64 : decode cX5_isSeen 64 = .ok (.iload 5, 2) := by decide +kernel
theorem dX5_isSeen_66 : decode cX5_isSeen 66 = .ok (.invokestatic 110, 3) := by decide +kernel
theorem dX5_isSeen_69 : decode cX5_isSeen 69 = .ok (.if_icmp .ne 7, 3) := by decide +kernel
theorem dX5_isSeen_72 : decode cX5_isSeen 72 = .ok (.iconst 1, 1) := by decide +kernel
theorem dX5_isSeen_73 : decode cX5_isSeen 73 = .ok (.goto 4, 3) := by decide +kernel
theorem dX5_isSeen_76 : decode cX5_isSeen 76 = .ok (.iconst 0, 1) := by decide +kernel
theorem dX5_isSeen_77 : decode cX5_isSeen 77 = .ok (.istore_n 3, 1) := by decide +kernel
theorem dX5_isSeen_78 : decode cX5_isSeen 78 = .ok (.iinc 6 1, 3) := by decide +kernel
theorem dX5_isSeen_81 : decode cX5_isSeen 81 = .ok (.goto (-49), 3) := by decide +kernel
theorem dX5_isSeen_84 : decode cX5_isSeen 84 = .ok (.iload_n 2, 1) := by decide +kernel
theorem dX5_isSeen_85 : decode cX5_isSeen 85 = .ok (.iload 5, 2) := by decide +kernel
theorem dX5_isSeen_87 : decode cX5_isSeen 87 = .ok (.invokestatic 118, 3) := by decide +kernel
theorem dX5_isSeen_90 : decode cX5_isSeen 90 = .ok (.istore_n 2, 1) := by decide +kernel
theorem dX5_isSeen_91 : decode cX5_isSeen 91 = .ok (.iinc 4 1, 3) := by decide +kernel
theorem dX5_isSeen_94 : decode cX5_isSeen 94 = .ok (.goto (-87), 3) := by decide +kernel
theorem dX5_isSeen_97 : decode cX5_isSeen 97 = .ok (.iload_n 3, 1) := by decide +kernel
theorem dX5_isSeen_98 : decode cX5_isSeen 98 = .ok (.ireturn, 1) := by decide +kernel
set_option maxRecDepth 20000 in
theorem ggX5_lives_X5_in : GoodIn wsX5_lives wsX5_in := goodIn_r _ [7] (by decide +kernel) (by decide +kernel)
set_option maxRecDepth 20000 in
theorem gX5_lives_X5_in : GoodIn wsX5_lives (va_wsS RX5 69 yX5_in wsX5_in) := goodIn_app (goodIn_of _ (by decide +kernel)) ggX5_lives_X5_in
set_option maxRecDepth 20000 in
theorem ggX5_lives_X5_isSeen : GoodIn wsX5_lives wsX5_isSeen := goodIn_r _ [11, 12, 13, 14, 15, 16, 6, 17, 18, 19, 20, 21, 22, 23, 24, 25, 26, 27, 28, 29, 30, 31, 32, 33, 34, 35, 36, 37, 38, 39, 40, 41, 42, 43, 44, 45, 46, 47, 48, 49, 50, 51, 52, 53, 54, 55, 56, 57, 58, 59, 60] (by decide +kernel) (by decide +kernel)
set_option maxRecDepth 20000 in
theorem gX5_lives_X5_isSeen : GoodIn wsX5_lives (wsV RX5 211 RX5 yX5_isSeen wsX5_isSeen) := goodIn_app (goodIn_of _ (by decide +kernel)) ggX5_lives_X5_isSeen
set_option maxRecDepth 20000 in
theorem ggX5_lives_X5_power : GoodIn wsX5_lives wsX5_power := goodIn_r _ [17] (by decide +kernel) (by decide +kernel)
set_option maxRecDepth 20000 in
theorem gX5_lives_X5_power : GoodIn wsX5_lives (va_wsS RX5 187 yX5_power wsX5_power) := goodIn_app (goodIn_of _ (by decide +kernel)) ggX5_lives_X5_power
theorem dX5_lives_0 : decode cX5_lives 0 = .ok (.aload_n 0, 1) := by decide +kernel
theorem dX5_lives_1 : decode cX5_lives 1 = .ok (.iconst 0, 1) := by decide +kernel
theorem dX5_lives_2 : decode cX5_lives 2 = .ok (.putfield 63, 3) := by decide +kernel
theorem dX5_lives_5 : decode cX5_lives 5 = .ok (.iload_n 1, 1) := by decide +kernel
theorem dX5_lives_6 : decode cX5_lives 6 = .ok (.i2l, 1) := by decide +kernel
theorem dX5_lives_7 : decode cX5_lives 7 = .ok (.ldc2_w 209, 3) := by decide +kernel
theorem dX5_lives_10 : decode cX5_lives 10 = .ok (.ldc2_w 128, 3) := by decide +kernel
theorem dX5_lives_13 : decode cX5_lives 13 = .ok (.invokestatic 69, 3) := by decide +kernel
theorem dX5_lives_16 : decode cX5_lives 16 = .ok (.ifCond .ne 6, 3) := by decide +kernel
theorem dX5_lives_19 : decode cX5_lives 19 = .ok (.bipush (-2), 2) := by decide +kernel
theorem dX5_lives_21 : decode cX5_lives 21 = .ok (.ireturn, 1) := by decide +kernel
theorem dX5_lives_22 : decode cX5_lives 22 = .ok (.iconst 0, 1) := by decide +kernel
theorem dX5_lives_23 : decode cX5_lives 23 = .ok (.istore_n 2, 1) := by decide +kernel
theorem dX5_lives_24 : decode cX5_lives 24 = .ok (.iconst 0, 1) := by decide +kernel
theorem dX5_lives_25 : decode cX5_lives 25 = .ok (.istore_n 3, 1) := by decide +kernel
theorem dX5_lives_26 : decode cX5_lives 26 = .ok (.iconst 0, 1) := by decide +kernel
theorem dX5_lives_27 : decode cX5_lives 27 = .ok (.istore 4, 2) := by decide +kernel
theorem dX5_lives_29 : decode cX5_lives 29 = .ok (.iload 4, 2) := by decide +kernel
theorem dX5_lives_31 : decode cX5_lives 31 = .ok (.sipush 256, 3) := by decide +kernel
theorem dX5_lives_34 : decode cX5_lives 34 = .ok (.if_icmp .ge 44, 3) := by decide +kernel
theorem dX5_lives_37 : decode cX5_lives 37 = .ok (.aload_n 0, 1) := by decide +kernel
theorem dX5_lives_38 : decode cX5_lives 38 = .ok (.iload 4, 2) := by decide +kernel
theorem dX5_lives_40 : decode cX5_lives 40 = .ok (.invokevirtual 211, 3) := by decide +kernel
theorem dX5_lives_43 : decode cX5_lives 43 = .ok (.ifCond .eq 29, 3) := by decide +kernel
theorem dX5_lives_46 : decode cX5_lives 46 = .ok (.iinc 2 1, 3) := by decide +kernel
theorem dX5_lives_49 : decode cX5_lives 49 = .ok (.iload_n 3, 1) := by decide +kernel
theorem dX5_lives_50 : decode cX5_lives 50 = .ok (.iload_n 1, 1) := by decide +kernel
theorem dX5_lives_51 : decode cX5_lives 51 = .ok (.ifCond .ge 7, 3) := by decide +kernel
theorem dX5_lives_54 : decode cX5_lives 54 = .ok (.iconst 0, 1) := by decide +kernel
theorem dX5_lives_55 : decode cX5_lives 55 = .ok (.goto 15, 3) := by decide +kernel
theorem dX5_lives_58 : decode cX5_lives 58 = .ok (.iconst 1, 1) := by decide +kernel
theorem dX5_lives_59 : decode cX5_lives 59 = .ok (.iload 4, 2) := by decide +kernel
theorem dX5_lives_61 : decode cX5_lives 61 = .ok (.iconst 4, 1) := by decide +kernel
theorem dX5_lives_62 : decode cX5_lives 62 = .ok (.iload_n 1, 1) := by decide +kernel
theorem dX5_lives_63 : decode cX5_lives 63 = .ok (.invokestatic 187, 3) := by decide +kernel
theorem dX5_lives_66 : decode cX5_lives 66 = .ok (.idiv, 1) := by decide +kernel
theorem dX5_lives_67 : decode cX5_lives 67 = .ok (.iconst 4, 1) := by decide +kernel
theorem dX5_lives_68 : decode cX5_lives 68 = .ok (.irem, 1) := by decide +kernel
theorem dX5_lives_69 : decode cX5_lives 69 = .ok (.ishl, 1) := by decide +kernel
theorem dX5_lives_70 : decode cX5_lives 70 = .ok (.ior, 1) := by decide +kernel
theorem dX5_lives_71 : decode cX5_lives 71 = .ok (.istore_n 3, 1) := by decide +kernel
theorem dX5_lives_72 : decode cX5_lives 72 = .ok (.iinc 4 1, 3) := by decide +kernel
theorem dX5_lives_75 : decode cX5_lives 75 = .ok (.goto (-46), 3) := by decide +kernel
theorem dX5_lives_78 : decode cX5_lives 78 = .ok (.iload_n 1, 1) := by decide +kernel
theorem dX5_lives_79 : decode cX5_lives 79 = .ok (.ifCond .ge 7, 3) := by decide +kernel
theorem dX5_lives_82 : decode cX5_lives 82 = .ok (.iload_n 2, 1) := by decide +kernel
theorem dX5_lives_83 : decode cX5_lives 83 = .ok (.goto 4, 3) := by decide +kernel
theorem dX5_lives_86 : decode cX5_lives 86 = .ok (.iload_n 3, 1) := by decide +kernel
theorem dX5_lives_87 : decode cX5_lives 87 = .ok (.ireturn, 1) := by decide +kernel
theorem dX5_loss_0 : decode cX5_loss 0 = .ok (.iload_n 0, 1) := by decide +kernel
theorem dX5_loss_1 : decode cX5_loss 1 = .ok (.iload_n 1, 1) := by decide +kernel
theorem dX5_loss_2 : decode cX5_loss 2 = .ok (.if_icmp .ne 8, 3) := by decide +kernel
theorem dX5_loss_5 : decode cX5_loss 5 = .ok (.bipush 6, 2) := by decide +kernel
theorem dX5_loss_7 : decode cX5_loss 7 = .ok (.iload_n 2, 1) := by decide +kernel
theorem dX5_loss_8 : decode cX5_loss 8 = .ok (.iadd, 1) := by decide +kernel
theorem dX5_loss_9 : decode cX5_loss 9 = .ok (.ireturn, 1) := by decide +kernel
theorem dX5_loss_10 : decode cX5_loss 10 = .ok (.iload_n 0, 1) := by decide +kernel
theorem dX5_loss_11 : decode cX5_loss 11 = .ok (.iload_n 1, 1) := by decide +kernel
theorem dX5_loss_12 : decode cX5_loss 12 = .ok (.if_icmp .le 9, 3) := by decide +kernel
theorem dX5_loss_15 : decode cX5_loss 15 = .ok (.iload_n 2, 1) := by decide +kernel
theorem dX5_loss_16 : decode cX5_loss 16 = .ok (.iload_n 0, 1) := by decide +kernel
theorem dX5_loss_17 : decode cX5_loss 17 = .ok (.iadd, 1) := by decide +kernel
theorem dX5_loss_18 : decode cX5_loss 18 = .ok (.goto 4, 3) := by decide +kernel
theorem dX5_loss_21 : decode cX5_loss 21 = .ok (.iload_n 0, 1) := by decide +kernel
theorem dX5_loss_22 : decode cX5_loss 22 = .ok (.ireturn, 1) := by decide +kernel
set_option maxRecDepth 20000 in
theorem ggX5_findRests_X5_loss : GoodIn wsX5_findRests wsX5_loss := goodIn_r _ [6] (by decide +kernel) (by decide +kernel)
set_option maxRecDepth 20000 in
theorem gX5_findRests_X5_loss : GoodIn wsX5_findRests (va_wsS RX5 220 yX5_loss wsX5_loss) := goodIn_app (goodIn_of _ (by decide +kernel)) ggX5_findRests_X5_loss
theorem dX5_findRests_0 : decode cX5_findRests 0 = .ok (.aload_n 0, 1) := by decide +kernel
theorem dX5_findRests_1 : decode cX5_findRests 1 = .ok (.iconst 0, 1) := by decide +kernel
theorem dX5_findRests_2 : decode cX5_findRests 2 = .ok (.putfield 214, 3) := by decide +kernel
theorem dX5_findRests_5 : decode cX5_findRests 5 = .ok (.aload_n 0, 1) := by decide +kernel
theorem dX5_findRests_6 : decode cX5_findRests 6 = .ok (.bipush (-9), 2) := by decide +kernel
theorem dX5_findRests_8 : decode cX5_findRests 8 = .ok (.putfield 217, 3) := by decide +kernel
theorem dX5_findRests_11 : decode cX5_findRests 11 = .ok (.iconst 0, 1) := by decide +kernel
theorem dX5_findRests_12 : decode cX5_findRests 12 = .ok (.istore_n 3, 1) := by decide +kernel
theorem dX5_findRests_13 : decode cX5_findRests 13 = .ok (.iload_n 3, 1) := by decide +kernel
theorem dX5_findRests_14 : decode cX5_findRests 14 = .ok (.iconst 4, 1) := by decide +kernel
theorem dX5_findRests_15 : decode cX5_findRests 15 = .ok (.if_icmp .ge 138, 3) := by decide +kernel
theorem dX5_findRests_18 : decode cX5_findRests 18 = .ok (.iconst 0, 1) := by decide +kernel
theorem dX5_findRests_19 : decode cX5_findRests 19 = .ok (.istore 4, 2) := by decide +kernel
theorem dX5_findRests_21 : decode cX5_findRests 21 = .ok (.iload 4, 2) := by decide +kernel
theorem dX5_findRests_23 : decode cX5_findRests 23 = .ok (.iconst 4, 1) := by decide +kernel
theorem dX5_findRests_24 : decode cX5_findRests 24 = .ok (.if_icmp .ge 123, 3) := by decide +kernel
theorem dX5_findRests_27 : decode cX5_findRests 27 = .ok (.iconst 1, 1) := by decide +kernel
theorem dX5_findRests_28 : decode cX5_findRests 28 = .ok (.istore 5, 2) := by decide +kernel
theorem dX5_findRests_30 : decode cX5_findRests 30 = .ok (.iconst 0, 1) := by decide +kernel
theorem dX5_findRests_31 : decode cX5_findRests 31 = .ok (.istore 6, 2) := by decide +kernel
theorem dX5_findRests_33 : decode cX5_findRests 33 = .ok (.iload 6, 2) := by decide +kernel
theorem dX5_findRests_35 : decode cX5_findRests 35 = .ok (.iconst 4, 1) := by decide +kernel
theorem dX5_findRests_36 : decode cX5_findRests 36 = .ok (.if_icmp .ge 56, 3) := by decide +kernel
theorem dX5_findRests_39 : decode cX5_findRests 39 = .ok (.iload 5, 2) := by decide +kernel
theorem dX5_findRests_41 : decode cX5_findRests 41 = .ok (.ifCond .eq 42, 3) := by decide +kernel
theorem dX5_findRests_44 : decode cX5_findRests 44 = .ok (.iload 6, 2) := by decide +kernel
theorem dX5_findRests_46 : decode cX5_findRests 46 = .ok (.iload 4, 2) := by decide +kernel
theorem dX5_findRests_48 : decode cX5_findRests 48 = .ok (.iload_n 1, 1) := by decide +kernel
theorem dX5_findRests_49 : decode cX5_findRests 49 = .ok (.invokestatic 220, 3) := by decide +kernel
theorem dX5_findRests_52 : decode cX5_findRests 52 = .ok (.iload_n 3, 1) := by decide +kernel
theorem dX5_findRests_53 : decode cX5_findRests 53 = .ok (.iload 4, 2) := by decide +kernel
theorem dX5_findRests_55 : decode cX5_findRests 55 = .ok (.iload_n 1, 1) := by decide +kernel
theorem dX5_findRests_56 : decode cX5_findRests 56 = .ok (.invokestatic 220, 3) := by decide +kernel
theorem dX5_findRests_59 : decode cX5_findRests 59 = .ok (.if_icmp .lt 24, 3) := by decide +kernel
theorem dX5_findRests_62 : decode cX5_findRests 62 = .ok (.iload 6, 2) := by decide +kernel
theorem dX5_findRests_64 : decode cX5_findRests 64 = .ok (.iload_n 3, 1) := by decide +kernel
theorem dX5_findRests_65 : decode cX5_findRests 65 = .ok (.iload_n 2, 1) := by decide +kernel
theorem dX5_findRests_66 : decode cX5_findRests 66 = .ok (.invokestatic 220, 3) := by decide +kernel
theorem dX5_findRests_69 : decode cX5_findRests 69 = .ok (.iload 4, 2) := by decide +kernel
theorem dX5_findRests_71 : decode cX5_findRests 71 = .ok (.iload_n 3, 1) := by decide +kernel
theorem dX5_findRests_72 : decode cX5_findRests 72 = .ok (.iload_n 2, 1) := by decide +kernel
theorem dX5_findRests_73 : decode cX5_findRests 73 = .ok (.invokestatic 220, 3) := by decide +kernel
theorem dX5_findRests_76 : decode cX5_findRests 76 = .ok (.if_icmp .lt 7, 3) := by decide +kernel
theorem dX5_findRests_79 : decode cX5_findRests 79 = .ok (.iconst 1, 1) := by decide +kernel
theorem dX5_findRests_80 : decode cX5_findRests 80 = .ok (.goto 4, 3) := by decide +kernel
theorem dX5_findRests_83 : decode cX5_findRests 83 = .ok (.iconst 0, 1) := by decide +kernel
theorem dX5_findRests_84 : decode cX5_findRests 84 = .ok (.istore 5, 2) := by decide +kernel
theorem dX5_findRests_86 : decode cX5_findRests 86 = .ok (.iinc 6 1, 3) := by decide +kernel
theorem dX5_findRests_89 : decode cX5_findRests 89 = .ok (.goto (-56), 3) := by decide +kernel
theorem dX5_findRests_92 : decode cX5_findRests 92 = .ok (.aload_n 0, 1) := by decide +kernel
theorem dX5_findRests_93 : decode cX5_findRests 93 = .ok (.iload 5, 2) := by decide +kernel
theorem dX5_findRests_95 : decode cX5_findRests 95 = .ok (.ifCond .eq 20, 3) := by decide +kernel
theorem dX5_findRests_98 : decode cX5_findRests 98 = .ok (.aload_n 0, 1) := by decide +kernel
theorem dX5_findRests_99 : decode cX5_findRests 99 = .ok (.getfield 214, 3) := by decide +kernel
theorem dX5_findRests_102 : decode cX5_findRests 102 = .ok (.ifCond .ne 13, 3) := by decide +kernel
theorem dX5_findRests_105 : decode cX5_findRests 105 = .ok (.bipush 10, 2) := by decide +kernel
theorem dX5_findRests_107 : decode cX5_findRests 107 = .ok (.iload_n 3, 1) := by decide +kernel
theorem dX5_findRests_108 : decode cX5_findRests 108 = .ok (.imul, 1) := by decide +kernel
theorem dX5_findRests_109 : decode cX5_findRests 109 = .ok (.iload 4, 2) := by decide +kernel
theorem dX5_findRests_111 : decode cX5_findRests 111 = .ok (.iadd, 1) := by decide +kernel
theorem dX5_findRests_112 : decode cX5_findRests 112 = .ok (.goto 7, 3) := by decide +kernel
theorem dX5_findRests_115 : decode cX5_findRests 115 = .ok (.aload_n 0, 1) := by decide +kernel
theorem dX5_findRests_116 : decode cX5_findRests 116 = .ok (.getfield 217, 3) := by decide +kernel
theorem dX5_findRests_119 : decode cX5_findRests 119 = .ok (.putfield 217, 3) := by decide +kernel
theorem dX5_findRests_122 : decode cX5_findRests 122 = .ok (.aload_n 0, 1) := by decide +kernel
theorem dX5_findRests_123 : decode cX5_findRests 123 = .ok (.dup, 1) := by decide +kernel
theorem dX5_findRests_124 : decode cX5_findRests 124 = .ok (.getfield 214, 3) := by decide +kernel
theorem dX5_findRests_127 : decode cX5_findRests 127 = .ok (.iload 5, 2) := by decide +kernel
theorem dX5_findRests_129 : decode cX5_findRests 129 = .ok (.ifCond .eq 7, 3) := by decide +kernel
theorem dX5_findRests_132 : decode cX5_findRests 132 = .ok (.iconst 1, 1) := by decide +kernel
theorem dX5_findRests_133 : decode cX5_findRests 133 = .ok (.goto 4, 3) := by decide +kernel
theorem dX5_findRests_136 : decode cX5_findRests 136 = .ok (.iconst 0, 1) := by decide +kernel
theorem dX5_findRests_137 : decode cX5_findRests 137 = .ok (.iadd, 1) := by decide +kernel
theorem dX5_findRests_138 : decode cX5_findRests 138 = .ok (.putfield 214, 3) := by decide +kernel
theorem dX5_findRests_141 : decode cX5_findRests 141 = .ok (.iinc 4 1, 3) := by decide +kernel
theorem dX5_findRests_144 : decode cX5_findRests 144 = .ok (.goto (-123), 3) := by decide +kernel
theorem dX5_findRests_147 : decode cX5_findRests 147 = .ok (.iinc 3 1, 3) := by decide +kernel
theorem dX5_findRests_150 : decode cX5_findRests 150 = .ok (.goto (-137), 3) := by decide +kernel
theorem dX5_findRests_153 : decode cX5_findRests 153 = .ok (.return_, 1) := by decide +kernel
set_option maxRecDepth 20000 in
theorem ggX5_rests_X5_noBoat : GoodIn wsX5_rests wsX5_noBoat := goodIn_r _ [9, 10, 11, 12, 8, 13, 21, 22, 23, 24, 25, 26, 27, 28, 29, 30, 31, 32, 33, 34, 35, 36, 37, 38, 39, 40, 41, 42, 43, 44, 45, 46, 47, 48, 49, 50, 51, 52, 53, 54, 55, 56, 57] (by decide +kernel) (by decide +kernel)
set_option maxRecDepth 20000 in
theorem gX5_rests_X5_noBoat : GoodIn wsX5_rests (wsV RX5 130 RX5 yX5_noBoat wsX5_noBoat) := goodIn_app (goodIn_of _ (by decide +kernel)) ggX5_rests_X5_noBoat
set_option maxRecDepth 20000 in
theorem ggX5_rests_X5_in : GoodIn wsX5_rests wsX5_in := goodIn_r _ [13] (by decide +kernel) (by decide +kernel)
set_option maxRecDepth 20000 in
theorem gX5_rests_X5_in : GoodIn wsX5_rests (va_wsS RX5 69 yX5_in wsX5_in) := goodIn_app (goodIn_of _ (by decide +kernel)) ggX5_rests_X5_in
set_option maxRecDepth 20000 in
theorem ggX5_rests_X5_findRests : GoodIn wsX5_rests wsX5_findRests := goodIn_r _ [17, 3, 4, 18, 19, 8, 20, 21, 22, 23, 24, 25, 26, 27, 28, 29, 30, 31, 32, 33, 34, 35, 36, 37, 38, 39, 40, 41, 42, 43, 44, 45, 46, 47, 48, 49, 50, 51, 52, 53, 54, 55, 56, 57] (by decide +kernel) (by decide +kernel)
set_option maxRecDepth 20000 in
theorem gX5_rests_X5_findRests : GoodIn wsX5_rests (wsV RX5 223 RX5 yX5_findRests wsX5_findRests) := goodIn_app (goodIn_of _ (by decide +kernel)) ggX5_rests_X5_findRests
theorem dX5_rests_0 : decode cX5_rests 0 = .ok (.aload_n 0, 1) := by decide +kernel
theorem dX5_rests_1 : decode cX5_rests 1 = .ok (.iconst 0, 1) := by decide +kernel
theorem dX5_rests_2 : decode cX5_rests 2 = .ok (.putfield 63, 3) := by decide +kernel
theorem dX5_rests_5 : decode cX5_rests 5 = .ok (.aload_n 0, 1) := by decide +kernel
theorem dX5_rests_6 : decode cX5_rests 6 = .ok (.iload_n 1, 1) := by decide +kernel
theorem dX5_rests_7 : decode cX5_rests 7 = .ok (.invokevirtual 130, 3) := by decide +kernel
theorem dX5_rests_10 : decode cX5_rests 10 = .ok (.ifCond .ne 11, 3) := by decide +kernel
theorem dX5_rests_13 : decode cX5_rests 13 = .ok (.aload_n 0, 1) := by decide +kernel
theorem dX5_rests_14 : decode cX5_rests 14 = .ok (.iload_n 2, 1) := by decide +kernel
theorem dX5_rests_15 : decode cX5_rests 15 = .ok (.invokevirtual 130, 3) := by decide +kernel
theorem dX5_rests_18 : decode cX5_rests 18 = .ok (.ifCond .eq 5, 3) := by decide +kernel
theorem dX5_rests_21 : decode cX5_rests 21 = .ok (.iconst (-1), 1) := by decide +kernel
theorem dX5_rests_22 : decode cX5_rests 22 = .ok (.ireturn, 1) := by decide +kernel
theorem dX5_rests_23 : decode cX5_rests 23 = .ok (.iload_n 1, 1) := by decide +kernel
theorem dX5_rests_24 : decode cX5_rests 24 = .ok (.iload_n 2, 1) := by decide +kernel
theorem dX5_rests_25 : decode cX5_rests 25 = .ok (.if_icmp .eq 13, 3) := by decide +kernel
theorem dX5_rests_28 : decode cX5_rests 28 = .ok (.iload_n 3, 1) := by decide +kernel
theorem dX5_rests_29 : decode cX5_rests 29 = .ok (.i2l, 1) := by decide +kernel
theorem dX5_rests_30 : decode cX5_rests 30 = .ok (.lconst 0, 1) := by decide +kernel
theorem dX5_rests_31 : decode cX5_rests 31 = .ok (.lconst 1, 1) := by decide +kernel
theorem dX5_rests_32 : decode cX5_rests 32 = .ok (.invokestatic 69, 3) := by decide +kernel
theorem dX5_rests_35 : decode cX5_rests 35 = .ok (.ifCond .ne 6, 3) := by decide +kernel
theorem dX5_rests_38 : decode cX5_rests 38 = .ok (.bipush (-2), 2) := by decide +kernel
theorem dX5_rests_40 : decode cX5_rests 40 = .ok (.ireturn, 1) := by decide +kernel
theorem dX5_rests_41 : decode cX5_rests 41 = .ok (.aload_n 0, 1) := by decide +kernel
theorem dX5_rests_42 : decode cX5_rests 42 = .ok (.aload_n 0, 1) := by decide +kernel
theorem dX5_rests_43 : decode cX5_rests 43 = .ok (.getfield 20, 3) := by decide +kernel
theorem dX5_rests_46 : decode cX5_rests 46 = .ok (.iload_n 1, 1) := by decide +kernel
theorem dX5_rests_47 : decode cX5_rests 47 = .ok (.iaload, 1) := by decide +kernel
theorem dX5_rests_48 : decode cX5_rests 48 = .ok (.aload_n 0, 1) := by decide +kernel
theorem dX5_rests_49 : decode cX5_rests 49 = .ok (.getfield 20, 3) := by decide +kernel
theorem dX5_rests_52 : decode cX5_rests 52 = .ok (.iload_n 2, 1) := by decide +kernel
theorem dX5_rests_53 : decode cX5_rests 53 = .ok (.iaload, 1) := by decide +kernel
theorem dX5_rests_54 : decode cX5_rests 54 = .ok (.invokevirtual 223, 3) := by decide +kernel
theorem dX5_rests_57 : decode cX5_rests 57 = .ok (.iload_n 3, 1) := by decide +kernel
theorem dX5_rests_58 : decode cX5_rests 58 = .ok (.ifCond .ne 10, 3) := by decide +kernel
theorem dX5_rests_61 : decode cX5_rests 61 = .ok (.aload_n 0, 1) := by decide +kernel
theorem dX5_rests_62 : decode cX5_rests 62 = .ok (.getfield 214, 3) := by decide +kernel
theorem dX5_rests_65 : decode cX5_rests 65 = .ok (.goto 7, 3) := by decide +kernel
theorem dX5_rests_68 : decode cX5_rests 68 = .ok (.aload_n 0, 1) := by decide +kernel
theorem dX5_rests_69 : decode cX5_rests 69 = .ok (.getfield 217, 3) := by decide +kernel
theorem dX5_rests_72 : decode cX5_rests 72 = .ok (.ireturn, 1) := by decide +kernel
set_option maxRecDepth 20000 in
theorem ggX5_chance_X5_noLegger : GoodIn wsX5_chance wsX5_noLegger := goodIn_r _ [10, 11, 12, 13, 9, 14, 38, 39, 40, 41, 42, 43, 44, 45, 46, 47, 48, 49, 50, 51, 52, 53, 54, 55, 56, 57, 58, 59, 60, 61, 62, 63, 64, 65, 66, 67, 68, 69, 70, 71, 72, 73, 74] (by decide +kernel) (by decide +kernel)
set_option maxRecDepth 20000 in
theorem gX5_chance_X5_noLegger : GoodIn wsX5_chance (wsV RX5 124 RX5 yX5_noLegger wsX5_noLegger) := goodIn_app (goodIn_of _ (by decide +kernel)) ggX5_chance_X5_noLegger
set_option maxRecDepth 20000 in
theorem ggX5_chance_X5_in : GoodIn wsX5_chance wsX5_in := goodIn_r _ [14] (by decide +kernel) (by decide +kernel)
set_option maxRecDepth 20000 in
theorem gX5_chance_X5_in : GoodIn wsX5_chance (va_wsS RX5 69 yX5_in wsX5_in) := goodIn_app (goodIn_of _ (by decide +kernel)) ggX5_chance_X5_in
set_option maxRecDepth 20000 in
theorem ggX5_chance_X5_has : GoodIn wsX5_chance wsX5_has := goodIn_r _ [17] (by decide +kernel) (by decide +kernel)
set_option maxRecDepth 20000 in
theorem gX5_chance_X5_has : GoodIn wsX5_chance (va_wsS RX5 141 yX5_has wsX5_has) := goodIn_app (goodIn_of _ (by decide +kernel)) ggX5_chance_X5_has
set_option maxRecDepth 20000 in
theorem ggX5_chance_X5_takes : GoodIn wsX5_chance wsX5_takes := goodIn_r _ [21, 22, 4, 23, 24, 9, 25, 38, 39, 40, 41, 42, 43, 44, 45, 46, 47, 48, 49, 50, 51, 52, 53, 54, 55, 56, 57, 58, 59, 60, 61, 62, 63, 64, 65, 66, 67, 68, 69, 70, 71, 72, 73, 74] (by decide +kernel) (by decide +kernel)
set_option maxRecDepth 20000 in
theorem gX5_chance_X5_takes : GoodIn wsX5_chance (wsV RX5 114 RX5 yX5_takes wsX5_takes) := goodIn_app (goodIn_of _ (by decide +kernel)) ggX5_chance_X5_takes
set_option maxRecDepth 20000 in
theorem ggX5_chance_X5_next : GoodIn wsX5_chance wsX5_next := goodIn_r _ [28] (by decide +kernel) (by decide +kernel)
set_option maxRecDepth 20000 in
theorem gX5_chance_X5_next : GoodIn wsX5_chance (va_wsS RX5 118 yX5_next wsX5_next) := goodIn_app (goodIn_of _ (by decide +kernel)) ggX5_chance_X5_next
set_option maxRecDepth 20000 in
theorem ggX5_chance_X5_power : GoodIn wsX5_chance wsX5_power := goodIn_r _ [31] (by decide +kernel) (by decide +kernel)
set_option maxRecDepth 20000 in
theorem gX5_chance_X5_power : GoodIn wsX5_chance (va_wsS RX5 187 yX5_power wsX5_power) := goodIn_app (goodIn_of _ (by decide +kernel)) ggX5_chance_X5_power
set_option maxRecDepth 20000 in
theorem ggX5_chance_X5_fraction : GoodIn wsX5_chance wsX5_fraction := goodIn_r _ [34, 35, 36, 9, 37] (by decide +kernel) (by decide +kernel)
set_option maxRecDepth 20000 in
theorem gX5_chance_X5_fraction : GoodIn wsX5_chance (va_wsS RX5 203 yX5_fraction wsX5_fraction) := goodIn_app (goodIn_of _ (by decide +kernel)) ggX5_chance_X5_fraction
theorem dX5_chance_0 : decode cX5_chance 0 = .ok (.aload_n 0, 1) := by decide +kernel
theorem dX5_chance_1 : decode cX5_chance 1 = .ok (.iconst 0, 1) := by decide +kernel
theorem dX5_chance_2 : decode cX5_chance 2 = .ok (.putfield 63, 3) := by decide +kernel
theorem dX5_chance_5 : decode cX5_chance 5 = .ok (.aload_n 0, 1) := by decide +kernel
theorem dX5_chance_6 : decode cX5_chance 6 = .ok (.iload_n 1, 1) := by decide +kernel
theorem dX5_chance_7 : decode cX5_chance 7 = .ok (.invokevirtual 124, 3) := by decide +kernel
theorem dX5_chance_10 : decode cX5_chance 10 = .ok (.ifCond .eq 5, 3) := by decide +kernel
theorem dX5_chance_13 : decode cX5_chance 13 = .ok (.iconst (-1), 1) := by decide +kernel
theorem dX5_chance_14 : decode cX5_chance 14 = .ok (.ireturn, 1) := by decide +kernel
theorem dX5_chance_15 : decode cX5_chance 15 = .ok (.iload_n 2, 1) := by decide +kernel
theorem dX5_chance_16 : decode cX5_chance 16 = .ok (.i2l, 1) := by decide +kernel
theorem dX5_chance_17 : decode cX5_chance 17 = .ok (.lconst 0, 1) := by decide +kernel
theorem dX5_chance_18 : decode cX5_chance 18 = .ok (.ldc2_w 226, 3) := by decide +kernel
theorem dX5_chance_21 : decode cX5_chance 21 = .ok (.invokestatic 69, 3) := by decide +kernel
theorem dX5_chance_24 : decode cX5_chance 24 = .ok (.ifCond .eq 15, 3) := by decide +kernel
theorem dX5_chance_27 : decode cX5_chance 27 = .ok (.iload_n 3, 1) := by decide +kernel
theorem dX5_chance_28 : decode cX5_chance 28 = .ok (.i2l, 1) := by decide +kernel
theorem dX5_chance_29 : decode cX5_chance 29 = .ok (.lconst 0, 1) := by decide +kernel
theorem dX5_chance_30 : decode cX5_chance 30 = .ok (.ldc2_w 228, 3) := by decide +kernel
theorem dX5_chance_33 : decode cX5_chance 33 = .ok (.invokestatic 69, 3) := by decide +kernel
theorem dX5_chance_36 : decode cX5_chance 36 = .ok (.ifCond .ne 6, 3) := by decide +kernel
theorem dX5_chance_39 : decode cX5_chance 39 = .ok (.bipush (-2), 2) := by decide +kernel
theorem dX5_chance_41 : decode cX5_chance 41 = .ok (.ireturn, 1) := by decide +kernel
theorem dX5_chance_42 : decode cX5_chance 42 = .ok (.iconst 0, 1) := by decide +kernel
theorem dX5_chance_43 : decode cX5_chance 43 = .ok (.istore 5, 2) := by decide +kernel
theorem dX5_chance_45 : decode cX5_chance 45 = .ok (.iconst 0, 1) := by decide +kernel
theorem dX5_chance_46 : decode cX5_chance 46 = .ok (.istore 6, 2) := by decide +kernel
theorem dX5_chance_48 : decode cX5_chance 48 = .ok (.iload 6, 2) := by decide +kernel
theorem dX5_chance_50 : decode cX5_chance 50 = .ok (.iconst 1, 1) := by decide +kernel
theorem dX5_chance_51 : decode cX5_chance 51 = .ok (.aload_n 0, 1) := by decide +kernel
theorem dX5_chance_52 : decode cX5_chance 52 = .ok (.getfield 13, 3) := by decide +kernel
theorem dX5_chance_55 : decode cX5_chance 55 = .ok (.ishl, 1) := by decide +kernel
theorem dX5_chance_56 : decode cX5_chance 56 = .ok (.if_icmp .ge 151, 3) := by decide +kernel
theorem dX5_chance_59 : decode cX5_chance 59 = .ok (.iconst 0, 1) := by decide +kernel
theorem dX5_chance_60 : decode cX5_chance 60 = .ok (.istore 7, 2) := by decide +kernel
theorem dX5_chance_62 : decode cX5_chance 62 = .ok (.iconst 0, 1) := by decide +kernel
theorem dX5_chance_63 : decode cX5_chance 63 = .ok (.istore 8, 2) := by decide +kernel
theorem dX5_chance_65 : decode cX5_chance 65 = .ok (.iconst 1, 1) := by decide +kernel
theorem dX5_chance_66 : decode cX5_chance 66 = .ok (.istore 9, 2) := by decide +kernel
theorem dX5_chance_68 : decode cX5_chance 68 = .ok (.iconst 0, 1) := by decide +kernel
theorem dX5_chance_69 : decode cX5_chance 69 = .ok (.istore 10, 2) := by decide +kernel
theorem dX5_chance_71 : decode cX5_chance 71 = .ok (.iload 10, 2) := by decide +kernel
theorem dX5_chance_73 : decode cX5_chance 73 = .ok (.aload_n 0, 1) := by decide +kernel
theorem dX5_chance_74 : decode cX5_chance 74 = .ok (.getfield 13, 3) := by decide +kernel
theorem dX5_chance_77 : decode cX5_chance 77 = .ok (.if_icmp .ge 107, 3) := by decide +kernel
theorem dX5_chance_80 : decode cX5_chance 80 = .ok (.aload_n 0, 1) := by decide +kernel
theorem dX5_chance_81 : decode cX5_chance 81 = .ok (.getfield 29, 3) := by decide +kernel
theorem dX5_chance_84 : decode cX5_chance 84 = .ok (.iconst 0, 1) := by decide +kernel
theorem dX5_chance_85 : decode cX5_chance 85 = .ok (.iconst 4, 1) := by decide +kernel
theorem dX5_chance_86 : decode cX5_chance 86 = .ok (.iload_n 1, 1) := by decide +kernel
theorem dX5_chance_87 : decode cX5_chance 87 = .ok (.imul, 1) := by decide +kernel
theorem dX5_chance_88 : decode cX5_chance 88 = .ok (.iadd, 1) := by decide +kernel
theorem dX5_chance_89 : decode cX5_chance 89 = .ok (.iload 7, 2) := by decide +kernel
theorem dX5_chance_91 : decode cX5_chance 91 = .ok (.iadd, 1) := by decide +kernel
theorem dX5_chance_92 : decode cX5_chance 92 = .ok (.iaload, 1) := by decide +kernel
theorem dX5_chance_93 : decode cX5_chance 93 = .ok (.istore 11, 2) := by decide +kernel
theorem dX5_chance_95 : decode cX5_chance 95 = .ok (.iload 6, 2) := by decide +kernel
theorem dX5_chance_97 : decode cX5_chance 97 = .ok (.iload 10, 2) := by decide +kernel
theorem dX5_chance_99 : decode cX5_chance 99 = .ok (.invokestatic 141, 3) := by decide +kernel
theorem dX5_chance_102 : decode cX5_chance 102 = .ok (.istore 12, 2) := by decide +kernel
theorem dX5_chance_104 : decode cX5_chance 104 = .ok (.iload 8, 2) := by decide +kernel
theorem dX5_chance_106 : decode cX5_chance 106 = .ok (.aload_n 0, 1) := by decide +kernel
theorem dX5_chance_107 : decode cX5_chance 107 = .ok (.aload_n 0, 1) := by decide +kernel
theorem dX5_chance_108 : decode cX5_chance 108 = .ok (.getfield 29, 3) := by decide +kernel
theorem dX5_chance_111 : decode cX5_chance 111 = .ok (.iload_n 1, 1) := by decide +kernel
theorem dX5_chance_112 : decode cX5_chance 112 = .ok (.iload 10, 2) := by decide +kernel
theorem dX5_chance_114 : decode cX5_chance 114 = .ok (.iload 7, 2) := by decide +kernel
theorem dX5_chance_116 : decode cX5_chance 116 = .ok (.invokevirtual 114, 3) := by decide +kernel
theorem dX5_chance_119 : decode cX5_chance 119 = .ok (.iadd, 1) := by decide +kernel
theorem dX5_chance_120 : decode cX5_chance 120 = .ok (.istore 8, 2) := by decide +kernel
theorem dX5_chance_122 : decode cX5_chance 122 = .ok (.iload 9, 2) := by decide +kernel
theorem dX5_chance_124 : decode cX5_chance 124 = .ok (.iload 11, 2) := by decide +kernel
theorem dX5_chance_126 : decode cX5_chance 126 = .ok (.iconst 2, 1) := by decide +kernel
theorem dX5_chance_127 : decode cX5_chance 127 = .ok (.if_icmp .ne 17, 3) := by decide +kernel
theorem dX5_chance_130 : decode cX5_chance 130 = .ok (.iload 12, 2) := by decide +kernel
theorem dX5_chance_132 : decode cX5_chance 132 = .ok (.ifCond .eq 7, 3) := by decide +kernel
theorem dX5_chance_135 : decode cX5_chance 135 = .ok (.iconst 0, 1) := by decide +kernel
theorem dX5_chance_136 : decode cX5_chance 136 = .ok (.goto 21, 3) := by decide +kernel
theorem dX5_chance_139 : decode cX5_chance 139 = .ok (.bipush 10, 2) := by decide +kernel
theorem dX5_chance_141 : decode cX5_chance 141 = .ok (.goto 16, 3) := by decide +kernel
theorem dX5_chance_144 : decode cX5_chance 144 = .ok (.iload 12, 2) := by decide +kernel
theorem dX5_chance_146 : decode cX5_chance 146 = .ok (.ifCond .eq 7, 3) := by decide +kernel
theorem dX5_chance_149 : decode cX5_chance 149 = .ok (.iload_n 3, 1) := by decide +kernel
theorem dX5_chance_150 : decode cX5_chance 150 = .ok (.goto 7, 3) := by decide +kernel
theorem dX5_chance_153 : decode cX5_chance 153 = .ok (.bipush 10, 2) := by decide +kernel
theorem dX5_chance_155 : decode cX5_chance 155 = .ok (.iload_n 3, 1) := by decide +kernel
theorem dX5_chance_156 : decode cX5_chance 156 = .ok (.isub, 1) := by decide +kernel
theorem dX5_chance_157 : decode cX5_chance 157 = .ok (.imul, 1) := by decide +kernel
theorem dX5_chance_158 : decode cX5_chance 158 = .ok (.istore 9, 2) := by decide +kernel
theorem dX5_chance_160 : decode cX5_chance 160 = .ok (.iload 7, 2) := by decide +kernel
theorem dX5_chance_162 : decode cX5_chance 162 = .ok (.iload 12, 2) := by decide +kernel
theorem dX5_chance_164 : decode cX5_chance 164 = .ok (.ifCond .eq 7, 3) := by decide +kernel
theorem dX5_chance_167 : decode cX5_chance 167 = .ok (.iconst 2, 1) := by decide +kernel
theorem dX5_chance_168 : decode cX5_chance 168 = .ok (.goto 5, 3) := by decide +kernel
theorem dX5_chance_171 : decode cX5_chance 171 = .ok (.iload 11, 2) := by decide +kernel
theorem dX5_chance_173 : decode cX5_chance 173 = .ok (.invokestatic 118, 3) := by decide +kernel
theorem dX5_chance_176 : decode cX5_chance 176 = .ok (.istore 7, 2) := by decide +kernel
theorem dX5_chance_178 : decode cX5_chance 178 = .ok (.iinc 10 1, 3) := by decide +kernel
theorem dX5_chance_181 : decode cX5_chance 181 = .ok (.goto (-110), 3) := by decide +kernel
theorem dX5_chance_184 : decode cX5_chance 184 = .ok (.iload 5, 2) := by decide +kernel
theorem dX5_chance_186 : decode cX5_chance 186 = .ok (.iload 8, 2) := by decide +kernel
theorem dX5_chance_188 : decode cX5_chance 188 = .ok (.iload_n 2, 1) := by decide +kernel
theorem dX5_chance_189 : decode cX5_chance 189 = .ok (.if_icmp .gt 8, 3) := by decide +kernel
theorem dX5_chance_192 : decode cX5_chance 192 = .ok (.iload 9, 2) := by decide +kernel
theorem dX5_chance_194 : decode cX5_chance 194 = .ok (.goto 4, 3) := by decide +kernel
theorem dX5_chance_197 : decode cX5_chance 197 = .ok (.iconst 0, 1) := by decide +kernel
theorem dX5_chance_198 : decode cX5_chance 198 = .ok (.iadd, 1) := by decide +kernel
theorem dX5_chance_199 : decode cX5_chance 199 = .ok (.istore 5, 2) := by decide +kernel
theorem dX5_chance_201 : decode cX5_chance 201 = .ok (.iinc 6 1, 3) := by decide +kernel
theorem dX5_chance_204 : decode cX5_chance 204 = .ok (.goto (-156), 3) := by decide +kernel
theorem dX5_chance_207 : decode cX5_chance 207 = .ok (.iload 5, 2) := by decide +kernel
theorem dX5_chance_209 : decode cX5_chance 209 = .ok (.bipush 10, 2) := by decide +kernel
theorem dX5_chance_211 : decode cX5_chance 211 = .ok (.aload_n 0, 1) := by decide +kernel
theorem dX5_chance_212 : decode cX5_chance 212 = .ok (.getfield 13, 3) := by decide +kernel
theorem dX5_chance_215 : decode cX5_chance 215 = .ok (.invokestatic 187, 3) := by decide +kernel
theorem dX5_chance_218 : decode cX5_chance 218 = .ok (.iload 4, 2) := by decide +kernel
theorem dX5_chance_220 : decode cX5_chance 220 = .ok (.invokestatic 203, 3) := by decide +kernel
theorem dX5_chance_223 : decode cX5_chance 223 = .ok (.ireturn, 1) := by decide +kernel
theorem dX5_seed_0 : decode cX5_seed 0 = .ok (.aload_n 0, 1) := by decide +kernel
theorem dX5_seed_1 : decode cX5_seed 1 = .ok (.iconst 0, 1) := by decide +kernel
theorem dX5_seed_2 : decode cX5_seed 2 = .ok (.putfield 63, 3) := by decide +kernel
theorem dX5_seed_5 : decode cX5_seed 5 = .ok (.aload_n 0, 1) := by decide +kernel
theorem dX5_seed_6 : decode cX5_seed 6 = .ok (.getfield 230, 3) := by decide +kernel
theorem dX5_seed_9 : decode cX5_seed 9 = .ok (.lstore_n 3, 1) := by decide +kernel
theorem dX5_seed_10 : decode cX5_seed 10 = .ok (.aload_n 0, 1) := by decide +kernel
theorem dX5_seed_11 : decode cX5_seed 11 = .ok (.lload_n 1, 1) := by decide +kernel
theorem dX5_seed_12 : decode cX5_seed 12 = .ok (.putfield 230, 3) := by decide +kernel
theorem dX5_seed_15 : decode cX5_seed 15 = .ok (.lload_n 3, 1) := by decide +kernel
theorem dX5_seed_16 : decode cX5_seed 16 = .ok (.lreturn, 1) := by decide +kernel
set_option maxRecDepth 20000 in
theorem ggX5_days_X5_in : GoodIn wsX5_days wsX5_in := goodIn_r _ [12] (by decide +kernel) (by decide +kernel)
set_option maxRecDepth 20000 in
theorem gX5_days_X5_in : GoodIn wsX5_days (va_wsS RX5 69 yX5_in wsX5_in) := goodIn_app (goodIn_of _ (by decide +kernel)) ggX5_days_X5_in
set_option maxRecDepth 20000 in
theorem ggX5_days_X5_copy : GoodIn wsX5_days wsX5_copy := goodIn_r _ [15] (by decide +kernel) (by decide +kernel)
set_option maxRecDepth 20000 in
theorem gX5_days_X5_copy : GoodIn wsX5_days (va_wsS RX5 190 yX5_copy wsX5_copy) := goodIn_app (goodIn_of _ (by decide +kernel)) ggX5_days_X5_copy
set_option maxRecDepth 20000 in
theorem ggX5_days_X5_noLegger : GoodIn wsX5_days wsX5_noLegger := goodIn_r _ [19, 20, 9, 10, 11, 12, 70, 71, 72, 73, 74, 75, 76, 77, 78, 79, 80, 81, 82, 83, 84, 85, 86, 87, 88, 89, 90, 91, 92, 93, 94, 95, 96, 97, 98, 99, 100, 101, 102, 103, 104, 105, 106] (by decide +kernel) (by decide +kernel)
set_option maxRecDepth 20000 in
theorem gX5_days_X5_noLegger : GoodIn wsX5_days (wsV RX5 124 RX5 yX5_noLegger wsX5_noLegger) := goodIn_app (goodIn_of _ (by decide +kernel)) ggX5_days_X5_noLegger
set_option maxRecDepth 20000 in
theorem ggX5_days_X5_findSoonest : GoodIn wsX5_days wsX5_findSoonest := goodIn_r _ [24, 25, 4, 26, 27, 28, 29, 30, 31, 32, 33, 34, 11, 35, 20, 36, 37, 38, 39, 40, 41, 13, 14, 15, 42, 43, 44, 45, 46, 47, 48, 49, 50, 51, 52, 53, 54, 55, 56, 57, 58, 59, 60, 61, 62, 63, 64, 65, 70, 71, 72, 73, 74, 75, 76, 77, 78, 79, 80, 81, 82, 83, 84, 85, 86, 87, 88, 89, 90, 91, 92, 93, 94, 95, 96, 97, 98, 99, 100, 101, 102, 103, 104, 105, 106] (by decide +kernel) (by decide +kernel)
set_option maxRecDepth 20000 in
theorem gX5_days_X5_findSoonest : GoodIn wsX5_days (wsV RX5 194 RX5 yX5_findSoonest wsX5_findSoonest) := goodIn_app (goodIn_of _ (by decide +kernel)) ggX5_days_X5_findSoonest
set_option maxRecDepth 20000 in
theorem ggX5_days_X5_goSoonest : GoodIn wsX5_days wsX5_goSoonest := goodIn_r _ [69, 25, 28, 4, 39, 40, 11, 41, 45, 46, 47, 48, 49, 50, 51, 52, 53, 54, 55, 56, 57, 58, 59, 60, 61, 62, 63, 64, 65, 70, 71, 72, 73, 74, 75, 76, 77, 78, 79, 80, 81, 82, 83, 84, 85, 86, 87, 88, 89, 90, 91, 92, 93, 94, 95, 96, 97, 98, 99, 100, 101, 102, 103, 104, 105, 106] (by decide +kernel) (by decide +kernel)
set_option maxRecDepth 20000 in
theorem gX5_days_X5_goSoonest : GoodIn wsX5_days (wsV RX5 242 RX5 yX5_goSoonest wsX5_goSoonest) := goodIn_app (goodIn_of _ (by decide +kernel)) ggX5_days_X5_goSoonest
theorem dX5_days_0 : decode cX5_days 0 = .ok (.aload_n 0, 1) := by decide +kernel
theorem dX5_days_1 : decode cX5_days 1 = .ok (.iconst 0, 1) := by decide +kernel
theorem dX5_days_2 : decode cX5_days 2 = .ok (.putfield 63, 3) := by decide +kernel
theorem dX5_days_5 : decode cX5_days 5 = .ok (.iload_n 1, 1) := by decide +kernel
theorem dX5_days_6 : decode cX5_days 6 = .ok (.i2l, 1) := by decide +kernel
theorem dX5_days_7 : decode cX5_days 7 = .ok (.lconst 1, 1) := by decide +kernel
theorem dX5_days_8 : decode cX5_days 8 = .ok (.ldc2_w 234, 3) := by decide +kernel
theorem dX5_days_11 : decode cX5_days 11 = .ok (.invokestatic 69, 3) := by decide +kernel
theorem dX5_days_14 : decode cX5_days 14 = .ok (.ifCond .ne 6, 3) := by decide +kernel
theorem dX5_days_17 : decode cX5_days 17 = .ok (.bipush (-2), 2) := by decide +kernel
theorem dX5_days_19 : decode cX5_days 19 = .ok (.ireturn, 1) := by decide +kernel
theorem dX5_days_20 : decode cX5_days 20 = .ok (.aload_n 0, 1) := by decide +kernel
theorem dX5_days_21 : decode cX5_days 21 = .ok (.getfield 29, 3) := by decide +kernel
theorem dX5_days_24 : decode cX5_days 24 = .ok (.aload_n 0, 1) := by decide +kernel
theorem dX5_days_25 : decode cX5_days 25 = .ok (.getfield 35, 3) := by decide +kernel
theorem dX5_days_28 : decode cX5_days 28 = .ok (.invokestatic 190, 3) := by decide +kernel
theorem dX5_days_31 : decode cX5_days 31 = .ok (.iconst 0, 1) := by decide +kernel
theorem dX5_days_32 : decode cX5_days 32 = .ok (.istore_n 2, 1) := by decide +kernel
theorem dX5_days_33 : decode cX5_days 33 = .ok (.iload_n 2, 1) := by decide +kernel
theorem dX5_days_34 : decode cX5_days 34 = .ok (.iload_n 1, 1) := by decide +kernel
theorem dX5_days_35 : decode cX5_days 35 = .ok (.if_icmp .ge 110, 3) := by decide +kernel
theorem dX5_days_38 : decode cX5_days 38 = .ok (.aload_n 0, 1) := by decide +kernel
theorem dX5_days_39 : decode cX5_days 39 = .ok (.aload_n 0, 1) := by decide +kernel
theorem dX5_days_40 : decode cX5_days 40 = .ok (.getfield 230, 3) := by decide +kernel
theorem dX5_days_43 : decode cX5_days 43 = .ok (.ldc2_w 236, 3) := by decide +kernel
theorem dX5_days_46 : decode cX5_days 46 = .ok (.lmul, 1) := by decide +kernel
theorem dX5_days_47 : decode cX5_days 47 = .ok (.ldc2_w 238, 3) := by decide +kernel
theorem dX5_days_50 : decode cX5_days 50 = .ok (.ladd, 1) := by decide +kernel
theorem dX5_days_51 : decode cX5_days 51 = .ok (.putfield 230, 3) := by decide +kernel
theorem dX5_days_54 : decode cX5_days 54 = .ok (.aload_n 0, 1) := by decide +kernel
theorem dX5_days_55 : decode cX5_days 55 = .ok (.getfield 230, 3) := by decide +kernel
theorem dX5_days_58 : decode cX5_days 58 = .ok (.bipush 33, 2) := by decide +kernel
theorem dX5_days_60 : decode cX5_days 60 = .ok (.lushr, 1) := by decide +kernel
theorem dX5_days_61 : decode cX5_days 61 = .ok (.ldc2_w 240, 3) := by decide +kernel
theorem dX5_days_64 : decode cX5_days 64 = .ok (.lrem, 1) := by decide +kernel
theorem dX5_days_65 : decode cX5_days 65 = .ok (.l2i, 1) := by decide +kernel
theorem dX5_days_66 : decode cX5_days 66 = .ok (.istore_n 3, 1) := by decide +kernel
theorem dX5_days_67 : decode cX5_days 67 = .ok (.iload_n 3, 1) := by decide +kernel
theorem dX5_days_68 : decode cX5_days 68 = .ok (.iconst 4, 1) := by decide +kernel
theorem dX5_days_69 : decode cX5_days 69 = .ok (.idiv, 1) := by decide +kernel
theorem dX5_days_70 : decode cX5_days 70 = .ok (.iconst 4, 1) := by decide +kernel
theorem dX5_days_71 : decode cX5_days 71 = .ok (.if_icmp .ge 52, 3) := by decide +kernel
theorem dX5_days_74 : decode cX5_days 74 = .ok (.aload_n 0, 1) := by decide +kernel
theorem dX5_days_75 : decode cX5_days 75 = .ok (.getfield 35, 3) := by decide +kernel
theorem dX5_days_78 : decode cX5_days 78 = .ok (.iconst 0, 1) := by decide +kernel
theorem dX5_days_79 : decode cX5_days 79 = .ok (.iconst 4, 1) := by decide +kernel
theorem dX5_days_80 : decode cX5_days 80 = .ok (.iload_n 3, 1) := by decide +kernel
theorem dX5_days_81 : decode cX5_days 81 = .ok (.iconst 4, 1) := by decide +kernel
theorem dX5_days_82 : decode cX5_days 82 = .ok (.irem, 1) := by decide +kernel
theorem dX5_days_83 : decode cX5_days 83 = .ok (.imul, 1) := by decide +kernel
theorem dX5_days_84 : decode cX5_days 84 = .ok (.iadd, 1) := by decide +kernel
theorem dX5_days_85 : decode cX5_days 85 = .ok (.iload_n 3, 1) := by decide +kernel
theorem dX5_days_86 : decode cX5_days 86 = .ok (.iconst 4, 1) := by decide +kernel
theorem dX5_days_87 : decode cX5_days 87 = .ok (.idiv, 1) := by decide +kernel
theorem dX5_days_88 : decode cX5_days 88 = .ok (.iadd, 1) := by decide +kernel
theorem dX5_days_89 : decode cX5_days 89 = .ok (.aload_n 0, 1) := by decide +kernel
theorem dX5_days_90 : decode cX5_days 90 = .ok (.iload_n 3, 1) := by decide +kernel
theorem dX5_days_91 : decode cX5_days 91 = .ok (.iconst 4, 1) := by decide +kernel
theorem dX5_days_92 : decode cX5_days 92 = .ok (.irem, 1) := by decide +kernel
theorem dX5_days_93 : decode cX5_days 93 = .ok (.invokevirtual 124, 3) := by decide +kernel
theorem dX5_days_96 : decode cX5_days 96 = .ok (.ifCond .eq 22, 3) := by decide +kernel
theorem dX5_days_99 : decode cX5_days 99 = .ok (.aload_n 0, 1) := by decide +kernel
theorem dX5_days_100 : decode cX5_days 100 = .ok (.getfield 35, 3) := by decide +kernel
theorem dX5_days_103 : decode cX5_days 103 = .ok (.iconst 0, 1) := by decide +kernel
theorem dX5_days_104 : decode cX5_days 104 = .ok (.iconst 4, 1) := by decide +kernel
theorem dX5_days_105 : decode cX5_days 105 = .ok (.iload_n 3, 1) := by decide +kernel
theorem dX5_days_106 : decode cX5_days 106 = .ok (.iconst 4, 1) := by decide +kernel
theorem dX5_days_107 : decode cX5_days 107 = .ok (.irem, 1) := by decide +kernel
theorem dX5_days_108 : decode cX5_days 108 = .ok (.imul, 1) := by decide +kernel
theorem dX5_days_109 : decode cX5_days 109 = .ok (.iadd, 1) := by decide +kernel
theorem dX5_days_110 : decode cX5_days 110 = .ok (.iload_n 3, 1) := by decide +kernel
theorem dX5_days_111 : decode cX5_days 111 = .ok (.iconst 4, 1) := by decide +kernel
theorem dX5_days_112 : decode cX5_days 112 = .ok (.idiv, 1) := by decide +kernel
theorem dX5_days_113 : decode cX5_days 113 = .ok (.iadd, 1) := by decide +kernel
theorem dX5_days_114 : decode cX5_days 114 = .ok (.iaload, 1) := by decide +kernel
theorem dX5_days_115 : decode cX5_days 115 = .ok (.goto 4, 3) := by decide +kernel
theorem dX5_days_118 : decode cX5_days 118 = .ok (.iconst 2, 1) := by decide +kernel
theorem dX5_days_119 : decode cX5_days 119 = .ok (.iastore, 1) := by decide +kernel
theorem dX5_days_120 : decode cX5_days 120 = .ok (.goto 19, 3) := by decide +kernel
theorem dX5_days_123 : decode cX5_days 123 = .ok (.aload_n 0, 1) := by decide +kernel
theorem dX5_days_124 : decode cX5_days 124 = .ok (.getfield 35, 3) := by decide +kernel
theorem dX5_days_127 : decode cX5_days 127 = .ok (.bipush 20, 2) := by decide +kernel
theorem dX5_days_129 : decode cX5_days 129 = .ok (.iconst 0, 1) := by decide +kernel
theorem dX5_days_130 : decode cX5_days 130 = .ok (.iastore, 1) := by decide +kernel
theorem dX5_days_131 : decode cX5_days 131 = .ok (.aload_n 0, 1) := by decide +kernel
theorem dX5_days_132 : decode cX5_days 132 = .ok (.invokevirtual 194, 3) := by decide +kernel
theorem dX5_days_135 : decode cX5_days 135 = .ok (.aload_n 0, 1) := by decide +kernel
theorem dX5_days_136 : decode cX5_days 136 = .ok (.invokevirtual 242, 3) := by decide +kernel
theorem dX5_days_139 : decode cX5_days 139 = .ok (.iinc 2 1, 3) := by decide +kernel
theorem dX5_days_142 : decode cX5_days 142 = .ok (.goto (-109), 3) := by decide +kernel
theorem dX5_days_145 : decode cX5_days 145 = .ok (.aload_n 0, 1) := by decide +kernel
theorem dX5_days_146 : decode cX5_days 146 = .ok (.getfield 35, 3) := by decide +kernel
theorem dX5_days_149 : decode cX5_days 149 = .ok (.bipush 21, 2) := by decide +kernel
theorem dX5_days_151 : decode cX5_days 151 = .ok (.iaload, 1) := by decide +kernel
theorem dX5_days_152 : decode cX5_days 152 = .ok (.aload_n 0, 1) := by decide +kernel
theorem dX5_days_153 : decode cX5_days 153 = .ok (.getfield 29, 3) := by decide +kernel
theorem dX5_days_156 : decode cX5_days 156 = .ok (.bipush 21, 2) := by decide +kernel
theorem dX5_days_158 : decode cX5_days 158 = .ok (.iaload, 1) := by decide +kernel
theorem dX5_days_159 : decode cX5_days 159 = .ok (.isub, 1) := by decide +kernel
theorem dX5_days_160 : decode cX5_days 160 = .ok (.ireturn, 1) := by decide +kernel
set_option maxRecDepth 20000 in
theorem ggX5_goSoonest_X5_power : GoodIn wsX5_goSoonest wsX5_power := goodIn_r _ [7] (by decide +kernel) (by decide +kernel)
set_option maxRecDepth 20000 in
theorem gX5_goSoonest_X5_power : GoodIn wsX5_goSoonest (va_wsS RX5 187 yX5_power wsX5_power) := goodIn_app (goodIn_of _ (by decide +kernel)) ggX5_goSoonest_X5_power
set_option maxRecDepth 20000 in
theorem ggX5_goSoonest_X5_goLeg : GoodIn wsX5_goSoonest wsX5_goLeg := goodIn_r _ [11, 12, 13, 14, 15, 6, 16, 17, 18, 19, 20, 21, 22, 23, 24, 25, 26, 27, 28, 29, 30, 31, 32, 33, 34, 35, 36, 37, 38, 39, 40, 41, 42, 43, 44, 45, 46, 47, 48, 49, 50, 51, 52, 53, 54, 55, 56, 57, 58, 59, 60, 61, 62, 63, 64, 65] (by decide +kernel) (by decide +kernel)
set_option maxRecDepth 20000 in
theorem gX5_goSoonest_X5_goLeg : GoodIn wsX5_goSoonest (wsV RX5 148 RX5 yX5_goLeg wsX5_goLeg) := goodIn_app (goodIn_of _ (by decide +kernel)) ggX5_goSoonest_X5_goLeg
theorem dX5_goSoonest_0 : decode cX5_goSoonest 0 = .ok (.aload_n 0, 1) := by decide +kernel
theorem dX5_goSoonest_1 : decode cX5_goSoonest 1 = .ok (.getfield 73, 3) := by decide +kernel
theorem dX5_goSoonest_4 : decode cX5_goSoonest 4 = .ok (.iconst 1, 1) := by decide +kernel
theorem dX5_goSoonest_5 : decode cX5_goSoonest 5 = .ok (.isub, 1) := by decide +kernel
theorem dX5_goSoonest_6 : decode cX5_goSoonest 6 = .ok (.istore_n 1, 1) := by decide +kernel
theorem dX5_goSoonest_7 : decode cX5_goSoonest 7 = .ok (.iload_n 1, 1) := by decide +kernel
theorem dX5_goSoonest_8 : decode cX5_goSoonest 8 = .ok (.ifCond .lt 58, 3) := by decide +kernel
theorem dX5_goSoonest_11 : decode cX5_goSoonest 11 = .ok (.aload_n 0, 1) := by decide +kernel
theorem dX5_goSoonest_12 : decode cX5_goSoonest 12 = .ok (.getfield 184, 3) := by decide +kernel
theorem dX5_goSoonest_15 : decode cX5_goSoonest 15 = .ok (.bipush (-9), 2) := by decide +kernel
theorem dX5_goSoonest_17 : decode cX5_goSoonest 17 = .ok (.if_icmp .eq 49, 3) := by decide +kernel
theorem dX5_goSoonest_20 : decode cX5_goSoonest 20 = .ok (.aload_n 0, 1) := by decide +kernel
theorem dX5_goSoonest_21 : decode cX5_goSoonest 21 = .ok (.getfield 184, 3) := by decide +kernel
theorem dX5_goSoonest_24 : decode cX5_goSoonest 24 = .ok (.sipush 1000, 3) := by decide +kernel
theorem dX5_goSoonest_27 : decode cX5_goSoonest 27 = .ok (.iload_n 1, 1) := by decide +kernel
theorem dX5_goSoonest_28 : decode cX5_goSoonest 28 = .ok (.invokestatic 187, 3) := by decide +kernel
theorem dX5_goSoonest_31 : decode cX5_goSoonest 31 = .ok (.idiv, 1) := by decide +kernel
theorem dX5_goSoonest_32 : decode cX5_goSoonest 32 = .ok (.sipush 1000, 3) := by decide +kernel
theorem dX5_goSoonest_35 : decode cX5_goSoonest 35 = .ok (.irem, 1) := by decide +kernel
theorem dX5_goSoonest_36 : decode cX5_goSoonest 36 = .ok (.istore_n 2, 1) := by decide +kernel
theorem dX5_goSoonest_37 : decode cX5_goSoonest 37 = .ok (.aload_n 0, 1) := by decide +kernel
theorem dX5_goSoonest_38 : decode cX5_goSoonest 38 = .ok (.aload_n 0, 1) := by decide +kernel
theorem dX5_goSoonest_39 : decode cX5_goSoonest 39 = .ok (.getfield 35, 3) := by decide +kernel
theorem dX5_goSoonest_42 : decode cX5_goSoonest 42 = .ok (.iload_n 2, 1) := by decide +kernel
theorem dX5_goSoonest_43 : decode cX5_goSoonest 43 = .ok (.bipush 100, 2) := by decide +kernel
theorem dX5_goSoonest_45 : decode cX5_goSoonest 45 = .ok (.idiv, 1) := by decide +kernel
theorem dX5_goSoonest_46 : decode cX5_goSoonest 46 = .ok (.iload_n 2, 1) := by decide +kernel
theorem dX5_goSoonest_47 : decode cX5_goSoonest 47 = .ok (.bipush 10, 2) := by decide +kernel
theorem dX5_goSoonest_49 : decode cX5_goSoonest 49 = .ok (.idiv, 1) := by decide +kernel
theorem dX5_goSoonest_50 : decode cX5_goSoonest 50 = .ok (.bipush 10, 2) := by decide +kernel
theorem dX5_goSoonest_52 : decode cX5_goSoonest 52 = .ok (.irem, 1) := by decide +kernel
theorem dX5_goSoonest_53 : decode cX5_goSoonest 53 = .ok (.iload_n 2, 1) := by decide +kernel
theorem dX5_goSoonest_54 : decode cX5_goSoonest 54 = .ok (.bipush 10, 2) := by decide +kernel
theorem dX5_goSoonest_56 : decode cX5_goSoonest 56 = .ok (.irem, 1) := by decide +kernel
theorem dX5_goSoonest_57 : decode cX5_goSoonest 57 = .ok (.invokevirtual 148, 3) := by decide +kernel
theorem dX5_goSoonest_60 : decode cX5_goSoonest 60 = .ok (.iinc 1 (-1), 3) := by decide +kernel
theorem dX5_goSoonest_63 : decode cX5_goSoonest 63 = .ok (.goto (-56), 3) := by decide +kernel
theorem dX5_goSoonest_66 : decode cX5_goSoonest 66 = .ok (.return_, 1) := by decide +kernel
set_option maxRecDepth 20000 in
theorem ggX5_keep_X5_in : GoodIn wsX5_keep wsX5_in := goodIn_r _ [8] (by decide +kernel) (by decide +kernel)
set_option maxRecDepth 20000 in
theorem gX5_keep_X5_in : GoodIn wsX5_keep (va_wsS RX5 69 yX5_in wsX5_in) := goodIn_app (goodIn_of _ (by decide +kernel)) ggX5_keep_X5_in
theorem dX5_keep_0 : decode cX5_keep 0 = .ok (.aload_n 0, 1) := by decide +kernel
theorem dX5_keep_1 : decode cX5_keep 1 = .ok (.iconst 0, 1) := by decide +kernel
theorem dX5_keep_2 : decode cX5_keep 2 = .ok (.putfield 63, 3) := by decide +kernel
theorem dX5_keep_5 : decode cX5_keep 5 = .ok (.iload_n 1, 1) := by decide +kernel
theorem dX5_keep_6 : decode cX5_keep 6 = .ok (.i2l, 1) := by decide +kernel
theorem dX5_keep_7 : decode cX5_keep 7 = .ok (.lconst 0, 1) := by decide +kernel
theorem dX5_keep_8 : decode cX5_keep 8 = .ok (.lconst 1, 1) := by decide +kernel
theorem dX5_keep_9 : decode cX5_keep 9 = .ok (.invokestatic 69, 3) := by decide +kernel
theorem dX5_keep_12 : decode cX5_keep 12 = .ok (.ifCond .ne 5, 3) := by decide +kernel
theorem dX5_keep_15 : decode cX5_keep 15 = .ok (.iconst (-1), 1) := by decide +kernel
theorem dX5_keep_16 : decode cX5_keep 16 = .ok (.ireturn, 1) := by decide +kernel
theorem dX5_keep_17 : decode cX5_keep 17 = .ok (.aload_n 0, 1) := by decide +kernel
theorem dX5_keep_18 : decode cX5_keep 18 = .ok (.getfield 44, 3) := by decide +kernel
theorem dX5_keep_21 : decode cX5_keep 21 = .ok (.iload_n 1, 1) := by decide +kernel
theorem dX5_keep_22 : decode cX5_keep 22 = .ok (.iconst 1, 1) := by decide +kernel
theorem dX5_keep_23 : decode cX5_keep 23 = .ok (.bastore, 1) := by decide +kernel
theorem dX5_keep_24 : decode cX5_keep 24 = .ok (.iconst 0, 1) := by decide +kernel
theorem dX5_keep_25 : decode cX5_keep 25 = .ok (.istore_n 2, 1) := by decide +kernel
theorem dX5_keep_26 : decode cX5_keep 26 = .ok (.iload_n 2, 1) := by decide +kernel
theorem dX5_keep_27 : decode cX5_keep 27 = .ok (.bipush 22, 2) := by decide +kernel
theorem dX5_keep_29 : decode cX5_keep 29 = .ok (.if_icmp .ge 26, 3) := by decide +kernel
theorem dX5_keep_32 : decode cX5_keep 32 = .ok (.aload_n 0, 1) := by decide +kernel
theorem dX5_keep_33 : decode cX5_keep 33 = .ok (.getfield 41, 3) := by decide +kernel
theorem dX5_keep_36 : decode cX5_keep 36 = .ok (.bipush 22, 2) := by decide +kernel
theorem dX5_keep_38 : decode cX5_keep 38 = .ok (.iload_n 1, 1) := by decide +kernel
theorem dX5_keep_39 : decode cX5_keep 39 = .ok (.imul, 1) := by decide +kernel
theorem dX5_keep_40 : decode cX5_keep 40 = .ok (.iload_n 2, 1) := by decide +kernel
theorem dX5_keep_41 : decode cX5_keep 41 = .ok (.iadd, 1) := by decide +kernel
theorem dX5_keep_42 : decode cX5_keep 42 = .ok (.aload_n 0, 1) := by decide +kernel
theorem dX5_keep_43 : decode cX5_keep 43 = .ok (.getfield 29, 3) := by decide +kernel
theorem dX5_keep_46 : decode cX5_keep 46 = .ok (.iload_n 2, 1) := by decide +kernel
theorem dX5_keep_47 : decode cX5_keep 47 = .ok (.iaload, 1) := by decide +kernel
theorem dX5_keep_48 : decode cX5_keep 48 = .ok (.iastore, 1) := by decide +kernel
theorem dX5_keep_49 : decode cX5_keep 49 = .ok (.iinc 2 1, 3) := by decide +kernel
theorem dX5_keep_52 : decode cX5_keep 52 = .ok (.goto (-26), 3) := by decide +kernel
theorem dX5_keep_55 : decode cX5_keep 55 = .ok (.aload_n 0, 1) := by decide +kernel
theorem dX5_keep_56 : decode cX5_keep 56 = .ok (.getfield 29, 3) := by decide +kernel
theorem dX5_keep_59 : decode cX5_keep 59 = .ok (.bipush 21, 2) := by decide +kernel
theorem dX5_keep_61 : decode cX5_keep 61 = .ok (.iaload, 1) := by decide +kernel
theorem dX5_keep_62 : decode cX5_keep 62 = .ok (.ireturn, 1) := by decide +kernel
set_option maxRecDepth 20000 in
theorem ggX5_again_X5_in : GoodIn wsX5_again wsX5_in := goodIn_r _ [9] (by decide +kernel) (by decide +kernel)
set_option maxRecDepth 20000 in
theorem gX5_again_X5_in : GoodIn wsX5_again (va_wsS RX5 69 yX5_in wsX5_in) := goodIn_app (goodIn_of _ (by decide +kernel)) ggX5_again_X5_in
theorem dX5_again_0 : decode cX5_again 0 = .ok (.aload_n 0, 1) := by decide +kernel
theorem dX5_again_1 : decode cX5_again 1 = .ok (.iconst 0, 1) := by decide +kernel
theorem dX5_again_2 : decode cX5_again 2 = .ok (.putfield 63, 3) := by decide +kernel
theorem dX5_again_5 : decode cX5_again 5 = .ok (.iload_n 1, 1) := by decide +kernel
theorem dX5_again_6 : decode cX5_again 6 = .ok (.i2l, 1) := by decide +kernel
theorem dX5_again_7 : decode cX5_again 7 = .ok (.lconst 0, 1) := by decide +kernel
theorem dX5_again_8 : decode cX5_again 8 = .ok (.lconst 1, 1) := by decide +kernel
theorem dX5_again_9 : decode cX5_again 9 = .ok (.invokestatic 69, 3) := by decide +kernel
theorem dX5_again_12 : decode cX5_again 12 = .ok (.ifCond .ne 5, 3) := by decide +kernel
theorem dX5_again_15 : decode cX5_again 15 = .ok (.iconst (-1), 1) := by decide +kernel
theorem dX5_again_16 : decode cX5_again 16 = .ok (.ireturn, 1) := by decide +kernel
theorem dX5_again_17 : decode cX5_again 17 = .ok (.aload_n 0, 1) := by decide +kernel
theorem dX5_again_18 : decode cX5_again 18 = .ok (.getfield 44, 3) := by decide +kernel
theorem dX5_again_21 : decode cX5_again 21 = .ok (.iload_n 1, 1) := by decide +kernel
theorem dX5_again_22 : decode cX5_again 22 = .ok (.baload, 1) := by decide +kernel
theorem dX5_again_23 : decode cX5_again 23 = .ok (.ifCond .ne 6, 3) := by decide +kernel
theorem dX5_again_26 : decode cX5_again 26 = .ok (.bipush (-3), 2) := by decide +kernel
theorem dX5_again_28 : decode cX5_again 28 = .ok (.ireturn, 1) := by decide +kernel
theorem dX5_again_29 : decode cX5_again 29 = .ok (.iconst 0, 1) := by decide +kernel
theorem dX5_again_30 : decode cX5_again 30 = .ok (.istore_n 2, 1) := by decide +kernel
theorem dX5_again_31 : decode cX5_again 31 = .ok (.iload_n 2, 1) := by decide +kernel
theorem dX5_again_32 : decode cX5_again 32 = .ok (.bipush 22, 2) := by decide +kernel
theorem dX5_again_34 : decode cX5_again 34 = .ok (.if_icmp .ge 26, 3) := by decide +kernel
theorem dX5_again_37 : decode cX5_again 37 = .ok (.aload_n 0, 1) := by decide +kernel
theorem dX5_again_38 : decode cX5_again 38 = .ok (.getfield 29, 3) := by decide +kernel
theorem dX5_again_41 : decode cX5_again 41 = .ok (.iload_n 2, 1) := by decide +kernel
theorem dX5_again_42 : decode cX5_again 42 = .ok (.aload_n 0, 1) := by decide +kernel
theorem dX5_again_43 : decode cX5_again 43 = .ok (.getfield 41, 3) := by decide +kernel
theorem dX5_again_46 : decode cX5_again 46 = .ok (.bipush 22, 2) := by decide +kernel
theorem dX5_again_48 : decode cX5_again 48 = .ok (.iload_n 1, 1) := by decide +kernel
theorem dX5_again_49 : decode cX5_again 49 = .ok (.imul, 1) := by decide +kernel
theorem dX5_again_50 : decode cX5_again 50 = .ok (.iload_n 2, 1) := by decide +kernel
theorem dX5_again_51 : decode cX5_again 51 = .ok (.iadd, 1) := by decide +kernel
theorem dX5_again_52 : decode cX5_again 52 = .ok (.iaload, 1) := by decide +kernel
theorem dX5_again_53 : decode cX5_again 53 = .ok (.iastore, 1) := by decide +kernel
theorem dX5_again_54 : decode cX5_again 54 = .ok (.iinc 2 1, 3) := by decide +kernel
theorem dX5_again_57 : decode cX5_again 57 = .ok (.goto (-26), 3) := by decide +kernel
theorem dX5_again_60 : decode cX5_again 60 = .ok (.aload_n 0, 1) := by decide +kernel
theorem dX5_again_61 : decode cX5_again 61 = .ok (.iconst 0, 1) := by decide +kernel
theorem dX5_again_62 : decode cX5_again 62 = .ok (.putfield 107, 3) := by decide +kernel
theorem dX5_again_65 : decode cX5_again 65 = .ok (.aload_n 0, 1) := by decide +kernel
theorem dX5_again_66 : decode cX5_again 66 = .ok (.getfield 29, 3) := by decide +kernel
theorem dX5_again_69 : decode cX5_again 69 = .ok (.bipush 21, 2) := by decide +kernel
theorem dX5_again_71 : decode cX5_again 71 = .ok (.iaload, 1) := by decide +kernel
theorem dX5_again_72 : decode cX5_again 72 = .ok (.ireturn, 1) := by decide +kernel
theorem dJ6_bitCount_0f7a4_0 : decode cJ6_bitCount_0f7a4 0 = .ok (.iload_n 0, 1) := by decide +kernel
theorem dJ6_bitCount_0f7a4_1 : decode cJ6_bitCount_0f7a4 1 = .ok (.iload_n 0, 1) := by decide +kernel
theorem dJ6_bitCount_0f7a4_2 : decode cJ6_bitCount_0f7a4 2 = .ok (.iconst 1, 1) := by decide +kernel
theorem dJ6_bitCount_0f7a4_3 : decode cJ6_bitCount_0f7a4 3 = .ok (.iushr, 1) := by decide +kernel
theorem dJ6_bitCount_0f7a4_4 : decode cJ6_bitCount_0f7a4 4 = .ok (.ldc_w 265, 3) := by decide +kernel
theorem dJ6_bitCount_0f7a4_7 : decode cJ6_bitCount_0f7a4 7 = .ok (.iand, 1) := by decide +kernel
theorem dJ6_bitCount_0f7a4_8 : decode cJ6_bitCount_0f7a4 8 = .ok (.isub, 1) := by decide +kernel
theorem dJ6_bitCount_0f7a4_9 : decode cJ6_bitCount_0f7a4 9 = .ok (.istore_n 0, 1) := by decide +kernel
theorem dJ6_bitCount_0f7a4_10 : decode cJ6_bitCount_0f7a4 10 = .ok (.iload_n 0, 1) := by decide +kernel
theorem dJ6_bitCount_0f7a4_11 : decode cJ6_bitCount_0f7a4 11 = .ok (.ldc_w 266, 3) := by decide +kernel
theorem dJ6_bitCount_0f7a4_14 : decode cJ6_bitCount_0f7a4 14 = .ok (.iand, 1) := by decide +kernel
theorem dJ6_bitCount_0f7a4_15 : decode cJ6_bitCount_0f7a4 15 = .ok (.iload_n 0, 1) := by decide +kernel
theorem dJ6_bitCount_0f7a4_16 : decode cJ6_bitCount_0f7a4 16 = .ok (.iconst 2, 1) := by decide +kernel
theorem dJ6_bitCount_0f7a4_17 : decode cJ6_bitCount_0f7a4 17 = .ok (.iushr, 1) := by decide +kernel
theorem dJ6_bitCount_0f7a4_18 : decode cJ6_bitCount_0f7a4 18 = .ok (.ldc_w 266, 3) := by decide +kernel
theorem dJ6_bitCount_0f7a4_21 : decode cJ6_bitCount_0f7a4 21 = .ok (.iand, 1) := by decide +kernel
theorem dJ6_bitCount_0f7a4_22 : decode cJ6_bitCount_0f7a4 22 = .ok (.iadd, 1) := by decide +kernel
theorem dJ6_bitCount_0f7a4_23 : decode cJ6_bitCount_0f7a4 23 = .ok (.istore_n 0, 1) := by decide +kernel
theorem dJ6_bitCount_0f7a4_24 : decode cJ6_bitCount_0f7a4 24 = .ok (.iload_n 0, 1) := by decide +kernel
theorem dJ6_bitCount_0f7a4_25 : decode cJ6_bitCount_0f7a4 25 = .ok (.iload_n 0, 1) := by decide +kernel
theorem dJ6_bitCount_0f7a4_26 : decode cJ6_bitCount_0f7a4 26 = .ok (.iconst 4, 1) := by decide +kernel
theorem dJ6_bitCount_0f7a4_27 : decode cJ6_bitCount_0f7a4 27 = .ok (.iushr, 1) := by decide +kernel
theorem dJ6_bitCount_0f7a4_28 : decode cJ6_bitCount_0f7a4 28 = .ok (.iadd, 1) := by decide +kernel
theorem dJ6_bitCount_0f7a4_29 : decode cJ6_bitCount_0f7a4 29 = .ok (.ldc_w 267, 3) := by decide +kernel
theorem dJ6_bitCount_0f7a4_32 : decode cJ6_bitCount_0f7a4 32 = .ok (.iand, 1) := by decide +kernel
theorem dJ6_bitCount_0f7a4_33 : decode cJ6_bitCount_0f7a4 33 = .ok (.istore_n 0, 1) := by decide +kernel
theorem dJ6_bitCount_0f7a4_34 : decode cJ6_bitCount_0f7a4 34 = .ok (.iload_n 0, 1) := by decide +kernel
theorem dJ6_bitCount_0f7a4_35 : decode cJ6_bitCount_0f7a4 35 = .ok (.iload_n 0, 1) := by decide +kernel
theorem dJ6_bitCount_0f7a4_36 : decode cJ6_bitCount_0f7a4 36 = .ok (.bipush 8, 2) := by decide +kernel
theorem dJ6_bitCount_0f7a4_38 : decode cJ6_bitCount_0f7a4 38 = .ok (.iushr, 1) := by decide +kernel
theorem dJ6_bitCount_0f7a4_39 : decode cJ6_bitCount_0f7a4 39 = .ok (.iadd, 1) := by decide +kernel
theorem dJ6_bitCount_0f7a4_40 : decode cJ6_bitCount_0f7a4 40 = .ok (.istore_n 0, 1) := by decide +kernel
theorem dJ6_bitCount_0f7a4_41 : decode cJ6_bitCount_0f7a4 41 = .ok (.iload_n 0, 1) := by decide +kernel
theorem dJ6_bitCount_0f7a4_42 : decode cJ6_bitCount_0f7a4 42 = .ok (.iload_n 0, 1) := by decide +kernel
theorem dJ6_bitCount_0f7a4_43 : decode cJ6_bitCount_0f7a4 43 = .ok (.bipush 16, 2) := by decide +kernel
theorem dJ6_bitCount_0f7a4_45 : decode cJ6_bitCount_0f7a4 45 = .ok (.iushr, 1) := by decide +kernel
theorem dJ6_bitCount_0f7a4_46 : decode cJ6_bitCount_0f7a4 46 = .ok (.iadd, 1) := by decide +kernel
theorem dJ6_bitCount_0f7a4_47 : decode cJ6_bitCount_0f7a4 47 = .ok (.istore_n 0, 1) := by decide +kernel
theorem dJ6_bitCount_0f7a4_48 : decode cJ6_bitCount_0f7a4 48 = .ok (.iload_n 0, 1) := by decide +kernel
theorem dJ6_bitCount_0f7a4_49 : decode cJ6_bitCount_0f7a4 49 = .ok (.bipush 63, 2) := by decide +kernel
theorem dJ6_bitCount_0f7a4_51 : decode cJ6_bitCount_0f7a4 51 = .ok (.iand, 1) := by decide +kernel
theorem dJ6_bitCount_0f7a4_52 : decode cJ6_bitCount_0f7a4 52 = .ok (.ireturn, 1) := by decide +kernel
theorem dJ9_max_7cf53_0 : decode cJ9_max_7cf53 0 = .ok (.iload_n 0, 1) := by decide +kernel
theorem dJ9_max_7cf53_1 : decode cJ9_max_7cf53 1 = .ok (.iload_n 1, 1) := by decide +kernel
theorem dJ9_max_7cf53_2 : decode cJ9_max_7cf53 2 = .ok (.if_icmp .lt 7, 3) := by decide +kernel
theorem dJ9_max_7cf53_5 : decode cJ9_max_7cf53 5 = .ok (.iload_n 0, 1) := by decide +kernel
theorem dJ9_max_7cf53_6 : decode cJ9_max_7cf53 6 = .ok (.goto 4, 3) := by decide +kernel
theorem dJ9_max_7cf53_9 : decode cJ9_max_7cf53 9 = .ok (.iload_n 1, 1) := by decide +kernel
theorem dJ9_max_7cf53_10 : decode cJ9_max_7cf53 10 = .ok (.ireturn, 1) := by decide +kernel
theorem dJ9_min_7cf53_0 : decode cJ9_min_7cf53 0 = .ok (.iload_n 0, 1) := by decide +kernel
theorem dJ9_min_7cf53_1 : decode cJ9_min_7cf53 1 = .ok (.iload_n 1, 1) := by decide +kernel
theorem dJ9_min_7cf53_2 : decode cJ9_min_7cf53 2 = .ok (.if_icmp .gt 7, 3) := by decide +kernel
theorem dJ9_min_7cf53_5 : decode cJ9_min_7cf53 5 = .ok (.iload_n 0, 1) := by decide +kernel
theorem dJ9_min_7cf53_6 : decode cJ9_min_7cf53 6 = .ok (.goto 4, 3) := by decide +kernel
theorem dJ9_min_7cf53_9 : decode cJ9_min_7cf53 9 = .ok (.iload_n 1, 1) := by decide +kernel
theorem dJ9_min_7cf53_10 : decode cJ9_min_7cf53 10 = .ok (.ireturn, 1) := by decide +kernel
theorem dJ9_min_f86c9_0 : decode cJ9_min_f86c9 0 = .ok (.lload_n 0, 1) := by decide +kernel
theorem dJ9_min_f86c9_1 : decode cJ9_min_f86c9 1 = .ok (.lload_n 2, 1) := by decide +kernel
theorem dJ9_min_f86c9_2 : decode cJ9_min_f86c9 2 = .ok (.lcmp, 1) := by decide +kernel
theorem dJ9_min_f86c9_3 : decode cJ9_min_f86c9 3 = .ok (.ifCond .gt 7, 3) := by decide +kernel
theorem dJ9_min_f86c9_6 : decode cJ9_min_f86c9 6 = .ok (.lload_n 0, 1) := by decide +kernel
theorem dJ9_min_f86c9_7 : decode cJ9_min_f86c9 7 = .ok (.goto 4, 3) := by decide +kernel
theorem dJ9_min_f86c9_10 : decode cJ9_min_f86c9 10 = .ok (.lload_n 2, 1) := by decide +kernel
theorem dJ9_min_f86c9_11 : decode cJ9_min_f86c9 11 = .ok (.lreturn, 1) := by decide +kernel
set_option maxRecDepth 20000 in
theorem ggL_law_X4_init : GoodIn wsL_law wsX4_init := goodIn_r _ [9, 10, 11, 12, 13, 14, 15, 16, 17, 18, 19, 20, 21, 22, 23, 24, 25, 26, 27, 28, 29, 30, 31, 32, 33, 34, 35, 36, 37, 38, 39, 40, 41, 42, 43, 44, 45, 46, 713, 714, 666, 667, 668, 669, 670, 671, 672, 673, 674, 675, 715, 716, 717, 718, 719, 720, 721, 722, 723, 724, 725, 726] (by decide +kernel) (by decide +kernel)
set_option maxRecDepth 20000 in
theorem gL_law_X4_init : GoodIn wsL_law (wsX4_init) := ggL_law_X4_init
set_option maxRecDepth 20000 in
theorem ggL_law_X5_init : GoodIn wsL_law wsX5_init := goodIn_r _ [49, 50, 11, 12, 29, 51, 52, 53, 54, 55, 56, 57, 58, 59, 60, 61, 62, 63, 64, 65, 66, 67, 68, 676, 677, 678, 679, 680, 681, 682, 683, 684, 685, 686, 687, 688, 689, 690, 691, 692, 693, 694, 695, 696, 697, 698, 699, 700, 701, 702, 703, 704, 705, 706, 707, 708, 709, 710, 711, 712] (by decide +kernel) (by decide +kernel)
set_option maxRecDepth 20000 in
theorem gL_law_X5_init : GoodIn wsL_law (wsX5_init) := ggL_law_X5_init
set_option maxRecDepth 20000 in
theorem ggL_law_X4_write : GoodIn wsL_law wsX4_write := goodIn_r _ [72, 16, 73, 74, 75, 15, 76, 77, 35, 666, 667, 668, 669, 670, 671, 672, 673, 674, 675, 713, 714] (by decide +kernel) (by decide +kernel)
set_option maxRecDepth 20000 in
theorem gL_law_X4_write : GoodIn wsL_law (wsV RL 13 RX4 yX4_write wsX4_write) := goodIn_app (goodIn_of _ (by decide +kernel)) ggL_law_X4_write
set_option maxRecDepth 20000 in
theorem ggL_law_X5_write : GoodIn wsL_law wsX5_write := goodIn_r _ [81, 82, 83, 84, 51, 85, 86, 5, 87, 676, 677, 678, 679, 680, 681, 682, 683, 684, 685, 686, 687, 688, 689, 690, 691, 692, 693, 694, 695, 696, 697, 698, 699, 700, 701, 702, 703, 704, 705, 706, 707, 708, 709, 710, 711, 712] (by decide +kernel) (by decide +kernel)
set_option maxRecDepth 20000 in
theorem gL_law_X5_write : GoodIn wsL_law (wsV RL 17 RX5 yX5_write wsX5_write) := goodIn_app (goodIn_of _ (by decide +kernel)) ggL_law_X5_write
set_option maxRecDepth 20000 in
theorem ggL_law_X4_wipe : GoodIn wsL_law wsX4_wipe := goodIn_r _ [91, 16, 666, 667, 668, 669, 670, 671, 672, 673, 674, 675, 713, 714] (by decide +kernel) (by decide +kernel)
set_option maxRecDepth 20000 in
theorem gL_law_X4_wipe : GoodIn wsL_law (wsV RL 18 RX4 yX4_wipe wsX4_wipe) := goodIn_app (goodIn_of _ (by decide +kernel)) ggL_law_X4_wipe
set_option maxRecDepth 20000 in
theorem ggL_law_X5_wipe : GoodIn wsL_law wsX5_wipe := goodIn_r _ [95, 82, 84, 676, 677, 678, 679, 680, 681, 682, 683, 684, 685, 686, 687, 688, 689, 690, 691, 692, 693, 694, 695, 696, 697, 698, 699, 700, 701, 702, 703, 704, 705, 706, 707, 708, 709, 710, 711, 712] (by decide +kernel) (by decide +kernel)
set_option maxRecDepth 20000 in
theorem gL_law_X5_wipe : GoodIn wsL_law (wsV RL 22 RX5 yX5_wipe wsX5_wipe) := goodIn_app (goodIn_of _ (by decide +kernel)) ggL_law_X5_wipe
set_option maxRecDepth 20000 in
theorem ggL_law_X4_fault : GoodIn wsL_law wsX4_fault := goodIn_r _ [99, 16, 100, 101, 102, 15, 103, 77, 104, 105, 106, 107, 35, 666, 667, 668, 669, 670, 671, 672, 673, 674, 675, 713, 714] (by decide +kernel) (by decide +kernel)
set_option maxRecDepth 20000 in
theorem gL_law_X4_fault : GoodIn wsL_law (wsV RL 23 RX4 yX4_fault wsX4_fault) := goodIn_app (goodIn_of _ (by decide +kernel)) ggL_law_X4_fault
set_option maxRecDepth 20000 in
theorem ggL_law_X5_fault : GoodIn wsL_law wsX5_fault := goodIn_r _ [111, 82, 112, 113, 114, 5, 115, 116, 117, 118, 84, 51, 119, 120, 121, 122, 123, 85, 86, 87, 124, 125, 126, 127, 56, 128, 129, 130, 131, 55, 676, 677, 678, 679, 680, 681, 682, 683, 684, 685, 686, 687, 688, 689, 690, 691, 692, 693, 694, 695, 696, 697, 698, 699, 700, 701, 702, 703, 704, 705, 706, 707, 708, 709, 710, 711, 712] (by decide +kernel) (by decide +kernel)
set_option maxRecDepth 20000 in
theorem gL_law_X5_fault : GoodIn wsL_law (wsV RL 26 RX5 yX5_fault wsX5_fault) := goodIn_app (goodIn_of _ (by decide +kernel)) ggL_law_X5_fault
set_option maxRecDepth 20000 in
theorem ggL_law_X4_tunnel : GoodIn wsL_law wsX4_tunnel := goodIn_r _ [135, 16, 28, 136, 20, 100, 101, 102, 15, 103, 77, 104, 105, 106, 107, 35, 137, 138, 139, 2, 140, 24, 141, 142, 143, 144, 145, 146, 147, 19, 148, 39, 149, 150, 151, 152, 153, 154, 155, 23, 156, 157, 158, 159, 160, 161, 162, 163, 164, 165, 166, 167, 168, 169, 170, 171, 172, 173, 174, 175, 176, 27, 177, 178, 666, 667, 668, 669, 670, 671, 672, 673, 674, 675, 715, 716, 717, 718, 719, 713, 714, 720, 721, 722, 723, 724, 725, 726] (by decide +kernel) (by decide +kernel)
set_option maxRecDepth 20000 in
theorem gL_law_X4_tunnel : GoodIn wsL_law (wsV RL 27 RX4 yX4_tunnel wsX4_tunnel) := goodIn_app (goodIn_of _ (by decide +kernel)) ggL_law_X4_tunnel
set_option maxRecDepth 20000 in
theorem ggL_law_X5_tunnel : GoodIn wsL_law wsX5_tunnel := goodIn_r _ [182, 82, 119, 52, 117, 183, 118, 184, 57, 53, 55, 54, 56, 185, 63, 112, 113, 114, 5, 115, 116, 84, 51, 120, 121, 122, 123, 85, 86, 87, 124, 125, 126, 127, 128, 129, 130, 131, 676, 677, 678, 679, 680, 681, 682, 683, 684, 685, 686, 687, 688, 689, 690, 691, 692, 693, 694, 695, 696, 697, 698, 699, 700, 701, 702, 703, 704, 705, 706, 707, 708, 709, 710, 711, 712] (by decide +kernel) (by decide +kernel)
set_option maxRecDepth 20000 in
theorem gL_law_X5_tunnel : GoodIn wsL_law (wsV RL 30 RX5 yX5_tunnel wsX5_tunnel) := goodIn_app (goodIn_of _ (by decide +kernel)) ggL_law_X5_tunnel
set_option maxRecDepth 20000 in
theorem ggL_law_X4_about : GoodIn wsL_law wsX4_about := goodIn_r _ [189, 20, 24, 28, 190, 16, 666, 667, 668, 669, 670, 671, 672, 673, 674, 675, 715, 716, 717, 718, 719, 720, 721, 722, 723, 724, 725, 726, 713, 714] (by decide +kernel) (by decide +kernel)
set_option maxRecDepth 20000 in
theorem gL_law_X4_about : GoodIn wsL_law (wsV RL 31 RX4 yX4_about wsX4_about) := goodIn_app (goodIn_of _ (by decide +kernel)) ggL_law_X4_about
set_option maxRecDepth 20000 in
theorem ggL_law_X5_about : GoodIn wsL_law wsX5_about := goodIn_r _ [194, 82, 52, 183, 184, 57, 185, 195, 84, 676, 677, 678, 679, 680, 681, 682, 683, 684, 685, 686, 687, 688, 689, 690, 691, 692, 693, 694, 695, 696, 697, 698, 699, 700, 701, 702, 703, 704, 705, 706, 707, 708, 709, 710, 711, 712] (by decide +kernel) (by decide +kernel)
set_option maxRecDepth 20000 in
theorem gL_law_X5_about : GoodIn wsL_law (wsV RL 34 RX5 yX5_about wsX5_about) := goodIn_app (goodIn_of _ (by decide +kernel)) ggL_law_X5_about
set_option maxRecDepth 20000 in
theorem ggL_law_X4_legger : GoodIn wsL_law wsX4_legger := goodIn_r _ [199, 20, 24, 200, 201, 202, 19, 203, 149, 204, 205, 2, 206, 207, 208, 209, 23, 210, 157, 211, 212, 213, 214, 215, 216, 151, 217, 218, 219, 666, 667, 668, 669, 670, 671, 672, 673, 674, 675, 720, 721, 722, 723, 715, 716, 717, 718, 719] (by decide +kernel) (by decide +kernel)
set_option maxRecDepth 20000 in
theorem gL_law_X4_legger : GoodIn wsL_law (wsV RL 35 RX4 yX4_legger wsX4_legger) := goodIn_app (goodIn_of _ (by decide +kernel)) ggL_law_X4_legger
set_option maxRecDepth 20000 in
theorem ggL_law_X5_legger : GoodIn wsL_law wsX5_legger := goodIn_r _ [223, 82, 224, 57, 53, 225, 226, 227, 5, 228, 183, 85, 86, 87, 676, 677, 678, 679, 680, 681, 682, 683, 684, 685, 686, 687, 688, 689, 690, 691, 692, 693, 694, 695, 696, 697, 698, 699, 700, 701, 702, 703, 704, 705, 706, 707, 708, 709, 710, 711, 712] (by decide +kernel) (by decide +kernel)
set_option maxRecDepth 20000 in
theorem gL_law_X5_legger : GoodIn wsL_law (wsV RL 39 RX5 yX5_legger wsX5_legger) := goodIn_app (goodIn_of _ (by decide +kernel)) ggL_law_X5_legger
set_option maxRecDepth 20000 in
theorem ggL_law_X4_load : GoodIn wsL_law wsX4_load := goodIn_r _ [232, 20, 233, 234, 235, 19, 236, 150, 237, 238, 239, 240, 152, 666, 667, 668, 669, 670, 671, 672, 673, 674, 675, 715, 716, 717, 718, 719] (by decide +kernel) (by decide +kernel)
set_option maxRecDepth 20000 in
theorem gL_law_X4_load : GoodIn wsL_law (wsV RL 40 RX4 yX4_load wsX4_load) := goodIn_app (goodIn_of _ (by decide +kernel)) ggL_law_X4_load
set_option maxRecDepth 20000 in
theorem ggL_law_X5_load : GoodIn wsL_law wsX5_load := goodIn_r _ [244, 82, 54, 245, 246, 247, 5, 248, 184, 85, 86, 87, 676, 677, 678, 679, 680, 681, 682, 683, 684, 685, 686, 687, 688, 689, 690, 691, 692, 693, 694, 695, 696, 697, 698, 699, 700, 701, 702, 703, 704, 705, 706, 707, 708, 709, 710, 711, 712] (by decide +kernel) (by decide +kernel)
set_option maxRecDepth 20000 in
theorem gL_law_X5_load : GoodIn wsL_law (wsV RL 43 RX5 yX5_load wsX5_load) := goodIn_app (goodIn_of _ (by decide +kernel)) ggL_law_X5_load
set_option maxRecDepth 20000 in
theorem ggL_law_X4_leg : GoodIn wsL_law wsX4_leg := goodIn_r _ [252, 24, 28, 20, 253, 254, 255, 2, 256, 233, 234, 235, 19, 236, 150, 200, 201, 202, 203, 149, 257, 258, 259, 260, 261, 262, 27, 263, 178, 264, 46, 265, 266, 267, 23, 268, 157, 158, 159, 160, 269, 270, 271, 272, 273, 274, 275, 276, 207, 208, 209, 210, 211, 212, 277, 278, 279, 280, 281, 282, 283, 213, 214, 215, 216, 151, 217, 218, 219, 284, 285, 286, 237, 238, 239, 240, 152, 287, 288, 289, 290, 291, 292, 666, 667, 668, 669, 670, 671, 672, 673, 674, 675, 720, 721, 722, 723, 715, 716, 717, 718, 719, 724, 725, 726] (by decide +kernel) (by decide +kernel)
set_option maxRecDepth 20000 in
theorem gL_law_X4_leg : GoodIn wsL_law (wsV RL 44 RX4 yX4_leg wsX4_leg) := goodIn_app (goodIn_of _ (by decide +kernel)) ggL_law_X4_leg
set_option maxRecDepth 20000 in
theorem ggL_law_X5_leg : GoodIn wsL_law wsX5_leg := goodIn_r _ [296, 82, 57, 297, 298, 299, 5, 300, 245, 246, 247, 248, 184, 85, 86, 87, 225, 226, 227, 228, 183, 301, 302, 303, 304, 305, 306, 307, 185, 60, 308, 309, 310, 311, 54, 312, 313, 314, 315, 52, 316, 317, 318, 319, 53, 320, 321, 322, 323, 324, 325, 676, 677, 678, 679, 680, 681, 682, 683, 684, 685, 686, 687, 688, 689, 690, 691, 692, 693, 694, 695, 696, 697, 698, 699, 700, 701, 702, 703, 704, 705, 706, 707, 708, 709, 710, 711, 712] (by decide +kernel) (by decide +kernel)
set_option maxRecDepth 20000 in
theorem gL_law_X5_leg : GoodIn wsL_law (wsV RL 48 RX5 yX5_leg wsX5_leg) := goodIn_app (goodIn_of _ (by decide +kernel)) ggL_law_X5_leg
set_option maxRecDepth 20000 in
theorem ggL_law_X4_rest : GoodIn wsL_law wsX4_rest := goodIn_r _ [329, 20, 24, 28, 200, 201, 202, 19, 203, 149, 217, 218, 2, 219, 260, 261, 262, 27, 263, 178, 264, 46, 265, 266, 267, 23, 268, 157, 158, 159, 160, 666, 667, 668, 669, 670, 671, 672, 673, 674, 675, 720, 721, 722, 723, 715, 716, 717, 718, 719, 724, 725, 726] (by decide +kernel) (by decide +kernel)
set_option maxRecDepth 20000 in
theorem gL_law_X4_rest : GoodIn wsL_law (wsV RL 49 RX4 yX4_rest wsX4_rest) := goodIn_app (goodIn_of _ (by decide +kernel)) ggL_law_X4_rest
set_option maxRecDepth 20000 in
theorem ggL_law_X5_rest : GoodIn wsL_law wsX5_rest := goodIn_r _ [333, 82, 57, 225, 226, 227, 5, 228, 183, 85, 86, 87, 304, 305, 306, 307, 185, 60, 676, 677, 678, 679, 680, 681, 682, 683, 684, 685, 686, 687, 688, 689, 690, 691, 692, 693, 694, 695, 696, 697, 698, 699, 700, 701, 702, 703, 704, 705, 706, 707, 708, 709, 710, 711, 712] (by decide +kernel) (by decide +kernel)
set_option maxRecDepth 20000 in
theorem gL_law_X5_rest : GoodIn wsL_law (wsV RL 52 RX5 yX5_rest wsX5_rest) := goodIn_app (goodIn_of _ (by decide +kernel)) ggL_law_X5_rest
set_option maxRecDepth 20000 in
theorem ggL_law_X4_wet : GoodIn wsL_law wsX4_wet := goodIn_r _ [337, 24, 28, 338, 339, 340, 2, 341, 20, 200, 201, 202, 19, 203, 149, 204, 205, 206, 207, 208, 209, 23, 210, 157, 211, 212, 260, 261, 262, 27, 263, 178, 264, 46, 265, 266, 267, 268, 158, 159, 160, 162, 163, 164, 165, 666, 667, 668, 669, 670, 671, 672, 673, 674, 675, 715, 716, 717, 718, 719, 720, 721, 722, 723, 724, 725, 726] (by decide +kernel) (by decide +kernel)
set_option maxRecDepth 20000 in
theorem gL_law_X4_wet : GoodIn wsL_law (wsV RL 53 RX4 yX4_wet wsX4_wet) := goodIn_app (goodIn_of _ (by decide +kernel)) ggL_law_X4_wet
set_option maxRecDepth 20000 in
theorem ggL_law_X5_wet : GoodIn wsL_law wsX5_wet := goodIn_r _ [345, 82, 224, 57, 225, 226, 227, 5, 228, 183, 85, 86, 87, 304, 305, 306, 307, 185, 60, 676, 677, 678, 679, 680, 681, 682, 683, 684, 685, 686, 687, 688, 689, 690, 691, 692, 693, 694, 695, 696, 697, 698, 699, 700, 701, 702, 703, 704, 705, 706, 707, 708, 709, 710, 711, 712] (by decide +kernel) (by decide +kernel)
set_option maxRecDepth 20000 in
theorem gL_law_X5_wet : GoodIn wsL_law (wsV RL 56 RX5 yX5_wet wsX5_wet) := goodIn_app (goodIn_of _ (by decide +kernel)) ggL_law_X5_wet
set_option maxRecDepth 20000 in
theorem ggL_law_X4_dry : GoodIn wsL_law wsX4_dry := goodIn_r _ [349, 24, 28, 338, 339, 340, 2, 341, 20, 200, 201, 202, 19, 203, 149, 204, 205, 206, 207, 208, 209, 23, 210, 157, 211, 212, 260, 261, 262, 27, 263, 178, 264, 46, 265, 266, 267, 268, 158, 159, 160, 162, 163, 164, 165, 350, 351, 352, 353, 354, 666, 667, 668, 669, 670, 671, 672, 673, 674, 675, 715, 716, 717, 718, 719, 720, 721, 722, 723, 724, 725, 726] (by decide +kernel) (by decide +kernel)
set_option maxRecDepth 20000 in
theorem gL_law_X4_dry : GoodIn wsL_law (wsV RL 57 RX4 yX4_dry wsX4_dry) := goodIn_app (goodIn_of _ (by decide +kernel)) ggL_law_X4_dry
set_option maxRecDepth 20000 in
theorem ggL_law_X5_dry : GoodIn wsL_law wsX5_dry := goodIn_r _ [358, 82, 224, 57, 225, 226, 227, 5, 228, 183, 85, 86, 87, 304, 305, 306, 307, 185, 60, 676, 677, 678, 679, 680, 681, 682, 683, 684, 685, 686, 687, 688, 689, 690, 691, 692, 693, 694, 695, 696, 697, 698, 699, 700, 701, 702, 703, 704, 705, 706, 707, 708, 709, 710, 711, 712] (by decide +kernel) (by decide +kernel)
set_option maxRecDepth 20000 in
theorem gL_law_X5_dry : GoodIn wsL_law (wsV RL 60 RX5 yX5_dry wsX5_dry) := goodIn_app (goodIn_of _ (by decide +kernel)) ggL_law_X5_dry
set_option maxRecDepth 20000 in
theorem ggL_law_X4_undo : GoodIn wsL_law wsX4_undo := goodIn_r _ [362, 28, 24, 363, 364, 365, 27, 366, 178, 46, 264, 367, 368, 369, 23, 370, 157, 158, 159, 160, 666, 667, 668, 669, 670, 671, 672, 673, 674, 675, 724, 725, 726, 720, 721, 722, 723] (by decide +kernel) (by decide +kernel)
set_option maxRecDepth 20000 in
theorem gL_law_X4_undo : GoodIn wsL_law (wsV RL 61 RX4 yX4_undo wsX4_undo) := goodIn_app (goodIn_of _ (by decide +kernel)) ggL_law_X4_undo
set_option maxRecDepth 20000 in
theorem ggL_law_X5_undo : GoodIn wsL_law wsX5_undo := goodIn_r _ [374, 82, 185, 57, 60, 676, 677, 678, 679, 680, 681, 682, 683, 684, 685, 686, 687, 688, 689, 690, 691, 692, 693, 694, 695, 696, 697, 698, 699, 700, 701, 702, 703, 704, 705, 706, 707, 708, 709, 710, 711, 712] (by decide +kernel) (by decide +kernel)
set_option maxRecDepth 20000 in
theorem gL_law_X5_undo : GoodIn wsL_law (wsV RL 64 RX5 yX5_undo wsX5_undo) := goodIn_app (goodIn_of _ (by decide +kernel)) ggL_law_X5_undo
set_option maxRecDepth 20000 in
theorem ggL_law_X4_alone : GoodIn wsL_law wsX4_alone := goodIn_r _ [378, 338, 339, 340, 2, 341, 20, 200, 201, 202, 19, 203, 149, 204, 205, 206, 379, 380, 381, 382, 24, 207, 208, 209, 23, 210, 157, 211, 212, 277, 278, 279, 280, 273, 274, 275, 276, 281, 282, 283, 213, 214, 215, 216, 151, 217, 218, 219, 284, 285, 286, 666, 667, 668, 669, 670, 671, 672, 673, 674, 675, 715, 716, 717, 718, 719, 720, 721, 722, 723] (by decide +kernel) (by decide +kernel)
set_option maxRecDepth 20000 in
theorem gL_law_X4_alone : GoodIn wsL_law (wsV RL 65 RX4 yX4_alone wsX4_alone) := goodIn_app (goodIn_of _ (by decide +kernel)) ggL_law_X4_alone
set_option maxRecDepth 20000 in
theorem ggL_law_X5_alone : GoodIn wsL_law wsX5_alone := goodIn_r _ [386, 82, 224, 52, 57, 225, 226, 227, 5, 228, 183, 85, 86, 87, 316, 317, 318, 319, 53, 320, 321, 322, 323, 324, 325, 676, 677, 678, 679, 680, 681, 682, 683, 684, 685, 686, 687, 688, 689, 690, 691, 692, 693, 694, 695, 696, 697, 698, 699, 700, 701, 702, 703, 704, 705, 706, 707, 708, 709, 710, 711, 712] (by decide +kernel) (by decide +kernel)
set_option maxRecDepth 20000 in
theorem gL_law_X5_alone : GoodIn wsL_law (wsV RL 68 RX5 yX5_alone wsX5_alone) := goodIn_app (goodIn_of _ (by decide +kernel)) ggL_law_X5_alone
set_option maxRecDepth 20000 in
theorem ggL_law_X4_time : GoodIn wsL_law wsX4_time := goodIn_r _ [390, 24, 20, 253, 254, 255, 2, 256, 233, 234, 235, 19, 236, 150, 200, 201, 202, 203, 149, 204, 205, 206, 269, 270, 271, 272, 273, 274, 275, 276, 207, 208, 209, 23, 210, 157, 211, 212, 277, 278, 279, 280, 281, 282, 283, 213, 214, 215, 216, 151, 217, 218, 219, 284, 285, 286, 237, 238, 239, 240, 152, 666, 667, 668, 669, 670, 671, 672, 673, 674, 675, 720, 721, 722, 723, 715, 716, 717, 718, 719] (by decide +kernel) (by decide +kernel)
set_option maxRecDepth 20000 in
theorem gL_law_X4_time : GoodIn wsL_law (wsV RL 69 RX4 yX4_time wsX4_time) := goodIn_app (goodIn_of _ (by decide +kernel)) ggL_law_X4_time
set_option maxRecDepth 20000 in
theorem ggL_law_X5_time : GoodIn wsL_law wsX5_time := goodIn_r _ [394, 82, 224, 57, 54, 297, 298, 299, 5, 300, 245, 246, 247, 248, 184, 85, 86, 87, 225, 226, 227, 228, 183, 312, 313, 314, 315, 52, 316, 317, 318, 319, 53, 320, 321, 322, 323, 324, 325, 676, 677, 678, 679, 680, 681, 682, 683, 684, 685, 686, 687, 688, 689, 690, 691, 692, 693, 694, 695, 696, 697, 698, 699, 700, 701, 702, 703, 704, 705, 706, 707, 708, 709, 710, 711, 712] (by decide +kernel) (by decide +kernel)
set_option maxRecDepth 20000 in
theorem gL_law_X5_time : GoodIn wsL_law (wsV RL 73 RX5 yX5_time wsX5_time) := goodIn_app (goodIn_of _ (by decide +kernel)) ggL_law_X5_time
set_option maxRecDepth 20000 in
theorem ggL_law_X4_best : GoodIn wsL_law wsX4_best := goodIn_r _ [398, 20, 233, 234, 235, 19, 236, 150, 399, 400, 401, 402, 149, 403, 404, 405, 2, 406, 24, 407, 408, 275, 409, 257, 258, 259, 269, 270, 271, 272, 273, 274, 276, 207, 208, 209, 23, 210, 157, 211, 212, 277, 278, 279, 280, 281, 282, 283, 213, 214, 215, 216, 151, 217, 218, 219, 284, 285, 286, 237, 238, 239, 240, 152, 666, 667, 668, 669, 670, 671, 672, 673, 674, 675, 715, 716, 717, 718, 719, 720, 721, 722, 723] (by decide +kernel) (by decide +kernel)
set_option maxRecDepth 20000 in
theorem gL_law_X4_best : GoodIn wsL_law (wsV RL 74 RX4 yX4_best wsX4_best) := goodIn_app (goodIn_of _ (by decide +kernel)) ggL_law_X4_best
set_option maxRecDepth 20000 in
theorem ggL_law_X5_best : GoodIn wsL_law wsX5_best := goodIn_r _ [413, 82, 414, 415, 245, 246, 247, 5, 248, 184, 85, 86, 87, 416, 417, 418, 419, 183, 57, 54, 312, 313, 314, 315, 52, 316, 317, 318, 319, 53, 320, 321, 322, 323, 324, 325, 301, 302, 303, 676, 677, 678, 679, 680, 681, 682, 683, 684, 685, 686, 687, 688, 689, 690, 691, 692, 693, 694, 695, 696, 697, 698, 699, 700, 701, 702, 703, 704, 705, 706, 707, 708, 709, 710, 711, 712] (by decide +kernel) (by decide +kernel)
set_option maxRecDepth 20000 in
theorem gL_law_X5_best : GoodIn wsL_law (wsV RL 77 RX5 yX5_best wsX5_best) := goodIn_app (goodIn_of _ (by decide +kernel)) ggL_law_X5_best
set_option maxRecDepth 20000 in
theorem ggL_law_X4_begin : GoodIn wsL_law wsX4_begin := goodIn_r _ [423, 20, 253, 254, 255, 2, 256, 233, 234, 235, 19, 236, 150, 200, 201, 202, 203, 149, 424, 425, 426, 427, 428, 24, 407, 408, 275, 409, 269, 270, 271, 272, 273, 274, 276, 207, 208, 209, 23, 210, 157, 211, 212, 277, 278, 279, 280, 281, 282, 283, 213, 214, 215, 216, 151, 217, 218, 219, 284, 285, 286, 237, 238, 239, 240, 152, 666, 667, 668, 669, 670, 671, 672, 673, 674, 675, 715, 716, 717, 718, 719, 720, 721, 722, 723] (by decide +kernel) (by decide +kernel)
set_option maxRecDepth 20000 in
theorem gL_law_X4_begin : GoodIn wsL_law (wsV RL 78 RX4 yX4_begin wsX4_begin) := goodIn_app (goodIn_of _ (by decide +kernel)) ggL_law_X4_begin
set_option maxRecDepth 20000 in
theorem ggL_law_X5_begin : GoodIn wsL_law wsX5_begin := goodIn_r _ [432, 82, 433, 434, 297, 298, 299, 5, 300, 245, 246, 247, 248, 184, 85, 86, 87, 225, 226, 227, 228, 183, 435, 436, 437, 438, 57, 54, 312, 313, 314, 315, 52, 316, 317, 318, 319, 53, 320, 321, 322, 323, 324, 325, 676, 677, 678, 679, 680, 681, 682, 683, 684, 685, 686, 687, 688, 689, 690, 691, 692, 693, 694, 695, 696, 697, 698, 699, 700, 701, 702, 703, 704, 705, 706, 707, 708, 709, 710, 711, 712] (by decide +kernel) (by decide +kernel)
set_option maxRecDepth 20000 in
theorem gL_law_X5_begin : GoodIn wsL_law (wsV RL 82 RX5 yX5_begin wsX5_begin) := goodIn_app (goodIn_of _ (by decide +kernel)) ggL_law_X5_begin
set_option maxRecDepth 20000 in
theorem ggL_law_X4_soonest : GoodIn wsL_law wsX4_soonest := goodIn_r _ [442, 443, 444, 445, 446, 447, 2, 448, 20, 24, 449, 450, 451, 452, 19, 453, 150, 454, 455, 456, 457, 458, 459, 275, 460, 461, 462, 463, 464, 257, 258, 259, 465, 466, 467, 468, 269, 270, 271, 272, 273, 274, 276, 207, 208, 209, 23, 210, 157, 211, 212, 277, 278, 279, 280, 281, 282, 283, 213, 214, 215, 216, 151, 217, 218, 219, 284, 285, 286, 237, 238, 239, 240, 152, 287, 288, 289, 290, 291, 292, 666, 667, 668, 669, 670, 671, 672, 673, 674, 675, 720, 721, 722, 723, 715, 716, 717, 718, 719] (by decide +kernel) (by decide +kernel)
set_option maxRecDepth 20000 in
theorem gL_law_X4_soonest : GoodIn wsL_law (wsV RL 83 RX4 yX4_soonest wsX4_soonest) := goodIn_app (goodIn_of _ (by decide +kernel)) ggL_law_X4_soonest
set_option maxRecDepth 20000 in
theorem ggL_law_X5_soonest : GoodIn wsL_law wsX5_soonest := goodIn_r _ [472, 82, 57, 59, 473, 474, 475, 476, 5, 477, 478, 479, 480, 481, 184, 482, 58, 67, 68, 483, 484, 485, 486, 183, 487, 488, 489, 490, 491, 492, 301, 302, 303, 308, 309, 310, 311, 54, 312, 313, 314, 315, 52, 316, 317, 318, 319, 53, 320, 321, 322, 323, 324, 325, 676, 677, 678, 679, 680, 681, 682, 683, 684, 685, 686, 687, 688, 689, 690, 691, 692, 693, 694, 695, 696, 697, 698, 699, 700, 701, 702, 703, 704, 705, 706, 707, 708, 709, 710, 711, 712] (by decide +kernel) (by decide +kernel)
set_option maxRecDepth 20000 in
theorem gL_law_X5_soonest : GoodIn wsL_law (wsV RL 87 RX5 yX5_soonest wsX5_soonest) := goodIn_app (goodIn_of _ (by decide +kernel)) ggL_law_X5_soonest
set_option maxRecDepth 20000 in
theorem ggL_law_X4_judge : GoodIn wsL_law wsX4_judge := goodIn_r _ [496, 24, 497, 498, 2, 499, 253, 254, 255, 256, 20, 233, 234, 235, 19, 236, 150, 200, 201, 202, 203, 149, 257, 258, 259, 666, 667, 668, 669, 670, 671, 672, 673, 674, 675, 720, 721, 722, 723, 715, 716, 717, 718, 719] (by decide +kernel) (by decide +kernel)
set_option maxRecDepth 20000 in
theorem gL_law_X4_judge : GoodIn wsL_law (wsV RL 88 RX4 yX4_judge wsX4_judge) := goodIn_app (goodIn_of _ (by decide +kernel)) ggL_law_X4_judge
set_option maxRecDepth 20000 in
theorem ggL_law_X5_judge : GoodIn wsL_law wsX5_judge := goodIn_r _ [503, 82, 224, 57, 85, 86, 5, 87, 490, 491, 492, 297, 298, 299, 300, 245, 246, 247, 248, 184, 225, 226, 227, 228, 183, 301, 302, 303, 676, 677, 678, 679, 680, 681, 682, 683, 684, 685, 686, 687, 688, 689, 690, 691, 692, 693, 694, 695, 696, 697, 698, 699, 700, 701, 702, 703, 704, 705, 706, 707, 708, 709, 710, 711, 712] (by decide +kernel) (by decide +kernel)
set_option maxRecDepth 20000 in
theorem gL_law_X5_judge : GoodIn wsL_law (wsV RL 91 RX5 yX5_judge wsX5_judge) := goodIn_app (goodIn_of _ (by decide +kernel)) ggL_law_X5_judge
set_option maxRecDepth 20000 in
theorem ggL_law_X4_share : GoodIn wsL_law wsX4_share := goodIn_r _ [507, 20, 200, 201, 202, 19, 203, 149, 233, 234, 235, 236, 150, 399, 400, 401, 402, 257, 258, 2, 259, 508, 509, 510, 511, 403, 404, 405, 406, 24, 407, 408, 275, 409, 269, 270, 271, 272, 273, 274, 276, 207, 208, 209, 23, 210, 157, 211, 212, 277, 278, 279, 280, 281, 282, 283, 213, 214, 215, 216, 151, 217, 218, 219, 284, 285, 286, 237, 238, 239, 240, 152, 512, 513, 514, 515, 516, 517, 518, 519, 520, 521, 522, 523, 524, 525, 526, 527, 528, 666, 667, 668, 669, 670, 671, 672, 673, 674, 675, 715, 716, 717, 718, 719, 720, 721, 722, 723] (by decide +kernel) (by decide +kernel)
set_option maxRecDepth 20000 in
theorem gL_law_X4_share : GoodIn wsL_law (wsV RL 92 RX4 yX4_share wsX4_share) := goodIn_app (goodIn_of _ (by decide +kernel)) ggL_law_X4_share
set_option maxRecDepth 20000 in
theorem ggL_law_X5_share : GoodIn wsL_law wsX5_share := goodIn_r _ [532, 82, 183, 66, 414, 415, 225, 226, 227, 5, 228, 85, 86, 87, 245, 246, 247, 248, 184, 416, 417, 418, 419, 57, 54, 312, 313, 314, 315, 52, 316, 317, 318, 319, 53, 320, 321, 322, 323, 324, 325, 301, 302, 303, 487, 488, 489, 533, 534, 535, 536, 537, 538, 539, 540, 541, 676, 677, 678, 679, 680, 681, 682, 683, 684, 685, 686, 687, 688, 689, 690, 691, 692, 693, 694, 695, 696, 697, 698, 699, 700, 701, 702, 703, 704, 705, 706, 707, 708, 709, 710, 711, 712] (by decide +kernel) (by decide +kernel)
set_option maxRecDepth 20000 in
theorem gL_law_X5_share : GoodIn wsL_law (wsV RL 96 RX5 yX5_share wsX5_share) := goodIn_app (goodIn_of _ (by decide +kernel)) ggL_law_X5_share
set_option maxRecDepth 20000 in
theorem ggL_law_X4_see : GoodIn wsL_law wsX4_see := goodIn_r _ [545, 190, 546, 666, 667, 668, 669, 670, 671, 672, 673, 674, 675] (by decide +kernel) (by decide +kernel)
set_option maxRecDepth 20000 in
theorem gL_law_X4_see : GoodIn wsL_law (wsV RL 97 RX4 yX4_see wsX4_see) := goodIn_app (goodIn_of _ (by decide +kernel)) ggL_law_X4_see
set_option maxRecDepth 20000 in
theorem ggL_law_X5_see : GoodIn wsL_law wsX5_see := goodIn_r _ [550, 82, 551, 224, 195, 64, 65, 85, 86, 5, 87, 676, 677, 678, 679, 680, 681, 682, 683, 684, 685, 686, 687, 688, 689, 690, 691, 692, 693, 694, 695, 696, 697, 698, 699, 700, 701, 702, 703, 704, 705, 706, 707, 708, 709, 710, 711, 712] (by decide +kernel) (by decide +kernel)
set_option maxRecDepth 20000 in
theorem gL_law_X5_see : GoodIn wsL_law (wsV RL 100 RX5 yX5_see wsX5_see) := goodIn_app (goodIn_of _ (by decide +kernel)) ggL_law_X5_see
set_option maxRecDepth 20000 in
theorem ggL_law_X4_unsee : GoodIn wsL_law wsX4_unsee := goodIn_r _ [555, 190, 546, 666, 667, 668, 669, 670, 671, 672, 673, 674, 675] (by decide +kernel) (by decide +kernel)
set_option maxRecDepth 20000 in
theorem gL_law_X4_unsee : GoodIn wsL_law (wsV RL 101 RX4 yX4_unsee wsX4_unsee) := goodIn_app (goodIn_of _ (by decide +kernel)) ggL_law_X4_unsee
set_option maxRecDepth 20000 in
theorem ggL_law_X5_unsee : GoodIn wsL_law wsX5_unsee := goodIn_r _ [559, 82, 195, 676, 677, 678, 679, 680, 681, 682, 683, 684, 685, 686, 687, 688, 689, 690, 691, 692, 693, 694, 695, 696, 697, 698, 699, 700, 701, 702, 703, 704, 705, 706, 707, 708, 709, 710, 711, 712] (by decide +kernel) (by decide +kernel)
set_option maxRecDepth 20000 in
theorem gL_law_X5_unsee : GoodIn wsL_law (wsV RL 104 RX5 yX5_unsee wsX5_unsee) := goodIn_app (goodIn_of _ (by decide +kernel)) ggL_law_X5_unsee
set_option maxRecDepth 20000 in
theorem ggL_law_X4_lives : GoodIn wsL_law wsX4_lives := goodIn_r _ [563, 204, 205, 2, 206, 564, 565, 566, 567, 546, 568, 211, 212, 281, 282, 283, 284, 285, 286, 666, 667, 668, 669, 670, 671, 672, 673, 674, 675] (by decide +kernel) (by decide +kernel)
set_option maxRecDepth 20000 in
theorem gL_law_X4_lives : GoodIn wsL_law (wsV RL 105 RX4 yX4_lives wsX4_lives) := goodIn_app (goodIn_of _ (by decide +kernel)) ggL_law_X4_lives
set_option maxRecDepth 20000 in
theorem ggL_law_X5_lives : GoodIn wsL_law wsX5_lives := goodIn_r _ [572, 82, 573, 224, 85, 86, 5, 87, 574, 575, 576, 577, 195, 64, 65, 490, 491, 492, 320, 321, 322, 323, 324, 325, 676, 677, 678, 679, 680, 681, 682, 683, 684, 685, 686, 687, 688, 689, 690, 691, 692, 693, 694, 695, 696, 697, 698, 699, 700, 701, 702, 703, 704, 705, 706, 707, 708, 709, 710, 711, 712] (by decide +kernel) (by decide +kernel)
set_option maxRecDepth 20000 in
theorem gL_law_X5_lives : GoodIn wsL_law (wsV RL 108 RX5 yX5_lives wsX5_lives) := goodIn_app (goodIn_of _ (by decide +kernel)) ggL_law_X5_lives
set_option maxRecDepth 20000 in
theorem ggL_law_X4_rests : GoodIn wsL_law wsX4_rests := goodIn_r _ [581, 20, 233, 234, 235, 19, 236, 150, 237, 238, 239, 240, 152, 582, 583, 2, 584, 585, 586, 587, 666, 667, 668, 669, 670, 671, 672, 673, 674, 675, 715, 716, 717, 718, 719] (by decide +kernel) (by decide +kernel)
set_option maxRecDepth 20000 in
theorem gL_law_X4_rests : GoodIn wsL_law (wsV RL 109 RX4 yX4_rests wsX4_rests) := goodIn_app (goodIn_of _ (by decide +kernel)) ggL_law_X4_rests
set_option maxRecDepth 20000 in
theorem ggL_law_X5_rests : GoodIn wsL_law wsX5_rests := goodIn_r _ [591, 82, 54, 592, 593, 245, 246, 247, 5, 248, 184, 85, 86, 87, 594, 595, 596, 597, 598, 599, 600, 676, 677, 678, 679, 680, 681, 682, 683, 684, 685, 686, 687, 688, 689, 690, 691, 692, 693, 694, 695, 696, 697, 698, 699, 700, 701, 702, 703, 704, 705, 706, 707, 708, 709, 710, 711, 712] (by decide +kernel) (by decide +kernel)
set_option maxRecDepth 20000 in
theorem gL_law_X5_rests : GoodIn wsL_law (wsV RL 112 RX5 yX5_rests wsX5_rests) := goodIn_app (goodIn_of _ (by decide +kernel)) ggL_law_X5_rests
set_option maxRecDepth 20000 in
theorem ggL_law_X4_chance : GoodIn wsL_law wsX4_chance := goodIn_r _ [604, 20, 200, 201, 202, 19, 203, 149, 605, 606, 607, 2, 608, 24, 207, 208, 209, 23, 210, 157, 211, 212, 257, 258, 259, 277, 278, 279, 280, 273, 274, 275, 276, 281, 282, 283, 213, 214, 215, 216, 151, 217, 218, 219, 284, 285, 286, 526, 527, 528, 666, 667, 668, 669, 670, 671, 672, 673, 674, 675, 715, 716, 717, 718, 719, 720, 721, 722, 723] (by decide +kernel) (by decide +kernel)
set_option maxRecDepth 20000 in
theorem gL_law_X4_chance : GoodIn wsL_law (wsV RL 113 RX4 yX4_chance wsX4_chance) := goodIn_app (goodIn_of _ (by decide +kernel)) ggL_law_X4_chance
set_option maxRecDepth 20000 in
theorem ggL_law_X5_chance : GoodIn wsL_law wsX5_chance := goodIn_r _ [612, 82, 613, 614, 52, 57, 225, 226, 227, 5, 228, 183, 85, 86, 87, 301, 302, 303, 316, 317, 318, 319, 53, 320, 321, 322, 323, 324, 325, 490, 491, 492, 536, 537, 538, 539, 540, 541, 676, 677, 678, 679, 680, 681, 682, 683, 684, 685, 686, 687, 688, 689, 690, 691, 692, 693, 694, 695, 696, 697, 698, 699, 700, 701, 702, 703, 704, 705, 706, 707, 708, 709, 710, 711, 712] (by decide +kernel) (by decide +kernel)
set_option maxRecDepth 20000 in
theorem gL_law_X5_chance : GoodIn wsL_law (wsV RL 117 RX5 yX5_chance wsX5_chance) := goodIn_app (goodIn_of _ (by decide +kernel)) ggL_law_X5_chance
set_option maxRecDepth 20000 in
theorem ggL_law_X4_seed : GoodIn wsL_law wsX4_seed := goodIn_r _ [618, 619, 666, 667, 668, 669, 670, 671, 672, 673, 674, 675] (by decide +kernel) (by decide +kernel)
set_option maxRecDepth 20000 in
theorem gL_law_X4_seed : GoodIn wsL_law (wsV RL 120 RX4 yX4_seed wsX4_seed) := goodIn_app (goodIn_of _ (by decide +kernel)) ggL_law_X4_seed
set_option maxRecDepth 20000 in
theorem ggL_law_X5_seed : GoodIn wsL_law wsX5_seed := goodIn_r _ [623, 82, 624, 676, 677, 678, 679, 680, 681, 682, 683, 684, 685, 686, 687, 688, 689, 690, 691, 692, 693, 694, 695, 696, 697, 698, 699, 700, 701, 702, 703, 704, 705, 706, 707, 708, 709, 710, 711, 712] (by decide +kernel) (by decide +kernel)
set_option maxRecDepth 20000 in
theorem gL_law_X5_seed : GoodIn wsL_law (wsV RL 124 RX5 yX5_seed wsX5_seed) := goodIn_app (goodIn_of _ (by decide +kernel)) ggL_law_X5_seed
set_option maxRecDepth 20000 in
theorem ggL_law_X4_days : GoodIn wsL_law wsX4_days := goodIn_r _ [628, 24, 31, 619, 629, 630, 631, 20, 632, 266, 267, 23, 268, 157, 158, 159, 160, 204, 205, 2, 206, 633, 634, 635, 636, 443, 444, 445, 446, 447, 448, 449, 450, 451, 452, 19, 453, 150, 454, 455, 456, 457, 458, 459, 275, 460, 461, 462, 463, 464, 257, 258, 259, 465, 466, 467, 468, 269, 270, 271, 272, 273, 274, 276, 207, 208, 209, 210, 211, 212, 277, 278, 279, 280, 281, 282, 283, 213, 214, 215, 216, 151, 217, 218, 219, 284, 285, 286, 237, 238, 239, 240, 152, 287, 288, 289, 290, 291, 292, 200, 201, 202, 203, 149, 162, 163, 164, 165, 637, 368, 369, 370, 666, 667, 668, 669, 670, 671, 672, 673, 674, 675, 720, 721, 722, 723, 715, 716, 717, 718, 719] (by decide +kernel) (by decide +kernel)
set_option maxRecDepth 20000 in
theorem gL_law_X4_days : GoodIn wsL_law (wsV RL 125 RX4 yX4_days wsX4_days) := goodIn_app (goodIn_of _ (by decide +kernel)) ggL_law_X4_days
set_option maxRecDepth 20000 in
theorem ggL_law_X5_days : GoodIn wsL_law wsX5_days := goodIn_r _ [641, 82, 642, 57, 59, 624, 643, 644, 645, 85, 86, 5, 87, 475, 476, 477, 225, 226, 227, 228, 183, 478, 479, 480, 481, 184, 482, 474, 473, 58, 67, 68, 483, 484, 485, 486, 487, 488, 489, 490, 491, 492, 301, 302, 303, 308, 309, 310, 311, 54, 312, 313, 314, 315, 52, 316, 317, 318, 319, 53, 320, 321, 322, 323, 324, 325, 646, 647, 648, 649, 676, 677, 678, 679, 680, 681, 682, 683, 684, 685, 686, 687, 688, 689, 690, 691, 692, 693, 694, 695, 696, 697, 698, 699, 700, 701, 702, 703, 704, 705, 706, 707, 708, 709, 710, 711, 712] (by decide +kernel) (by decide +kernel)
set_option maxRecDepth 20000 in
theorem gL_law_X5_days : GoodIn wsL_law (wsV RL 128 RX5 yX5_days wsX5_days) := goodIn_app (goodIn_of _ (by decide +kernel)) ggL_law_X5_days
set_option maxRecDepth 20000 in
theorem ggL_law_X4_keep : GoodIn wsL_law wsX4_keep := goodIn_r _ [653, 24, 30, 136, 632, 266, 267, 23, 268, 157, 158, 159, 160, 666, 667, 668, 669, 670, 671, 672, 673, 674, 675, 720, 721, 722, 723] (by decide +kernel) (by decide +kernel)
set_option maxRecDepth 20000 in
theorem gL_law_X4_keep : GoodIn wsL_law (wsV RL 129 RX4 yX4_keep wsX4_keep) := goodIn_app (goodIn_of _ (by decide +kernel)) ggL_law_X4_keep
set_option maxRecDepth 20000 in
theorem ggL_law_X5_keep : GoodIn wsL_law wsX5_keep := goodIn_r _ [657, 82, 63, 61, 57, 85, 86, 5, 87, 676, 677, 678, 679, 680, 681, 682, 683, 684, 685, 686, 687, 688, 689, 690, 691, 692, 693, 694, 695, 696, 697, 698, 699, 700, 701, 702, 703, 704, 705, 706, 707, 708, 709, 710, 711, 712] (by decide +kernel) (by decide +kernel)
set_option maxRecDepth 20000 in
theorem gL_law_X5_keep : GoodIn wsL_law (wsV RL 132 RX5 yX5_keep wsX5_keep) := goodIn_app (goodIn_of _ (by decide +kernel)) ggL_law_X5_keep
set_option maxRecDepth 20000 in
theorem ggL_law_X4_again : GoodIn wsL_law wsX4_again := goodIn_r _ [661, 136, 24, 30, 28, 257, 258, 2, 259, 637, 368, 369, 23, 370, 157, 158, 159, 160, 174, 175, 176, 27, 177, 178, 666, 667, 668, 669, 670, 671, 672, 673, 674, 675, 720, 721, 722, 723, 724, 725, 726] (by decide +kernel) (by decide +kernel)
set_option maxRecDepth 20000 in
theorem gL_law_X4_again : GoodIn wsL_law (wsV RL 133 RX4 yX4_again wsX4_again) := goodIn_app (goodIn_of _ (by decide +kernel)) ggL_law_X4_again
set_option maxRecDepth 20000 in
theorem ggL_law_X5_again : GoodIn wsL_law wsX5_again := goodIn_r _ [665, 82, 63, 57, 61, 185, 85, 86, 5, 87, 676, 677, 678, 679, 680, 681, 682, 683, 684, 685, 686, 687, 688, 689, 690, 691, 692, 693, 694, 695, 696, 697, 698, 699, 700, 701, 702, 703, 704, 705, 706, 707, 708, 709, 710, 711, 712] (by decide +kernel) (by decide +kernel)
set_option maxRecDepth 20000 in
theorem gL_law_X5_again : GoodIn wsL_law (wsV RL 136 RX5 yX5_again wsX5_again) := goodIn_app (goodIn_of _ (by decide +kernel)) ggL_law_X5_again
theorem dL_law_0 : decode cL_law 0 = .ok (.new 7, 3) := by decide +kernel
theorem dL_law_3 : decode cL_law 3 = .ok (.dup, 1) := by decide +kernel
theorem dL_law_4 : decode cL_law 4 = .ok (.invokespecial 9, 3) := by decide +kernel
