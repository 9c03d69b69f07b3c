theorem dX4_judge_0 : decode cX4_judge 0 = .ok (.iload_n 1, 1) := by decide +kernel
theorem dX4_judge_1 : decode cX4_judge 1 = .ok (.iconst 1, 1) := by decide +kernel
theorem dX4_judge_2 : decode cX4_judge 2 = .ok (.if_icmp .lt 20, 3) := by decide +kernel
theorem dX4_judge_5 : decode cX4_judge 5 = .ok (.iload_n 1, 1) := by decide +kernel
theorem dX4_judge_6 : decode cX4_judge 6 = .ok (.iconst 3, 1) := by decide +kernel
theorem dX4_judge_7 : decode cX4_judge 7 = .ok (.if_icmp .gt 15, 3) := by decide +kernel
theorem dX4_judge_10 : decode cX4_judge 10 = .ok (.iload_n 2, 1) := by decide +kernel
theorem dX4_judge_11 : decode cX4_judge 11 = .ok (.ifCond .lt 11, 3) := by decide +kernel
theorem dX4_judge_14 : decode cX4_judge 14 = .ok (.iload_n 2, 1) := by decide +kernel
theorem dX4_judge_15 : decode cX4_judge 15 = .ok (.iload_n 1, 1) := by decide +kernel
theorem dX4_judge_16 : decode cX4_judge 16 = .ok (.invokestatic 164, 3) := by decide +kernel
theorem dX4_judge_19 : decode cX4_judge 19 = .ok (.ifCond .eq 6, 3) := by decide +kernel
theorem dX4_judge_22 : decode cX4_judge 22 = .ok (.bipush (-2), 2) := by decide +kernel
theorem dX4_judge_24 : decode cX4_judge 24 = .ok (.ireturn, 1) := by decide +kernel
theorem dX4_judge_25 : decode cX4_judge 25 = .ok (.aload_n 0, 1) := by decide +kernel
theorem dX4_judge_26 : decode cX4_judge 26 = .ok (.getfield 26, 3) := by decide +kernel
theorem dX4_judge_29 : decode cX4_judge 29 = .ok (.getfield 74, 3) := by decide +kernel
theorem dX4_judge_32 : decode cX4_judge 32 = .ok (.istore_n 3, 1) := by decide +kernel
theorem dX4_judge_33 : decode cX4_judge 33 = .ok (.iconst 0, 1) := by decide +kernel
theorem dX4_judge_34 : decode cX4_judge 34 = .ok (.istore 4, 2) := by decide +kernel
theorem dX4_judge_36 : decode cX4_judge 36 = .ok (.iload 4, 2) := by decide +kernel
theorem dX4_judge_38 : decode cX4_judge 38 = .ok (.iload_n 1, 1) := by decide +kernel
theorem dX4_judge_39 : decode cX4_judge 39 = .ok (.if_icmp .ge 73, 3) := by decide +kernel
theorem dX4_judge_42 : decode cX4_judge 42 = .ok (.iload_n 2, 1) := by decide +kernel
theorem dX4_judge_43 : decode cX4_judge 43 = .ok (.iload_n 1, 1) := by decide +kernel
theorem dX4_judge_44 : decode cX4_judge 44 = .ok (.iconst 1, 1) := by decide +kernel
theorem dX4_judge_45 : decode cX4_judge 45 = .ok (.isub, 1) := by decide +kernel
theorem dX4_judge_46 : decode cX4_judge 46 = .ok (.iload 4, 2) := by decide +kernel
theorem dX4_judge_48 : decode cX4_judge 48 = .ok (.isub, 1) := by decide +kernel
theorem dX4_judge_49 : decode cX4_judge 49 = .ok (.invokestatic 164, 3) := by decide +kernel
theorem dX4_judge_52 : decode cX4_judge 52 = .ok (.sipush 1000, 3) := by decide +kernel
theorem dX4_judge_55 : decode cX4_judge 55 = .ok (.irem, 1) := by decide +kernel
theorem dX4_judge_56 : decode cX4_judge 56 = .ok (.istore 5, 2) := by decide +kernel
theorem dX4_judge_58 : decode cX4_judge 58 = .ok (.iload 5, 2) := by decide +kernel
theorem dX4_judge_60 : decode cX4_judge 60 = .ok (.bipush 100, 2) := by decide +kernel
theorem dX4_judge_62 : decode cX4_judge 62 = .ok (.idiv, 1) := by decide +kernel
theorem dX4_judge_63 : decode cX4_judge 63 = .ok (.istore 6, 2) := by decide +kernel
theorem dX4_judge_65 : decode cX4_judge 65 = .ok (.aload_n 0, 1) := by decide +kernel
theorem dX4_judge_66 : decode cX4_judge 66 = .ok (.iload 6, 2) := by decide +kernel
theorem dX4_judge_68 : decode cX4_judge 68 = .ok (.iload 5, 2) := by decide +kernel
theorem dX4_judge_70 : decode cX4_judge 70 = .ok (.bipush 10, 2) := by decide +kernel
theorem dX4_judge_72 : decode cX4_judge 72 = .ok (.idiv, 1) := by decide +kernel
theorem dX4_judge_73 : decode cX4_judge 73 = .ok (.bipush 10, 2) := by decide +kernel
theorem dX4_judge_75 : decode cX4_judge 75 = .ok (.irem, 1) := by decide +kernel
theorem dX4_judge_76 : decode cX4_judge 76 = .ok (.iload 5, 2) := by decide +kernel
theorem dX4_judge_78 : decode cX4_judge 78 = .ok (.bipush 10, 2) := by decide +kernel
theorem dX4_judge_80 : decode cX4_judge 80 = .ok (.irem, 1) := by decide +kernel
theorem dX4_judge_81 : decode cX4_judge 81 = .ok (.invokevirtual 112, 3) := by decide +kernel
theorem dX4_judge_84 : decode cX4_judge 84 = .ok (.ifCond .ne 12, 3) := by decide +kernel
theorem dX4_judge_87 : decode cX4_judge 87 = .ok (.iload_n 3, 1) := by decide +kernel
theorem dX4_judge_88 : decode cX4_judge 88 = .ok (.iload 6, 2) := by decide +kernel
theorem dX4_judge_90 : decode cX4_judge 90 = .ok (.invokestatic 116, 3) := by decide +kernel
theorem dX4_judge_93 : decode cX4_judge 93 = .ok (.ifCond .eq 6, 3) := by decide +kernel
theorem dX4_judge_96 : decode cX4_judge 96 = .ok (.iload 4, 2) := by decide +kernel
theorem dX4_judge_98 : decode cX4_judge 98 = .ok (.ireturn, 1) := by decide +kernel
theorem dX4_judge_99 : decode cX4_judge 99 = .ok (.iload_n 3, 1) := by decide +kernel
theorem dX4_judge_100 : decode cX4_judge 100 = .ok (.iconst 1, 1) := by decide +kernel
theorem dX4_judge_101 : decode cX4_judge 101 = .ok (.iload 6, 2) := by decide +kernel
theorem dX4_judge_103 : decode cX4_judge 103 = .ok (.ishl, 1) := by decide +kernel
theorem dX4_judge_104 : decode cX4_judge 104 = .ok (.ior, 1) := by decide +kernel
theorem dX4_judge_105 : decode cX4_judge 105 = .ok (.istore_n 3, 1) := by decide +kernel
theorem dX4_judge_106 : decode cX4_judge 106 = .ok (.iinc 4 1, 3) := by decide +kernel
theorem dX4_judge_109 : decode cX4_judge 109 = .ok (.goto (-73), 3) := by decide +kernel
theorem dX4_judge_112 : decode cX4_judge 112 = .ok (.bipush (-9), 2) := by decide +kernel
theorem dX4_judge_114 : decode cX4_judge 114 = .ok (.ireturn, 1) := by decide +kernel
set_option maxRecDepth 20000 in
theorem ggX4_share_X1_hasLegger : GoodIn wsX4_share wsX1_hasLegger := goodIn_r _ [6, 7, 99, 100, 101, 102, 103] (by decide +kernel) (by decide +kernel)
set_option maxRecDepth 20000 in
theorem gX4_share_X1_hasLegger : GoodIn wsX4_share (wsV RX4 86 RX1 yX1_hasLegger wsX1_hasLegger) := goodIn_app (goodIn_of _ (by decide +kernel)) ggX4_share_X1_hasLegger
set_option maxRecDepth 20000 in
theorem ggX4_share_X1_hasBoat : GoodIn wsX4_share wsX1_hasBoat := goodIn_r _ [11, 12, 99, 100, 101, 102, 103] (by decide +kernel) (by decide +kernel)
set_option maxRecDepth 20000 in
theorem gX4_share_X1_hasBoat : GoodIn wsX4_share (wsV RX4 106 RX1 yX1_hasBoat wsX1_hasBoat) := goodIn_app (goodIn_of _ (by decide +kernel)) ggX4_share_X1_hasBoat
set_option maxRecDepth 20000 in
theorem ggX4_share_X1_allLeggers : GoodIn wsX4_share wsX1_allLeggers := goodIn_r _ [16, 7, 99, 100, 101, 102, 103] (by decide +kernel) (by decide +kernel)
set_option maxRecDepth 20000 in
theorem gX4_share_X1_allLeggers : GoodIn wsX4_share (wsV RX4 147 RX1 yX1_allLeggers wsX1_allLeggers) := goodIn_app (goodIn_of _ (by decide +kernel)) ggX4_share_X1_allLeggers
set_option maxRecDepth 20000 in
theorem ggX4_share_X4_isIn : GoodIn wsX4_share wsX4_isIn := goodIn_r _ [20] (by decide +kernel) (by decide +kernel)
set_option maxRecDepth 20000 in
theorem gX4_share_X4_isIn : GoodIn wsX4_share (va_wsS RX4 116 yX4_isIn wsX4_isIn) := goodIn_app (goodIn_of _ (by decide +kernel)) ggX4_share_X4_isIn
set_option maxRecDepth 20000 in
theorem ggX4_share_X4_worth : GoodIn wsX4_share wsX4_worth := goodIn_r _ [24, 1, 25, 26, 27, 19, 28, 29, 30, 31, 32, 33, 17, 18, 20, 34, 35, 36, 37, 38, 39, 40, 41, 42, 43, 44, 45, 46, 47, 48, 49, 50, 51, 52, 53, 54, 55, 56, 57, 58, 5, 59, 60, 61, 62, 63, 64, 65, 66, 67, 68, 69, 70, 71, 89, 90, 91, 92, 93, 94, 95, 96, 97, 98, 99, 100, 101, 102, 103, 104, 105, 106, 107] (by decide +kernel) (by decide +kernel)
set_option maxRecDepth 20000 in
theorem gX4_share_X4_worth : GoodIn wsX4_share (wsV RX4 167 RX4 yX4_worth wsX4_worth) := goodIn_app (goodIn_of _ (by decide +kernel)) ggX4_share_X4_worth
set_option maxRecDepth 20000 in
theorem ggX4_share_J6_bitCount_0f7a4 : GoodIn wsX4_share wsJ6_bitCount_0f7a4 := goodIn_r _ [75, 76, 77, 78] (by decide +kernel) (by decide +kernel)
set_option maxRecDepth 20000 in
theorem gX4_share_J6_bitCount_0f7a4 : GoodIn wsX4_share (va_wsS RX4 170 yJ6_bitCount_0f7a4 wsJ6_bitCount_0f7a4) := goodIn_app (goodIn_of _ (by decide +kernel)) ggX4_share_J6_bitCount_0f7a4
set_option maxRecDepth 20000 in
theorem ggX4_share_X4_ordersBehind : GoodIn wsX4_share wsX4_ordersBehind := goodIn_r _ [82, 1, 83, 84, 19, 85, 89, 90, 91, 92, 93, 94, 95, 96, 97, 98, 99, 100, 101, 102, 103] (by decide +kernel) (by decide +kernel)
set_option maxRecDepth 20000 in
theorem gX4_share_X4_ordersBehind : GoodIn wsX4_share (wsV RX4 175 RX4 yX4_ordersBehind wsX4_ordersBehind) := goodIn_app (goodIn_of _ (by decide +kernel)) ggX4_share_X4_ordersBehind
set_option maxRecDepth 20000 in
theorem ggX4_share_X4_factorial : GoodIn wsX4_share wsX4_factorial := goodIn_r _ [85] (by decide +kernel) (by decide +kernel)
set_option maxRecDepth 20000 in
theorem gX4_share_X4_factorial : GoodIn wsX4_share (va_wsS RX4 178 yX4_factorial wsX4_factorial) := goodIn_app (goodIn_of _ (by decide +kernel)) ggX4_share_X4_factorial
set_option maxRecDepth 20000 in
theorem ggX4_share_X4_fraction : GoodIn wsX4_share wsX4_fraction := goodIn_r _ [88] (by decide +kernel) (by decide +kernel)
set_option maxRecDepth 20000 in
theorem gX4_share_X4_fraction : GoodIn wsX4_share (va_wsS RX4 181 yX4_fraction wsX4_fraction) := goodIn_app (goodIn_of _ (by decide +kernel)) ggX4_share_X4_fraction
theorem dX4_share_0 : decode cX4_share 0 = .ok (.aload_n 0, 1) := by decide +kernel
theorem dX4_share_1 : decode cX4_share 1 = .ok (.getfield 19, 3) := by decide +kernel
theorem dX4_share_4 : decode cX4_share 4 = .ok (.iload_n 1, 1) := by decide +kernel
theorem dX4_share_5 : decode cX4_share 5 = .ok (.invokevirtual 86, 3) := by decide +kernel
theorem dX4_share_8 : decode cX4_share 8 = .ok (.ifCond .eq 14, 3) := by decide +kernel
theorem dX4_share_11 : decode cX4_share 11 = .ok (.aload_n 0, 1) := by decide +kernel
theorem dX4_share_12 : decode cX4_share 12 = .ok (.getfield 19, 3) := by decide +kernel
theorem dX4_share_15 : decode cX4_share 15 = .ok (.iload_n 2, 1) := by decide +kernel
theorem dX4_share_16 : decode cX4_share 16 = .ok (.invokevirtual 106, 3) := by decide +kernel
theorem dX4_share_19 : decode cX4_share 19 = .ok (.ifCond .ne 5, 3) := by decide +kernel
theorem dX4_share_22 : decode cX4_share 22 = .ok (.iconst (-1), 1) := by decide +kernel
theorem dX4_share_23 : decode cX4_share 23 = .ok (.ireturn, 1) := by decide +kernel
theorem dX4_share_24 : decode cX4_share 24 = .ok (.iconst 0, 1) := by decide +kernel
theorem dX4_share_25 : decode cX4_share 25 = .ok (.istore 4, 2) := by decide +kernel
theorem dX4_share_27 : decode cX4_share 27 = .ok (.iconst 0, 1) := by decide +kernel
theorem dX4_share_28 : decode cX4_share 28 = .ok (.istore 5, 2) := by decide +kernel
theorem dX4_share_30 : decode cX4_share 30 = .ok (.iload 5, 2) := by decide +kernel
theorem dX4_share_32 : decode cX4_share 32 = .ok (.aload_n 0, 1) := by decide +kernel
theorem dX4_share_33 : decode cX4_share 33 = .ok (.getfield 19, 3) := by decide +kernel
theorem dX4_share_36 : decode cX4_share 36 = .ok (.invokevirtual 147, 3) := by decide +kernel
theorem dX4_share_39 : decode cX4_share 39 = .ok (.if_icmp .gt 56, 3) := by decide +kernel
theorem dX4_share_42 : decode cX4_share 42 = .ok (.iload 5, 2) := by decide +kernel
theorem dX4_share_44 : decode cX4_share 44 = .ok (.iload_n 1, 1) := by decide +kernel
theorem dX4_share_45 : decode cX4_share 45 = .ok (.invokestatic 116, 3) := by decide +kernel
theorem dX4_share_48 : decode cX4_share 48 = .ok (.ifCond .ne 41, 3) := by decide +kernel
theorem dX4_share_51 : decode cX4_share 51 = .ok (.aload_n 0, 1) := by decide +kernel
theorem dX4_share_52 : decode cX4_share 52 = .ok (.iload_n 2, 1) := by decide +kernel
theorem dX4_share_53 : decode cX4_share 53 = .ok (.iload 5, 2) := by decide +kernel
theorem dX4_share_55 : decode cX4_share 55 = .ok (.iconst 1, 1) := by decide +kernel
theorem dX4_share_56 : decode cX4_share 56 = .ok (.iload_n 1, 1) := by decide +kernel
theorem dX4_share_57 : decode cX4_share 57 = .ok (.ishl, 1) := by decide +kernel
theorem dX4_share_58 : decode cX4_share 58 = .ok (.ior, 1) := by decide +kernel
theorem dX4_share_59 : decode cX4_share 59 = .ok (.invokevirtual 167, 3) := by decide +kernel
theorem dX4_share_62 : decode cX4_share 62 = .ok (.aload_n 0, 1) := by decide +kernel
theorem dX4_share_63 : decode cX4_share 63 = .ok (.iload_n 2, 1) := by decide +kernel
theorem dX4_share_64 : decode cX4_share 64 = .ok (.iload 5, 2) := by decide +kernel
theorem dX4_share_66 : decode cX4_share 66 = .ok (.invokevirtual 167, 3) := by decide +kernel
theorem dX4_share_69 : decode cX4_share 69 = .ok (.isub, 1) := by decide +kernel
theorem dX4_share_70 : decode cX4_share 70 = .ok (.istore 6, 2) := by decide +kernel
theorem dX4_share_72 : decode cX4_share 72 = .ok (.iload 4, 2) := by decide +kernel
theorem dX4_share_74 : decode cX4_share 74 = .ok (.iload 6, 2) := by decide +kernel
theorem dX4_share_76 : decode cX4_share 76 = .ok (.aload_n 0, 1) := by decide +kernel
theorem dX4_share_77 : decode cX4_share 77 = .ok (.iload 5, 2) := by decide +kernel
theorem dX4_share_79 : decode cX4_share 79 = .ok (.invokestatic 170, 3) := by decide +kernel
theorem dX4_share_82 : decode cX4_share 82 = .ok (.invokevirtual 175, 3) := by decide +kernel
theorem dX4_share_85 : decode cX4_share 85 = .ok (.imul, 1) := by decide +kernel
theorem dX4_share_86 : decode cX4_share 86 = .ok (.iadd, 1) := by decide +kernel
theorem dX4_share_87 : decode cX4_share 87 = .ok (.istore 4, 2) := by decide +kernel
theorem dX4_share_89 : decode cX4_share 89 = .ok (.iinc 5 1, 3) := by decide +kernel
theorem dX4_share_92 : decode cX4_share 92 = .ok (.goto (-62), 3) := by decide +kernel
theorem dX4_share_95 : decode cX4_share 95 = .ok (.iload 4, 2) := by decide +kernel
theorem dX4_share_97 : decode cX4_share 97 = .ok (.aload_n 0, 1) := by decide +kernel
theorem dX4_share_98 : decode cX4_share 98 = .ok (.getfield 19, 3) := by decide +kernel
theorem dX4_share_101 : decode cX4_share 101 = .ok (.getfield 65, 3) := by decide +kernel
theorem dX4_share_104 : decode cX4_share 104 = .ok (.invokestatic 178, 3) := by decide +kernel
theorem dX4_share_107 : decode cX4_share 107 = .ok (.iload_n 3, 1) := by decide +kernel
theorem dX4_share_108 : decode cX4_share 108 = .ok (.invokestatic 181, 3) := by decide +kernel
theorem dX4_share_111 : decode cX4_share 111 = .ok (.ireturn, 1) := by decide +kernel
theorem dX4_see_0 : decode cX4_see 0 = .ok (.iload_n 1, 1) := by decide +kernel
theorem dX4_see_1 : decode cX4_see 1 = .ok (.ifCond .lt 19, 3) := by decide +kernel
theorem dX4_see_4 : decode cX4_see 4 = .ok (.iload_n 1, 1) := by decide +kernel
theorem dX4_see_5 : decode cX4_see 5 = .ok (.bipush 6, 2) := by decide +kernel
theorem dX4_see_7 : decode cX4_see 7 = .ok (.if_icmp .ge 13, 3) := by decide +kernel
theorem dX4_see_10 : decode cX4_see 10 = .ok (.iload_n 2, 1) := by decide +kernel
theorem dX4_see_11 : decode cX4_see 11 = .ok (.iconst 1, 1) := by decide +kernel
theorem dX4_see_12 : decode cX4_see 12 = .ok (.if_icmp .lt 8, 3) := by decide +kernel
theorem dX4_see_15 : decode cX4_see 15 = .ok (.iload_n 2, 1) := by decide +kernel
theorem dX4_see_16 : decode cX4_see 16 = .ok (.iconst 3, 1) := by decide +kernel
theorem dX4_see_17 : decode cX4_see 17 = .ok (.if_icmp .le 6, 3) := by decide +kernel
theorem dX4_see_20 : decode cX4_see 20 = .ok (.bipush (-2), 2) := by decide +kernel
theorem dX4_see_22 : decode cX4_see 22 = .ok (.ireturn, 1) := by decide +kernel
theorem dX4_see_23 : decode cX4_see 23 = .ok (.aload_n 0, 1) := by decide +kernel
theorem dX4_see_24 : decode cX4_see 24 = .ok (.getfield 83, 3) := by decide +kernel
theorem dX4_see_27 : decode cX4_see 27 = .ok (.bipush 6, 2) := by decide +kernel
theorem dX4_see_29 : decode cX4_see 29 = .ok (.if_icmp .lt 6, 3) := by decide +kernel
theorem dX4_see_32 : decode cX4_see 32 = .ok (.bipush (-4), 2) := by decide +kernel
theorem dX4_see_34 : decode cX4_see 34 = .ok (.ireturn, 1) := by decide +kernel
theorem dX4_see_35 : decode cX4_see 35 = .ok (.aload_n 0, 1) := by decide +kernel
theorem dX4_see_36 : decode cX4_see 36 = .ok (.dup, 1) := by decide +kernel
theorem dX4_see_37 : decode cX4_see 37 = .ok (.getfield 185, 3) := by decide +kernel
theorem dX4_see_40 : decode cX4_see 40 = .ok (.iconst 1, 1) := by decide +kernel
theorem dX4_see_41 : decode cX4_see 41 = .ok (.iconst 4, 1) := by decide +kernel
theorem dX4_see_42 : decode cX4_see 42 = .ok (.iload_n 1, 1) := by decide +kernel
theorem dX4_see_43 : decode cX4_see 43 = .ok (.imul, 1) := by decide +kernel
theorem dX4_see_44 : decode cX4_see 44 = .ok (.iload_n 2, 1) := by decide +kernel
theorem dX4_see_45 : decode cX4_see 45 = .ok (.iadd, 1) := by decide +kernel
theorem dX4_see_46 : decode cX4_see 46 = .ok (.ishl, 1) := by decide +kernel
theorem dX4_see_47 : decode cX4_see 47 = .ok (.ior, 1) := by decide +kernel
theorem dX4_see_48 : decode cX4_see 48 = .ok (.putfield 185, 3) := by decide +kernel
theorem dX4_see_51 : decode cX4_see 51 = .ok (.aload_n 0, 1) := by decide +kernel
theorem dX4_see_52 : decode cX4_see 52 = .ok (.dup, 1) := by decide +kernel
theorem dX4_see_53 : decode cX4_see 53 = .ok (.getfield 83, 3) := by decide +kernel
theorem dX4_see_56 : decode cX4_see 56 = .ok (.iconst 1, 1) := by decide +kernel
theorem dX4_see_57 : decode cX4_see 57 = .ok (.iadd, 1) := by decide +kernel
theorem dX4_see_58 : decode cX4_see 58 = .ok (.putfield 83, 3) := by decide +kernel
theorem dX4_see_61 : decode cX4_see 61 = .ok (.aload_n 0, 1) := by decide +kernel
theorem dX4_see_62 : decode cX4_see 62 = .ok (.getfield 83, 3) := by decide +kernel
theorem dX4_see_65 : decode cX4_see 65 = .ok (.ireturn, 1) := by decide +kernel
theorem dX4_unsee_0 : decode cX4_unsee 0 = .ok (.aload_n 0, 1) := by decide +kernel
theorem dX4_unsee_1 : decode cX4_unsee 1 = .ok (.getfield 83, 3) := by decide +kernel
theorem dX4_unsee_4 : decode cX4_unsee 4 = .ok (.istore_n 1, 1) := by decide +kernel
theorem dX4_unsee_5 : decode cX4_unsee 5 = .ok (.aload_n 0, 1) := by decide +kernel
theorem dX4_unsee_6 : decode cX4_unsee 6 = .ok (.iconst 0, 1) := by decide +kernel
theorem dX4_unsee_7 : decode cX4_unsee 7 = .ok (.putfield 83, 3) := by decide +kernel
theorem dX4_unsee_10 : decode cX4_unsee 10 = .ok (.aload_n 0, 1) := by decide +kernel
theorem dX4_unsee_11 : decode cX4_unsee 11 = .ok (.iconst 0, 1) := by decide +kernel
theorem dX4_unsee_12 : decode cX4_unsee 12 = .ok (.putfield 185, 3) := by decide +kernel
theorem dX4_unsee_15 : decode cX4_unsee 15 = .ok (.iload_n 1, 1) := by decide +kernel
theorem dX4_unsee_16 : decode cX4_unsee 16 = .ok (.ireturn, 1) := by decide +kernel
set_option maxRecDepth 20000 in
theorem ggX4_lives_X4_isPlace : GoodIn wsX4_lives wsX4_isPlace := goodIn_r _ [4] (by decide +kernel) (by decide +kernel)
set_option maxRecDepth 20000 in
theorem gX4_lives_X4_isPlace : GoodIn wsX4_lives (va_wsS RX4 89 yX4_isPlace wsX4_isPlace) := goodIn_app (goodIn_of _ (by decide +kernel)) ggX4_lives_X4_isPlace
set_option maxRecDepth 20000 in
theorem ggX4_lives_X4_isAsSeen : GoodIn wsX4_lives wsX4_isAsSeen := goodIn_r _ [8, 9, 10, 11, 3, 12, 13, 14, 15, 16, 17, 18, 19, 20, 21, 22, 23, 24, 25, 26, 27, 28] (by decide +kernel) (by decide +kernel)
set_option maxRecDepth 20000 in
theorem gX4_lives_X4_isAsSeen : GoodIn wsX4_lives (wsV RX4 188 RX4 yX4_isAsSeen wsX4_isAsSeen) := goodIn_app (goodIn_of _ (by decide +kernel)) ggX4_lives_X4_isAsSeen
set_option maxRecDepth 20000 in
theorem ggX4_lives_X4_groundIn : GoodIn wsX4_lives wsX4_groundIn := goodIn_r _ [12] (by decide +kernel) (by decide +kernel)
set_option maxRecDepth 20000 in
theorem gX4_lives_X4_groundIn : GoodIn wsX4_lives (va_wsS RX4 191 yX4_groundIn wsX4_groundIn) := goodIn_app (goodIn_of _ (by decide +kernel)) ggX4_lives_X4_groundIn
theorem dX4_lives_0 : decode cX4_lives 0 = .ok (.iload_n 1, 1) := by decide +kernel
theorem dX4_lives_1 : decode cX4_lives 1 = .ok (.iconst (-1), 1) := by decide +kernel
theorem dX4_lives_2 : decode cX4_lives 2 = .ok (.if_icmp .eq 13, 3) := by decide +kernel
theorem dX4_lives_5 : decode cX4_lives 5 = .ok (.iload_n 1, 1) := by decide +kernel
theorem dX4_lives_6 : decode cX4_lives 6 = .ok (.invokestatic 89, 3) := by decide +kernel
theorem dX4_lives_9 : decode cX4_lives 9 = .ok (.ifCond .ne 6, 3) := by decide +kernel
theorem dX4_lives_12 : decode cX4_lives 12 = .ok (.bipush (-2), 2) := by decide +kernel
theorem dX4_lives_14 : decode cX4_lives 14 = .ok (.ireturn, 1) := by decide +kernel
theorem dX4_lives_15 : decode cX4_lives 15 = .ok (.iconst 0, 1) := by decide +kernel
theorem dX4_lives_16 : decode cX4_lives 16 = .ok (.istore_n 2, 1) := by decide +kernel
theorem dX4_lives_17 : decode cX4_lives 17 = .ok (.iconst 0, 1) := by decide +kernel
theorem dX4_lives_18 : decode cX4_lives 18 = .ok (.istore_n 3, 1) := by decide +kernel
theorem dX4_lives_19 : decode cX4_lives 19 = .ok (.iconst 0, 1) := by decide +kernel
theorem dX4_lives_20 : decode cX4_lives 20 = .ok (.istore 4, 2) := by decide +kernel
theorem dX4_lives_22 : decode cX4_lives 22 = .ok (.iload 4, 2) := by decide +kernel
theorem dX4_lives_24 : decode cX4_lives 24 = .ok (.sipush 256, 3) := by decide +kernel
theorem dX4_lives_27 : decode cX4_lives 27 = .ok (.if_icmp .ge 40, 3) := by decide +kernel
theorem dX4_lives_30 : decode cX4_lives 30 = .ok (.aload_n 0, 1) := by decide +kernel
theorem dX4_lives_31 : decode cX4_lives 31 = .ok (.iload 4, 2) := by decide +kernel
theorem dX4_lives_33 : decode cX4_lives 33 = .ok (.invokevirtual 188, 3) := by decide +kernel
theorem dX4_lives_36 : decode cX4_lives 36 = .ok (.ifCond .eq 25, 3) := by decide +kernel
theorem dX4_lives_39 : decode cX4_lives 39 = .ok (.iinc 2 1, 3) := by decide +kernel
theorem dX4_lives_42 : decode cX4_lives 42 = .ok (.iload_n 3, 1) := by decide +kernel
theorem dX4_lives_43 : decode cX4_lives 43 = .ok (.iload_n 1, 1) := by decide +kernel
theorem dX4_lives_44 : decode cX4_lives 44 = .ok (.ifCond .ge 7, 3) := by decide +kernel
theorem dX4_lives_47 : decode cX4_lives 47 = .ok (.iconst 0, 1) := by decide +kernel
theorem dX4_lives_48 : decode cX4_lives 48 = .ok (.goto 11, 3) := by decide +kernel
theorem dX4_lives_51 : decode cX4_lives 51 = .ok (.iconst 1, 1) := by decide +kernel
theorem dX4_lives_52 : decode cX4_lives 52 = .ok (.iload 4, 2) := by decide +kernel
theorem dX4_lives_54 : decode cX4_lives 54 = .ok (.iload_n 1, 1) := by decide +kernel
theorem dX4_lives_55 : decode cX4_lives 55 = .ok (.invokestatic 191, 3) := by decide +kernel
theorem dX4_lives_58 : decode cX4_lives 58 = .ok (.ishl, 1) := by decide +kernel
theorem dX4_lives_59 : decode cX4_lives 59 = .ok (.ior, 1) := by decide +kernel
theorem dX4_lives_60 : decode cX4_lives 60 = .ok (.istore_n 3, 1) := by decide +kernel
theorem dX4_lives_61 : decode cX4_lives 61 = .ok (.iinc 4 1, 3) := by decide +kernel
theorem dX4_lives_64 : decode cX4_lives 64 = .ok (.goto (-42), 3) := by decide +kernel
theorem dX4_lives_67 : decode cX4_lives 67 = .ok (.iload_n 1, 1) := by decide +kernel
theorem dX4_lives_68 : decode cX4_lives 68 = .ok (.ifCond .ge 7, 3) := by decide +kernel
theorem dX4_lives_71 : decode cX4_lives 71 = .ok (.iload_n 2, 1) := by decide +kernel
theorem dX4_lives_72 : decode cX4_lives 72 = .ok (.goto 4, 3) := by decide +kernel
theorem dX4_lives_75 : decode cX4_lives 75 = .ok (.iload_n 3, 1) := by decide +kernel
theorem dX4_lives_76 : decode cX4_lives 76 = .ok (.ireturn, 1) := by decide +kernel
set_option maxRecDepth 20000 in
theorem ggX4_rests_X1_hasBoat : GoodIn wsX4_rests wsX1_hasBoat := goodIn_r _ [6, 7, 30, 31, 32, 33, 34] (by decide +kernel) (by decide +kernel)
set_option maxRecDepth 20000 in
theorem gX4_rests_X1_hasBoat : GoodIn wsX4_rests (wsV RX4 106 RX1 yX1_hasBoat wsX1_hasBoat) := goodIn_app (goodIn_of _ (by decide +kernel)) ggX4_rests_X1_hasBoat
set_option maxRecDepth 20000 in
theorem ggX4_rests_X1_loadOf : GoodIn wsX4_rests wsX1_loadOf := goodIn_r _ [11, 12, 30, 31, 32, 33, 34] (by decide +kernel) (by decide +kernel)
set_option maxRecDepth 20000 in
theorem gX4_rests_X1_loadOf : GoodIn wsX4_rests (wsV RX4 109 RX1 yX1_loadOf wsX1_loadOf) := goodIn_app (goodIn_of _ (by decide +kernel)) ggX4_rests_X1_loadOf
set_option maxRecDepth 20000 in
theorem ggX4_rests_X4_staysWith : GoodIn wsX4_rests wsX4_staysWith := goodIn_r _ [16, 17, 18, 15, 19] (by decide +kernel) (by decide +kernel)
set_option maxRecDepth 20000 in
theorem gX4_rests_X4_staysWith : GoodIn wsX4_rests (va_wsS RX4 194 yX4_staysWith wsX4_staysWith) := goodIn_app (goodIn_of _ (by decide +kernel)) ggX4_rests_X4_staysWith
theorem dX4_rests_0 : decode cX4_rests 0 = .ok (.aload_n 0, 1) := by decide +kernel
theorem dX4_rests_1 : decode cX4_rests 1 = .ok (.getfield 19, 3) := by decide +kernel
theorem dX4_rests_4 : decode cX4_rests 4 = .ok (.iload_n 1, 1) := by decide +kernel
theorem dX4_rests_5 : decode cX4_rests 5 = .ok (.invokevirtual 106, 3) := by decide +kernel
theorem dX4_rests_8 : decode cX4_rests 8 = .ok (.ifCond .eq 14, 3) := by decide +kernel
theorem dX4_rests_11 : decode cX4_rests 11 = .ok (.aload_n 0, 1) := by decide +kernel
theorem dX4_rests_12 : decode cX4_rests 12 = .ok (.getfield 19, 3) := by decide +kernel
theorem dX4_rests_15 : decode cX4_rests 15 = .ok (.iload_n 2, 1) := by decide +kernel
theorem dX4_rests_16 : decode cX4_rests 16 = .ok (.invokevirtual 106, 3) := by decide +kernel
theorem dX4_rests_19 : decode cX4_rests 19 = .ok (.ifCond .ne 5, 3) := by decide +kernel
theorem dX4_rests_22 : decode cX4_rests 22 = .ok (.iconst (-1), 1) := by decide +kernel
theorem dX4_rests_23 : decode cX4_rests 23 = .ok (.ireturn, 1) := by decide +kernel
theorem dX4_rests_24 : decode cX4_rests 24 = .ok (.iload_n 1, 1) := by decide +kernel
theorem dX4_rests_25 : decode cX4_rests 25 = .ok (.iload_n 2, 1) := by decide +kernel
theorem dX4_rests_26 : decode cX4_rests 26 = .ok (.if_icmp .eq 12, 3) := by decide +kernel
theorem dX4_rests_29 : decode cX4_rests 29 = .ok (.iload_n 3, 1) := by decide +kernel
theorem dX4_rests_30 : decode cX4_rests 30 = .ok (.ifCond .eq 11, 3) := by decide +kernel
theorem dX4_rests_33 : decode cX4_rests 33 = .ok (.iload_n 3, 1) := by decide +kernel
theorem dX4_rests_34 : decode cX4_rests 34 = .ok (.iconst 1, 1) := by decide +kernel
theorem dX4_rests_35 : decode cX4_rests 35 = .ok (.if_icmp .eq 6, 3) := by decide +kernel
theorem dX4_rests_38 : decode cX4_rests 38 = .ok (.bipush (-2), 2) := by decide +kernel
theorem dX4_rests_40 : decode cX4_rests 40 = .ok (.ireturn, 1) := by decide +kernel
theorem dX4_rests_41 : decode cX4_rests 41 = .ok (.iconst 0, 1) := by decide +kernel
theorem dX4_rests_42 : decode cX4_rests 42 = .ok (.istore 4, 2) := by decide +kernel
theorem dX4_rests_44 : decode cX4_rests 44 = .ok (.bipush (-9), 2) := by decide +kernel
theorem dX4_rests_46 : decode cX4_rests 46 = .ok (.istore 5, 2) := by decide +kernel
theorem dX4_rests_48 : decode cX4_rests 48 = .ok (.iconst 0, 1) := by decide +kernel
theorem dX4_rests_49 : decode cX4_rests 49 = .ok (.istore 6, 2) := by decide +kernel
theorem dX4_rests_51 : decode cX4_rests 51 = .ok (.iload 6, 2) := by decide +kernel
theorem dX4_rests_53 : decode cX4_rests 53 = .ok (.iconst 3, 1) := by decide +kernel
theorem dX4_rests_54 : decode cX4_rests 54 = .ok (.if_icmp .gt 83, 3) := by decide +kernel
theorem dX4_rests_57 : decode cX4_rests 57 = .ok (.iconst 0, 1) := by decide +kernel
theorem dX4_rests_58 : decode cX4_rests 58 = .ok (.istore 7, 2) := by decide +kernel
theorem dX4_rests_60 : decode cX4_rests 60 = .ok (.iload 7, 2) := by decide +kernel
theorem dX4_rests_62 : decode cX4_rests 62 = .ok (.iconst 3, 1) := by decide +kernel
theorem dX4_rests_63 : decode cX4_rests 63 = .ok (.if_icmp .gt 68, 3) := by decide +kernel
theorem dX4_rests_66 : decode cX4_rests 66 = .ok (.aload_n 0, 1) := by decide +kernel
theorem dX4_rests_67 : decode cX4_rests 67 = .ok (.getfield 19, 3) := by decide +kernel
theorem dX4_rests_70 : decode cX4_rests 70 = .ok (.iload_n 1, 1) := by decide +kernel
theorem dX4_rests_71 : decode cX4_rests 71 = .ok (.invokevirtual 109, 3) := by decide +kernel
theorem dX4_rests_74 : decode cX4_rests 74 = .ok (.iload 6, 2) := by decide +kernel
theorem dX4_rests_76 : decode cX4_rests 76 = .ok (.iload 7, 2) := by decide +kernel
theorem dX4_rests_78 : decode cX4_rests 78 = .ok (.invokestatic 194, 3) := by decide +kernel
theorem dX4_rests_81 : decode cX4_rests 81 = .ok (.ifCond .eq 44, 3) := by decide +kernel
theorem dX4_rests_84 : decode cX4_rests 84 = .ok (.aload_n 0, 1) := by decide +kernel
theorem dX4_rests_85 : decode cX4_rests 85 = .ok (.getfield 19, 3) := by decide +kernel
theorem dX4_rests_88 : decode cX4_rests 88 = .ok (.iload_n 2, 1) := by decide +kernel
theorem dX4_rests_89 : decode cX4_rests 89 = .ok (.invokevirtual 109, 3) := by decide +kernel
theorem dX4_rests_92 : decode cX4_rests 92 = .ok (.iload 7, 2) := by decide +kernel
theorem dX4_rests_94 : decode cX4_rests 94 = .ok (.iload 6, 2) := by decide +kernel
theorem dX4_rests_96 : decode cX4_rests 96 = .ok (.invokestatic 194, 3) := by decide +kernel
theorem dX4_rests_99 : decode cX4_rests 99 = .ok (.ifCond .eq 26, 3) := by decide +kernel
theorem dX4_rests_102 : decode cX4_rests 102 = .ok (.iload 4, 2) := by decide +kernel
theorem dX4_rests_104 : decode cX4_rests 104 = .ok (.ifCond .ne 14, 3) := by decide +kernel
theorem dX4_rests_107 : decode cX4_rests 107 = .ok (.bipush 10, 2) := by decide +kernel
theorem dX4_rests_109 : decode cX4_rests 109 = .ok (.iload 6, 2) := by decide +kernel
theorem dX4_rests_111 : decode cX4_rests 111 = .ok (.imul, 1) := by decide +kernel
theorem dX4_rests_112 : decode cX4_rests 112 = .ok (.iload 7, 2) := by decide +kernel
theorem dX4_rests_114 : decode cX4_rests 114 = .ok (.iadd, 1) := by decide +kernel
theorem dX4_rests_115 : decode cX4_rests 115 = .ok (.goto 5, 3) := by decide +kernel
theorem dX4_rests_118 : decode cX4_rests 118 = .ok (.iload 5, 2) := by decide +kernel
theorem dX4_rests_120 : decode cX4_rests 120 = .ok (.istore 5, 2) := by decide +kernel
theorem dX4_rests_122 : decode cX4_rests 122 = .ok (.iinc 4 1, 3) := by decide +kernel
theorem dX4_rests_125 : decode cX4_rests 125 = .ok (.iinc 7 1, 3) := by decide +kernel
theorem dX4_rests_128 : decode cX4_rests 128 = .ok (.goto (-68), 3) := by decide +kernel
theorem dX4_rests_131 : decode cX4_rests 131 = .ok (.iinc 6 1, 3) := by decide +kernel
theorem dX4_rests_134 : decode cX4_rests 134 = .ok (.goto (-83), 3) := by decide +kernel
theorem dX4_rests_137 : decode cX4_rests 137 = .ok (.iload_n 3, 1) := by decide +kernel
theorem dX4_rests_138 : decode cX4_rests 138 = .ok (.ifCond .ne 8, 3) := by decide +kernel
theorem dX4_rests_141 : decode cX4_rests 141 = .ok (.iload 4, 2) := by decide +kernel
theorem dX4_rests_143 : decode cX4_rests 143 = .ok (.goto 5, 3) := by decide +kernel
theorem dX4_rests_146 : decode cX4_rests 146 = .ok (.iload 5, 2) := by decide +kernel
theorem dX4_rests_148 : decode cX4_rests 148 = .ok (.ireturn, 1) := by decide +kernel
set_option maxRecDepth 20000 in
theorem ggX4_chance_X1_hasLegger : GoodIn wsX4_chance wsX1_hasLegger := goodIn_r _ [6, 7, 60, 61, 62, 63, 64] (by decide +kernel) (by decide +kernel)
set_option maxRecDepth 20000 in
theorem gX4_chance_X1_hasLegger : GoodIn wsX4_chance (wsV RX4 86 RX1 yX1_hasLegger wsX1_hasLegger) := goodIn_app (goodIn_of _ (by decide +kernel)) ggX4_chance_X1_hasLegger
set_option maxRecDepth 20000 in
theorem ggX4_chance_X4_waysInTime : GoodIn wsX4_chance wsX4_waysInTime := goodIn_r _ [12, 1, 13, 14, 15, 16, 17, 18, 19, 20, 11, 21, 22, 23, 24, 25, 26, 27, 28, 29, 30, 31, 32, 33, 34, 35, 36, 37, 38, 5, 39, 40, 41, 42, 43, 44, 45, 46, 50, 51, 52, 53, 54, 55, 56, 57, 58, 59, 60, 61, 62, 63, 64, 65, 66, 67, 68] (by decide +kernel) (by decide +kernel)
set_option maxRecDepth 20000 in
theorem gX4_chance_X4_waysInTime : GoodIn wsX4_chance (wsV RX4 198 RX4 yX4_waysInTime wsX4_waysInTime) := goodIn_app (goodIn_of _ (by decide +kernel)) ggX4_chance_X4_waysInTime
set_option maxRecDepth 20000 in
theorem ggX4_chance_X4_fraction : GoodIn wsX4_chance wsX4_fraction := goodIn_r _ [49] (by decide +kernel) (by decide +kernel)
set_option maxRecDepth 20000 in
theorem gX4_chance_X4_fraction : GoodIn wsX4_chance (va_wsS RX4 181 yX4_fraction wsX4_fraction) := goodIn_app (goodIn_of _ (by decide +kernel)) ggX4_chance_X4_fraction
theorem dX4_chance_0 : decode cX4_chance 0 = .ok (.aload_n 0, 1) := by decide +kernel
theorem dX4_chance_1 : decode cX4_chance 1 = .ok (.getfield 19, 3) := by decide +kernel
theorem dX4_chance_4 : decode cX4_chance 4 = .ok (.iload_n 1, 1) := by decide +kernel
theorem dX4_chance_5 : decode cX4_chance 5 = .ok (.invokevirtual 86, 3) := by decide +kernel
theorem dX4_chance_8 : decode cX4_chance 8 = .ok (.ifCond .ne 5, 3) := by decide +kernel
theorem dX4_chance_11 : decode cX4_chance 11 = .ok (.iconst (-1), 1) := by decide +kernel
theorem dX4_chance_12 : decode cX4_chance 12 = .ok (.ireturn, 1) := by decide +kernel
theorem dX4_chance_13 : decode cX4_chance 13 = .ok (.iload_n 2, 1) := by decide +kernel
theorem dX4_chance_14 : decode cX4_chance 14 = .ok (.ifCond .lt 19, 3) := by decide +kernel
theorem dX4_chance_17 : decode cX4_chance 17 = .ok (.iload_n 2, 1) := by decide +kernel
theorem dX4_chance_18 : decode cX4_chance 18 = .ok (.bipush 60, 2) := by decide +kernel
theorem dX4_chance_20 : decode cX4_chance 20 = .ok (.if_icmp .gt 13, 3) := by decide +kernel
theorem dX4_chance_23 : decode cX4_chance 23 = .ok (.iload_n 3, 1) := by decide +kernel
theorem dX4_chance_24 : decode cX4_chance 24 = .ok (.ifCond .lt 9, 3) := by decide +kernel
theorem dX4_chance_27 : decode cX4_chance 27 = .ok (.iload_n 3, 1) := by decide +kernel
theorem dX4_chance_28 : decode cX4_chance 28 = .ok (.bipush 10, 2) := by decide +kernel
theorem dX4_chance_30 : decode cX4_chance 30 = .ok (.if_icmp .le 6, 3) := by decide +kernel
theorem dX4_chance_33 : decode cX4_chance 33 = .ok (.bipush (-2), 2) := by decide +kernel
theorem dX4_chance_35 : decode cX4_chance 35 = .ok (.ireturn, 1) := by decide +kernel
theorem dX4_chance_36 : decode cX4_chance 36 = .ok (.iconst 1, 1) := by decide +kernel
theorem dX4_chance_37 : decode cX4_chance 37 = .ok (.istore 5, 2) := by decide +kernel
theorem dX4_chance_39 : decode cX4_chance 39 = .ok (.iconst 0, 1) := by decide +kernel
theorem dX4_chance_40 : decode cX4_chance 40 = .ok (.istore 6, 2) := by decide +kernel
theorem dX4_chance_42 : decode cX4_chance 42 = .ok (.iload 6, 2) := by decide +kernel
theorem dX4_chance_44 : decode cX4_chance 44 = .ok (.aload_n 0, 1) := by decide +kernel
theorem dX4_chance_45 : decode cX4_chance 45 = .ok (.getfield 19, 3) := by decide +kernel
theorem dX4_chance_48 : decode cX4_chance 48 = .ok (.getfield 71, 3) := by decide +kernel
theorem dX4_chance_51 : decode cX4_chance 51 = .ok (.if_icmp .ge 16, 3) := by decide +kernel
theorem dX4_chance_54 : decode cX4_chance 54 = .ok (.iload 5, 2) := by decide +kernel
theorem dX4_chance_56 : decode cX4_chance 56 = .ok (.bipush 10, 2) := by decide +kernel
theorem dX4_chance_58 : decode cX4_chance 58 = .ok (.imul, 1) := by decide +kernel
theorem dX4_chance_59 : decode cX4_chance 59 = .ok (.istore 5, 2) := by decide +kernel
theorem dX4_chance_61 : decode cX4_chance 61 = .ok (.iinc 6 1, 3) := by decide +kernel
theorem dX4_chance_64 : decode cX4_chance 64 = .ok (.goto (-22), 3) := by decide +kernel
theorem dX4_chance_67 : decode cX4_chance 67 = .ok (.iconst 0, 1) := by decide +kernel
theorem dX4_chance_68 : decode cX4_chance 68 = .ok (.istore 6, 2) := by decide +kernel
theorem dX4_chance_70 : decode cX4_chance 70 = .ok (.iconst 0, 1) := by decide +kernel
theorem dX4_chance_71 : decode cX4_chance 71 = .ok (.istore 7, 2) := by decide +kernel
theorem dX4_chance_73 : decode cX4_chance 73 = .ok (.iload 7, 2) := by decide +kernel
theorem dX4_chance_75 : decode cX4_chance 75 = .ok (.iconst 1, 1) := by decide +kernel
theorem dX4_chance_76 : decode cX4_chance 76 = .ok (.aload_n 0, 1) := by decide +kernel
theorem dX4_chance_77 : decode cX4_chance 77 = .ok (.getfield 19, 3) := by decide +kernel
theorem dX4_chance_80 : decode cX4_chance 80 = .ok (.getfield 71, 3) := by decide +kernel
theorem dX4_chance_83 : decode cX4_chance 83 = .ok (.ishl, 1) := by decide +kernel
theorem dX4_chance_84 : decode cX4_chance 84 = .ok (.if_icmp .ge 23, 3) := by decide +kernel
theorem dX4_chance_87 : decode cX4_chance 87 = .ok (.iload 6, 2) := by decide +kernel
theorem dX4_chance_89 : decode cX4_chance 89 = .ok (.aload_n 0, 1) := by decide +kernel
theorem dX4_chance_90 : decode cX4_chance 90 = .ok (.iload_n 1, 1) := by decide +kernel
theorem dX4_chance_91 : decode cX4_chance 91 = .ok (.iload 7, 2) := by decide +kernel
theorem dX4_chance_93 : decode cX4_chance 93 = .ok (.iload_n 2, 1) := by decide +kernel
theorem dX4_chance_94 : decode cX4_chance 94 = .ok (.iload_n 3, 1) := by decide +kernel
theorem dX4_chance_95 : decode cX4_chance 95 = .ok (.invokevirtual 198, 3) := by decide +kernel
theorem dX4_chance_98 : decode cX4_chance 98 = .ok (.iadd, 1) := by decide +kernel
theorem dX4_chance_99 : decode cX4_chance 99 = .ok (.istore 6, 2) := by decide +kernel
theorem dX4_chance_101 : decode cX4_chance 101 = .ok (.iinc 7 1, 3) := by decide +kernel
theorem dX4_chance_104 : decode cX4_chance 104 = .ok (.goto (-31), 3) := by decide +kernel
theorem dX4_chance_107 : decode cX4_chance 107 = .ok (.iload 6, 2) := by decide +kernel
theorem dX4_chance_109 : decode cX4_chance 109 = .ok (.iload 5, 2) := by decide +kernel
theorem dX4_chance_111 : decode cX4_chance 111 = .ok (.iload 4, 2) := by decide +kernel
theorem dX4_chance_113 : decode cX4_chance 113 = .ok (.invokestatic 181, 3) := by decide +kernel
theorem dX4_chance_116 : decode cX4_chance 116 = .ok (.ireturn, 1) := by decide +kernel
theorem dX4_seed_0 : decode cX4_seed 0 = .ok (.aload_n 0, 1) := by decide +kernel
theorem dX4_seed_1 : decode cX4_seed 1 = .ok (.getfield 202, 3) := by decide +kernel
theorem dX4_seed_4 : decode cX4_seed 4 = .ok (.lstore_n 3, 1) := by decide +kernel
theorem dX4_seed_5 : decode cX4_seed 5 = .ok (.aload_n 0, 1) := by decide +kernel
theorem dX4_seed_6 : decode cX4_seed 6 = .ok (.lload_n 1, 1) := by decide +kernel
theorem dX4_seed_7 : decode cX4_seed 7 = .ok (.putfield 202, 3) := by decide +kernel
theorem dX4_seed_10 : decode cX4_seed 10 = .ok (.lload_n 3, 1) := by decide +kernel
theorem dX4_seed_11 : decode cX4_seed 11 = .ok (.lreturn, 1) := by decide +kernel
set_option maxRecDepth 20000 in
theorem ggX4_days_X2_storeIn : GoodIn wsX4_days wsX2_storeIn := goodIn_r _ [12, 13, 14, 15, 16, 122, 123, 124, 125] (by decide +kernel) (by decide +kernel)
set_option maxRecDepth 20000 in
theorem gX4_days_X2_storeIn : GoodIn wsX4_days (wsV RX4 206 RX2 yX2_storeIn wsX2_storeIn) := goodIn_app (goodIn_of _ (by decide +kernel)) ggX4_days_X2_storeIn
set_option maxRecDepth 20000 in
theorem ggX4_days_X4_isPlace : GoodIn wsX4_days wsX4_isPlace := goodIn_r _ [20] (by decide +kernel) (by decide +kernel)
set_option maxRecDepth 20000 in
theorem gX4_days_X4_isPlace : GoodIn wsX4_days (va_wsS RX4 89 yX4_isPlace wsX4_isPlace) := goodIn_app (goodIn_of _ (by decide +kernel)) ggX4_days_X4_isPlace
set_option maxRecDepth 20000 in
theorem ggX4_days_X4_legAll : GoodIn wsX4_days wsX4_legAll := goodIn_r _ [24, 1, 25, 26, 7, 27, 28, 29, 19, 30, 31, 32, 33, 34, 35, 36, 37, 38, 39, 40, 41, 42, 43, 44, 45, 46, 47, 48, 49, 50, 51, 52, 53, 54, 55, 56, 57, 58, 59, 60, 61, 62, 63, 64, 65, 66, 11, 67, 13, 68, 69, 70, 71, 72, 73, 74, 75, 76, 77, 78, 79, 80, 81, 82, 83, 84, 85, 86, 87, 88, 89, 90, 91, 92, 93, 94, 95, 96, 97, 98, 112, 113, 114, 115, 116, 117, 118, 119, 120, 121, 122, 123, 124, 125, 126, 127, 128, 129, 130] (by decide +kernel) (by decide +kernel)
set_option maxRecDepth 20000 in
theorem gX4_days_X4_legAll : GoodIn wsX4_days (wsV RX4 216 RX4 yX4_legAll wsX4_legAll) := goodIn_app (goodIn_of _ (by decide +kernel)) ggX4_days_X4_legAll
set_option maxRecDepth 20000 in
theorem ggX4_days_X1_hasLegger : GoodIn wsX4_days wsX1_hasLegger := goodIn_r _ [102, 103, 126, 127, 128, 129, 130] (by decide +kernel) (by decide +kernel)
set_option maxRecDepth 20000 in
theorem gX4_days_X1_hasLegger : GoodIn wsX4_days (wsV RX4 86 RX1 yX1_hasLegger wsX1_hasLegger) := goodIn_app (goodIn_of _ (by decide +kernel)) ggX4_days_X1_hasLegger
set_option maxRecDepth 20000 in
theorem ggX4_days_X2_cover : GoodIn wsX4_days wsX2_cover := goodIn_r _ [107, 13, 122, 123, 124, 125] (by decide +kernel) (by decide +kernel)
set_option maxRecDepth 20000 in
theorem gX4_days_X2_cover : GoodIn wsX4_days (wsV RX4 134 RX2 yX2_cover wsX2_cover) := goodIn_app (goodIn_of _ (by decide +kernel)) ggX4_days_X2_cover
set_option maxRecDepth 20000 in
theorem ggX4_days_X2_fetchFrom : GoodIn wsX4_days wsX2_fetchFrom := goodIn_r _ [111, 13, 14, 15, 16, 122, 123, 124, 125] (by decide +kernel) (by decide +kernel)
set_option maxRecDepth 20000 in
theorem gX4_days_X2_fetchFrom : GoodIn wsX4_days (wsV RX4 219 RX2 yX2_fetchFrom wsX2_fetchFrom) := goodIn_app (goodIn_of _ (by decide +kernel)) ggX4_days_X2_fetchFrom
theorem dX4_days_0 : decode cX4_days 0 = .ok (.iload_n 1, 1) := by decide +kernel
theorem dX4_days_1 : decode cX4_days 1 = .ok (.iconst 1, 1) := by decide +kernel
theorem dX4_days_2 : decode cX4_days 2 = .ok (.if_icmp .lt 9, 3) := by decide +kernel
theorem dX4_days_5 : decode cX4_days 5 = .ok (.iload_n 1, 1) := by decide +kernel
theorem dX4_days_6 : decode cX4_days 6 = .ok (.bipush 30, 2) := by decide +kernel
theorem dX4_days_8 : decode cX4_days 8 = .ok (.if_icmp .le 6, 3) := by decide +kernel
theorem dX4_days_11 : decode cX4_days 11 = .ok (.bipush (-2), 2) := by decide +kernel
theorem dX4_days_13 : decode cX4_days 13 = .ok (.ireturn, 1) := by decide +kernel
theorem dX4_days_14 : decode cX4_days 14 = .ok (.aload_n 0, 1) := by decide +kernel
theorem dX4_days_15 : decode cX4_days 15 = .ok (.getfield 26, 3) := by decide +kernel
theorem dX4_days_18 : decode cX4_days 18 = .ok (.aload_n 0, 1) := by decide +kernel
theorem dX4_days_19 : decode cX4_days 19 = .ok (.getfield 41, 3) := by decide +kernel
theorem dX4_days_22 : decode cX4_days 22 = .ok (.iconst 0, 1) := by decide +kernel
theorem dX4_days_23 : decode cX4_days 23 = .ok (.invokevirtual 206, 3) := by decide +kernel
theorem dX4_days_26 : decode cX4_days 26 = .ok (.aload_n 0, 1) := by decide +kernel
theorem dX4_days_27 : decode cX4_days 27 = .ok (.getfield 26, 3) := by decide +kernel
theorem dX4_days_30 : decode cX4_days 30 = .ok (.getfield 77, 3) := by decide +kernel
theorem dX4_days_33 : decode cX4_days 33 = .ok (.istore_n 2, 1) := by decide +kernel
theorem dX4_days_34 : decode cX4_days 34 = .ok (.iconst 0, 1) := by decide +kernel
theorem dX4_days_35 : decode cX4_days 35 = .ok (.istore_n 3, 1) := by decide +kernel
theorem dX4_days_36 : decode cX4_days 36 = .ok (.iload_n 3, 1) := by decide +kernel
theorem dX4_days_37 : decode cX4_days 37 = .ok (.iload_n 1, 1) := by decide +kernel
theorem dX4_days_38 : decode cX4_days 38 = .ok (.if_icmp .ge 90, 3) := by decide +kernel
theorem dX4_days_41 : decode cX4_days 41 = .ok (.aload_n 0, 1) := by decide +kernel
theorem dX4_days_42 : decode cX4_days 42 = .ok (.aload_n 0, 1) := by decide +kernel
theorem dX4_days_43 : decode cX4_days 43 = .ok (.getfield 202, 3) := by decide +kernel
theorem dX4_days_46 : decode cX4_days 46 = .ok (.ldc2_w 210, 3) := by decide +kernel
theorem dX4_days_49 : decode cX4_days 49 = .ok (.lmul, 1) := by decide +kernel
theorem dX4_days_50 : decode cX4_days 50 = .ok (.ldc2_w 212, 3) := by decide +kernel
theorem dX4_days_53 : decode cX4_days 53 = .ok (.ladd, 1) := by decide +kernel
theorem dX4_days_54 : decode cX4_days 54 = .ok (.putfield 202, 3) := by decide +kernel
theorem dX4_days_57 : decode cX4_days 57 = .ok (.aload_n 0, 1) := by decide +kernel
theorem dX4_days_58 : decode cX4_days 58 = .ok (.getfield 202, 3) := by decide +kernel
theorem dX4_days_61 : decode cX4_days 61 = .ok (.bipush 33, 2) := by decide +kernel
theorem dX4_days_63 : decode cX4_days 63 = .ok (.lushr, 1) := by decide +kernel
theorem dX4_days_64 : decode cX4_days 64 = .ok (.ldc2_w 214, 3) := by decide +kernel
theorem dX4_days_67 : decode cX4_days 67 = .ok (.lrem, 1) := by decide +kernel
theorem dX4_days_68 : decode cX4_days 68 = .ok (.l2i, 1) := by decide +kernel
theorem dX4_days_69 : decode cX4_days 69 = .ok (.istore 4, 2) := by decide +kernel
theorem dX4_days_71 : decode cX4_days 71 = .ok (.iload 4, 2) := by decide +kernel
theorem dX4_days_73 : decode cX4_days 73 = .ok (.iconst 4, 1) := by decide +kernel
theorem dX4_days_74 : decode cX4_days 74 = .ok (.idiv, 1) := by decide +kernel
theorem dX4_days_75 : decode cX4_days 75 = .ok (.istore 5, 2) := by decide +kernel
theorem dX4_days_77 : decode cX4_days 77 = .ok (.iload 4, 2) := by decide +kernel
theorem dX4_days_79 : decode cX4_days 79 = .ok (.iconst 4, 1) := by decide +kernel
theorem dX4_days_80 : decode cX4_days 80 = .ok (.irem, 1) := by decide +kernel
theorem dX4_days_81 : decode cX4_days 81 = .ok (.istore 6, 2) := by decide +kernel
theorem dX4_days_83 : decode cX4_days 83 = .ok (.iload 5, 2) := by decide +kernel
theorem dX4_days_85 : decode cX4_days 85 = .ok (.invokestatic 89, 3) := by decide +kernel
theorem dX4_days_88 : decode cX4_days 88 = .ok (.ifCond .ne 10, 3) := by decide +kernel
theorem dX4_days_91 : decode cX4_days 91 = .ok (.aload_n 0, 1) := by decide +kernel
theorem dX4_days_92 : decode cX4_days 92 = .ok (.invokevirtual 216, 3) := by decide +kernel
theorem dX4_days_95 : decode cX4_days 95 = .ok (.goto 27, 3) := by decide +kernel
theorem dX4_days_98 : decode cX4_days 98 = .ok (.aload_n 0, 1) := by decide +kernel
theorem dX4_days_99 : decode cX4_days 99 = .ok (.getfield 19, 3) := by decide +kernel
theorem dX4_days_102 : decode cX4_days 102 = .ok (.iload 6, 2) := by decide +kernel
theorem dX4_days_104 : decode cX4_days 104 = .ok (.invokevirtual 86, 3) := by decide +kernel
theorem dX4_days_107 : decode cX4_days 107 = .ok (.ifCond .eq 15, 3) := by decide +kernel
theorem dX4_days_110 : decode cX4_days 110 = .ok (.aload_n 0, 1) := by decide +kernel
theorem dX4_days_111 : decode cX4_days 111 = .ok (.getfield 26, 3) := by decide +kernel
theorem dX4_days_114 : decode cX4_days 114 = .ok (.iload 6, 2) := by decide +kernel
theorem dX4_days_116 : decode cX4_days 116 = .ok (.iload 5, 2) := by decide +kernel
theorem dX4_days_118 : decode cX4_days 118 = .ok (.iconst 2, 1) := by decide +kernel
theorem dX4_days_119 : decode cX4_days 119 = .ok (.invokevirtual 134, 3) := by decide +kernel
theorem dX4_days_122 : decode cX4_days 122 = .ok (.iinc 3 1, 3) := by decide +kernel
theorem dX4_days_125 : decode cX4_days 125 = .ok (.goto (-89), 3) := by decide +kernel
theorem dX4_days_128 : decode cX4_days 128 = .ok (.aload_n 0, 1) := by decide +kernel
theorem dX4_days_129 : decode cX4_days 129 = .ok (.getfield 26, 3) := by decide +kernel
theorem dX4_days_132 : decode cX4_days 132 = .ok (.getfield 77, 3) := by decide +kernel
theorem dX4_days_135 : decode cX4_days 135 = .ok (.iload_n 2, 1) := by decide +kernel
theorem dX4_days_136 : decode cX4_days 136 = .ok (.isub, 1) := by decide +kernel
theorem dX4_days_137 : decode cX4_days 137 = .ok (.istore_n 3, 1) := by decide +kernel
theorem dX4_days_138 : decode cX4_days 138 = .ok (.aload_n 0, 1) := by decide +kernel
theorem dX4_days_139 : decode cX4_days 139 = .ok (.getfield 26, 3) := by decide +kernel
theorem dX4_days_142 : decode cX4_days 142 = .ok (.aload_n 0, 1) := by decide +kernel
theorem dX4_days_143 : decode cX4_days 143 = .ok (.getfield 41, 3) := by decide +kernel
theorem dX4_days_146 : decode cX4_days 146 = .ok (.iconst 0, 1) := by decide +kernel
theorem dX4_days_147 : decode cX4_days 147 = .ok (.invokevirtual 219, 3) := by decide +kernel
theorem dX4_days_150 : decode cX4_days 150 = .ok (.iload_n 3, 1) := by decide +kernel
theorem dX4_days_151 : decode cX4_days 151 = .ok (.ireturn, 1) := by decide +kernel
set_option maxRecDepth 20000 in
theorem ggX4_keep_X2_storeIn : GoodIn wsX4_keep wsX2_storeIn := goodIn_r _ [8, 9, 10, 11, 12, 23, 24, 25, 26] (by decide +kernel) (by decide +kernel)
set_option maxRecDepth 20000 in
theorem gX4_keep_X2_storeIn : GoodIn wsX4_keep (wsV RX4 206 RX2 yX2_storeIn wsX2_storeIn) := goodIn_app (goodIn_of _ (by decide +kernel)) ggX4_keep_X2_storeIn
theorem dX4_keep_0 : decode cX4_keep 0 = .ok (.iload_n 1, 1) := by decide +kernel
theorem dX4_keep_1 : decode cX4_keep 1 = .ok (.ifCond .lt 8, 3) := by decide +kernel
theorem dX4_keep_4 : decode cX4_keep 4 = .ok (.iload_n 1, 1) := by decide +kernel
theorem dX4_keep_5 : decode cX4_keep 5 = .ok (.iconst 2, 1) := by decide +kernel
theorem dX4_keep_6 : decode cX4_keep 6 = .ok (.if_icmp .lt 5, 3) := by decide +kernel
theorem dX4_keep_9 : decode cX4_keep 9 = .ok (.iconst (-1), 1) := by decide +kernel
theorem dX4_keep_10 : decode cX4_keep 10 = .ok (.ireturn, 1) := by decide +kernel
theorem dX4_keep_11 : decode cX4_keep 11 = .ok (.aload_n 0, 1) := by decide +kernel
theorem dX4_keep_12 : decode cX4_keep 12 = .ok (.getfield 26, 3) := by decide +kernel
theorem dX4_keep_15 : decode cX4_keep 15 = .ok (.aload_n 0, 1) := by decide +kernel
theorem dX4_keep_16 : decode cX4_keep 16 = .ok (.getfield 37, 3) := by decide +kernel
theorem dX4_keep_19 : decode cX4_keep 19 = .ok (.iload_n 1, 1) := by decide +kernel
theorem dX4_keep_20 : decode cX4_keep 20 = .ok (.invokevirtual 206, 3) := by decide +kernel
theorem dX4_keep_23 : decode cX4_keep 23 = .ok (.aload_n 0, 1) := by decide +kernel
theorem dX4_keep_24 : decode cX4_keep 24 = .ok (.dup, 1) := by decide +kernel
theorem dX4_keep_25 : decode cX4_keep 25 = .ok (.getfield 62, 3) := by decide +kernel
theorem dX4_keep_28 : decode cX4_keep 28 = .ok (.iconst 1, 1) := by decide +kernel
theorem dX4_keep_29 : decode cX4_keep 29 = .ok (.iload_n 1, 1) := by decide +kernel
theorem dX4_keep_30 : decode cX4_keep 30 = .ok (.ishl, 1) := by decide +kernel
theorem dX4_keep_31 : decode cX4_keep 31 = .ok (.ior, 1) := by decide +kernel
theorem dX4_keep_32 : decode cX4_keep 32 = .ok (.putfield 62, 3) := by decide +kernel
theorem dX4_keep_35 : decode cX4_keep 35 = .ok (.aload_n 0, 1) := by decide +kernel
theorem dX4_keep_36 : decode cX4_keep 36 = .ok (.getfield 26, 3) := by decide +kernel
theorem dX4_keep_39 : decode cX4_keep 39 = .ok (.getfield 77, 3) := by decide +kernel
theorem dX4_keep_42 : decode cX4_keep 42 = .ok (.ireturn, 1) := by decide +kernel
set_option maxRecDepth 20000 in
theorem ggX4_again_X4_isIn : GoodIn wsX4_again wsX4_isIn := goodIn_r _ [8] (by decide +kernel) (by decide +kernel)
set_option maxRecDepth 20000 in
theorem gX4_again_X4_isIn : GoodIn wsX4_again (va_wsS RX4 116 yX4_isIn wsX4_isIn) := goodIn_app (goodIn_of _ (by decide +kernel)) ggX4_again_X4_isIn
set_option maxRecDepth 20000 in
theorem ggX4_again_X2_fetchFrom : GoodIn wsX4_again wsX2_fetchFrom := goodIn_r _ [13, 14, 15, 16, 17, 34, 35, 36, 37] (by decide +kernel) (by decide +kernel)
set_option maxRecDepth 20000 in
theorem gX4_again_X2_fetchFrom : GoodIn wsX4_again (wsV RX4 219 RX2 yX2_fetchFrom wsX2_fetchFrom) := goodIn_app (goodIn_of _ (by decide +kernel)) ggX4_again_X2_fetchFrom
set_option maxRecDepth 20000 in
theorem ggX4_again_X0_forgetAll : GoodIn wsX4_again wsX0_forgetAll := goodIn_r _ [22, 23, 38, 39, 40] (by decide +kernel) (by decide +kernel)
set_option maxRecDepth 20000 in
theorem gX4_again_X0_forgetAll : GoodIn wsX4_again (wsV RX4 59 RX0 yX0_forgetAll wsX0_forgetAll) := goodIn_app (goodIn_of _ (by decide +kernel)) ggX4_again_X0_forgetAll
theorem dX4_again_0 : decode cX4_again 0 = .ok (.iload_n 1, 1) := by decide +kernel
theorem dX4_again_1 : decode cX4_again 1 = .ok (.ifCond .lt 8, 3) := by decide +kernel
theorem dX4_again_4 : decode cX4_again 4 = .ok (.iload_n 1, 1) := by decide +kernel
theorem dX4_again_5 : decode cX4_again 5 = .ok (.iconst 2, 1) := by decide +kernel
theorem dX4_again_6 : decode cX4_again 6 = .ok (.if_icmp .lt 5, 3) := by decide +kernel
theorem dX4_again_9 : decode cX4_again 9 = .ok (.iconst (-1), 1) := by decide +kernel
theorem dX4_again_10 : decode cX4_again 10 = .ok (.ireturn, 1) := by decide +kernel
theorem dX4_again_11 : decode cX4_again 11 = .ok (.aload_n 0, 1) := by decide +kernel
theorem dX4_again_12 : decode cX4_again 12 = .ok (.getfield 62, 3) := by decide +kernel
theorem dX4_again_15 : decode cX4_again 15 = .ok (.iload_n 1, 1) := by decide +kernel
theorem dX4_again_16 : decode cX4_again 16 = .ok (.invokestatic 116, 3) := by decide +kernel
theorem dX4_again_19 : decode cX4_again 19 = .ok (.ifCond .ne 6, 3) := by decide +kernel
theorem dX4_again_22 : decode cX4_again 22 = .ok (.bipush (-3), 2) := by decide +kernel
theorem dX4_again_24 : decode cX4_again 24 = .ok (.ireturn, 1) := by decide +kernel
theorem dX4_again_25 : decode cX4_again 25 = .ok (.aload_n 0, 1) := by decide +kernel
theorem dX4_again_26 : decode cX4_again 26 = .ok (.getfield 26, 3) := by decide +kernel
theorem dX4_again_29 : decode cX4_again 29 = .ok (.aload_n 0, 1) := by decide +kernel
theorem dX4_again_30 : decode cX4_again 30 = .ok (.getfield 37, 3) := by decide +kernel
theorem dX4_again_33 : decode cX4_again 33 = .ok (.iload_n 1, 1) := by decide +kernel
theorem dX4_again_34 : decode cX4_again 34 = .ok (.invokevirtual 219, 3) := by decide +kernel
theorem dX4_again_37 : decode cX4_again 37 = .ok (.aload_n 0, 1) := by decide +kernel
theorem dX4_again_38 : decode cX4_again 38 = .ok (.getfield 33, 3) := by decide +kernel
theorem dX4_again_41 : decode cX4_again 41 = .ok (.invokevirtual 59, 3) := by decide +kernel
theorem dX4_again_44 : decode cX4_again 44 = .ok (.aload_n 0, 1) := by decide +kernel
theorem dX4_again_45 : decode cX4_again 45 = .ok (.getfield 26, 3) := by decide +kernel
theorem dX4_again_48 : decode cX4_again 48 = .ok (.getfield 77, 3) := by decide +kernel
theorem dX4_again_51 : decode cX4_again 51 = .ok (.ireturn, 1) := by decide +kernel
set_option maxRecDepth 20000 in
theorem ggX4_pairRefusal_X1_hasBoat : GoodIn wsX4_pairRefusal wsX1_hasBoat := goodIn_r _ [6, 7, 23, 24, 25, 26, 27] (by decide +kernel) (by decide +kernel)
set_option maxRecDepth 20000 in
theorem gX4_pairRefusal_X1_hasBoat : GoodIn wsX4_pairRefusal (wsV RX4 106 RX1 yX1_hasBoat wsX1_hasBoat) := goodIn_app (goodIn_of _ (by decide +kernel)) ggX4_pairRefusal_X1_hasBoat
set_option maxRecDepth 20000 in
theorem ggX4_pairRefusal_X1_hasLegger : GoodIn wsX4_pairRefusal wsX1_hasLegger := goodIn_r _ [11, 12, 23, 24, 25, 26, 27] (by decide +kernel) (by decide +kernel)
set_option maxRecDepth 20000 in
theorem gX4_pairRefusal_X1_hasLegger : GoodIn wsX4_pairRefusal (wsV RX4 86 RX1 yX1_hasLegger wsX1_hasLegger) := goodIn_app (goodIn_of _ (by decide +kernel)) ggX4_pairRefusal_X1_hasLegger
theorem dX4_pairRefusal_0 : decode cX4_pairRefusal 0 = .ok (.aload_n 0, 1) := by decide +kernel
theorem dX4_pairRefusal_1 : decode cX4_pairRefusal 1 = .ok (.getfield 19, 3) := by decide +kernel
theorem dX4_pairRefusal_4 : decode cX4_pairRefusal 4 = .ok (.iload_n 1, 1) := by decide +kernel
theorem dX4_pairRefusal_5 : decode cX4_pairRefusal 5 = .ok (.invokevirtual 106, 3) := by decide +kernel
theorem dX4_pairRefusal_8 : decode cX4_pairRefusal 8 = .ok (.ifCond .eq 25, 3) := by decide +kernel
theorem dX4_pairRefusal_11 : decode cX4_pairRefusal 11 = .ok (.aload_n 0, 1) := by decide +kernel
theorem dX4_pairRefusal_12 : decode cX4_pairRefusal 12 = .ok (.getfield 19, 3) := by decide +kernel
theorem dX4_pairRefusal_15 : decode cX4_pairRefusal 15 = .ok (.iload_n 2, 1) := by decide +kernel
theorem dX4_pairRefusal_16 : decode cX4_pairRefusal 16 = .ok (.invokevirtual 86, 3) := by decide +kernel
theorem dX4_pairRefusal_19 : decode cX4_pairRefusal 19 = .ok (.ifCond .eq 14, 3) := by decide +kernel
theorem dX4_pairRefusal_22 : decode cX4_pairRefusal 22 = .ok (.aload_n 0, 1) := by decide +kernel
theorem dX4_pairRefusal_23 : decode cX4_pairRefusal 23 = .ok (.getfield 19, 3) := by decide +kernel
theorem dX4_pairRefusal_26 : decode cX4_pairRefusal 26 = .ok (.iload_n 3, 1) := by decide +kernel
theorem dX4_pairRefusal_27 : decode cX4_pairRefusal 27 = .ok (.invokevirtual 86, 3) := by decide +kernel
theorem dX4_pairRefusal_30 : decode cX4_pairRefusal 30 = .ok (.ifCond .ne 5, 3) := by decide +kernel
theorem dX4_pairRefusal_33 : decode cX4_pairRefusal 33 = .ok (.iconst (-1), 1) := by decide +kernel
theorem dX4_pairRefusal_34 : decode cX4_pairRefusal 34 = .ok (.ireturn, 1) := by decide +kernel
theorem dX4_pairRefusal_35 : decode cX4_pairRefusal 35 = .ok (.iload_n 2, 1) := by decide +kernel
theorem dX4_pairRefusal_36 : decode cX4_pairRefusal 36 = .ok (.iload_n 3, 1) := by decide +kernel
theorem dX4_pairRefusal_37 : decode cX4_pairRefusal 37 = .ok (.if_icmp .ne 8, 3) := by decide +kernel
theorem dX4_pairRefusal_40 : decode cX4_pairRefusal 40 = .ok (.bipush (-2), 2) := by decide +kernel
theorem dX4_pairRefusal_42 : decode cX4_pairRefusal 42 = .ok (.goto 4, 3) := by decide +kernel
theorem dX4_pairRefusal_45 : decode cX4_pairRefusal 45 = .ok (.iconst 0, 1) := by decide +kernel
theorem dX4_pairRefusal_46 : decode cX4_pairRefusal 46 = .ok (.ireturn, 1) := by decide +kernel
set_option maxRecDepth 20000 in
theorem ggX4_placeRefusal_X1_hasLegger : GoodIn wsX4_placeRefusal wsX1_hasLegger := goodIn_r _ [6, 7, 22, 23, 24, 25, 26] (by decide +kernel) (by decide +kernel)
set_option maxRecDepth 20000 in
theorem gX4_placeRefusal_X1_hasLegger : GoodIn wsX4_placeRefusal (wsV RX4 86 RX1 yX1_hasLegger wsX1_hasLegger) := goodIn_app (goodIn_of _ (by decide +kernel)) ggX4_placeRefusal_X1_hasLegger
set_option maxRecDepth 20000 in
theorem ggX4_placeRefusal_X4_isPlace : GoodIn wsX4_placeRefusal wsX4_isPlace := goodIn_r _ [11] (by decide +kernel) (by decide +kernel)
set_option maxRecDepth 20000 in
theorem gX4_placeRefusal_X4_isPlace : GoodIn wsX4_placeRefusal (va_wsS RX4 89 yX4_isPlace wsX4_isPlace) := goodIn_app (goodIn_of _ (by decide +kernel)) ggX4_placeRefusal_X4_isPlace
theorem dX4_placeRefusal_0 : decode cX4_placeRefusal 0 = .ok (.aload_n 0, 1) := by decide +kernel
theorem dX4_placeRefusal_1 : decode cX4_placeRefusal 1 = .ok (.getfield 19, 3) := by decide +kernel
theorem dX4_placeRefusal_4 : decode cX4_placeRefusal 4 = .ok (.iload_n 1, 1) := by decide +kernel
theorem dX4_placeRefusal_5 : decode cX4_placeRefusal 5 = .ok (.invokevirtual 86, 3) := by decide +kernel
theorem dX4_placeRefusal_8 : decode cX4_placeRefusal 8 = .ok (.ifCond .ne 5, 3) := by decide +kernel
theorem dX4_placeRefusal_11 : decode cX4_placeRefusal 11 = .ok (.iconst (-1), 1) := by decide +kernel
theorem dX4_placeRefusal_12 : decode cX4_placeRefusal 12 = .ok (.ireturn, 1) := by decide +kernel
theorem dX4_placeRefusal_13 : decode cX4_placeRefusal 13 = .ok (.iload_n 2, 1) := by decide +kernel
theorem dX4_placeRefusal_14 : decode cX4_placeRefusal 14 = .ok (.invokestatic 89, 3) := by decide +kernel
theorem dX4_placeRefusal_17 : decode cX4_placeRefusal 17 = .ok (.ifCond .eq 7, 3) := by decide +kernel
theorem dX4_placeRefusal_20 : decode cX4_placeRefusal 20 = .ok (.iconst 0, 1) := by decide +kernel
theorem dX4_placeRefusal_21 : decode cX4_placeRefusal 21 = .ok (.goto 5, 3) := by decide +kernel
theorem dX4_placeRefusal_24 : decode cX4_placeRefusal 24 = .ok (.bipush (-2), 2) := by decide +kernel
theorem dX4_placeRefusal_26 : decode cX4_placeRefusal 26 = .ok (.ireturn, 1) := by decide +kernel
theorem dX4_isPlace_0 : decode cX4_isPlace 0 = .ok (.iload_n 0, 1) := by decide +kernel
theorem dX4_isPlace_1 : decode cX4_isPlace 1 = .ok (.ifCond .lt 12, 3) := by decide +kernel
theorem dX4_isPlace_4 : decode cX4_isPlace 4 = .ok (.iload_n 0, 1) := by decide +kernel
theorem dX4_isPlace_5 : decode cX4_isPlace 5 = .ok (.iconst 4, 1) := by decide +kernel
theorem dX4_isPlace_6 : decode cX4_isPlace 6 = .ok (.if_icmp .ge 7, 3) := by decide +kernel
theorem dX4_isPlace_9 : decode cX4_isPlace 9 = .ok (.iconst 1, 1) := by decide +kernel
theorem dX4_isPlace_10 : decode cX4_isPlace 10 = .ok (.goto 4, 3) := by decide +kernel
theorem dX4_isPlace_13 : decode cX4_isPlace 13 = .ok (.iconst 0, 1) := by decide +kernel
theorem dX4_isPlace_14 : decode cX4_isPlace 14 = .ok (.ireturn, 1) := by decide +kernel
theorem dX4_isIn_0 : decode cX4_isIn 0 = .ok (.iload_n 0, 1) := by decide +kernel
theorem dX4_isIn_1 : decode cX4_isIn 1 = .ok (.iload_n 1, 1) := by decide +kernel
theorem dX4_isIn_2 : decode cX4_isIn 2 = .ok (.iushr, 1) := by decide +kernel
theorem dX4_isIn_3 : decode cX4_isIn 3 = .ok (.iconst 1, 1) := by decide +kernel
theorem dX4_isIn_4 : decode cX4_isIn 4 = .ok (.iand, 1) := by decide +kernel
theorem dX4_isIn_5 : decode cX4_isIn 5 = .ok (.ifCond .eq 7, 3) := by decide +kernel
theorem dX4_isIn_8 : decode cX4_isIn 8 = .ok (.iconst 1, 1) := by decide +kernel
theorem dX4_isIn_9 : decode cX4_isIn 9 = .ok (.goto 4, 3) := by decide +kernel
theorem dX4_isIn_12 : decode cX4_isIn 12 = .ok (.iconst 0, 1) := by decide +kernel
theorem dX4_isIn_13 : decode cX4_isIn 13 = .ok (.ireturn, 1) := by decide +kernel
theorem dX4_groundIn_0 : decode cX4_groundIn 0 = .ok (.iload_n 0, 1) := by decide +kernel
theorem dX4_groundIn_1 : decode cX4_groundIn 1 = .ok (.iconst 2, 1) := by decide +kernel
theorem dX4_groundIn_2 : decode cX4_groundIn 2 = .ok (.iload_n 1, 1) := by decide +kernel
theorem dX4_groundIn_3 : decode cX4_groundIn 3 = .ok (.imul, 1) := by decide +kernel
theorem dX4_groundIn_4 : decode cX4_groundIn 4 = .ok (.iushr, 1) := by decide +kernel
theorem dX4_groundIn_5 : decode cX4_groundIn 5 = .ok (.iconst 3, 1) := by decide +kernel
theorem dX4_groundIn_6 : decode cX4_groundIn 6 = .ok (.iand, 1) := by decide +kernel
theorem dX4_groundIn_7 : decode cX4_groundIn 7 = .ok (.ireturn, 1) := by decide +kernel
theorem dX4_timesTired_0 : decode cX4_timesTired 0 = .ok (.iload_n 0, 1) := by decide +kernel
theorem dX4_timesTired_1 : decode cX4_timesTired 1 = .ok (.iconst 2, 1) := by decide +kernel
theorem dX4_timesTired_2 : decode cX4_timesTired 2 = .ok (.iload_n 1, 1) := by decide +kernel
theorem dX4_timesTired_3 : decode cX4_timesTired 3 = .ok (.imul, 1) := by decide +kernel
theorem dX4_timesTired_4 : decode cX4_timesTired 4 = .ok (.iushr, 1) := by decide +kernel
theorem dX4_timesTired_5 : decode cX4_timesTired 5 = .ok (.iconst 3, 1) := by decide +kernel
theorem dX4_timesTired_6 : decode cX4_timesTired 6 = .ok (.iand, 1) := by decide +kernel
theorem dX4_timesTired_7 : decode cX4_timesTired 7 = .ok (.ireturn, 1) := by decide +kernel
set_option maxRecDepth 20000 in
theorem ggX4_tireOne_X4_timesTired : GoodIn wsX4_tireOne wsX4_timesTired := goodIn_r _ [4] (by decide +kernel) (by decide +kernel)
set_option maxRecDepth 20000 in
theorem gX4_tireOne_X4_timesTired : GoodIn wsX4_tireOne (va_wsS RX4 103 yX4_timesTired wsX4_timesTired) := goodIn_app (goodIn_of _ (by decide +kernel)) ggX4_tireOne_X4_timesTired
theorem dX4_tireOne_0 : decode cX4_tireOne 0 = .ok (.iload_n 0, 1) := by decide +kernel
theorem dX4_tireOne_1 : decode cX4_tireOne 1 = .ok (.iload_n 1, 1) := by decide +kernel
theorem dX4_tireOne_2 : decode cX4_tireOne 2 = .ok (.invokestatic 103, 3) := by decide +kernel
theorem dX4_tireOne_5 : decode cX4_tireOne 5 = .ok (.iconst 3, 1) := by decide +kernel
theorem dX4_tireOne_6 : decode cX4_tireOne 6 = .ok (.if_icmp .lt 7, 3) := by decide +kernel
theorem dX4_tireOne_9 : decode cX4_tireOne 9 = .ok (.iload_n 0, 1) := by decide +kernel
theorem dX4_tireOne_10 : decode cX4_tireOne 10 = .ok (.goto 10, 3) := by decide +kernel
theorem dX4_tireOne_13 : decode cX4_tireOne 13 = .ok (.iload_n 0, 1) := by decide +kernel
theorem dX4_tireOne_14 : decode cX4_tireOne 14 = .ok (.iconst 1, 1) := by decide +kernel
theorem dX4_tireOne_15 : decode cX4_tireOne 15 = .ok (.iconst 2, 1) := by decide +kernel
theorem dX4_tireOne_16 : decode cX4_tireOne 16 = .ok (.iload_n 1, 1) := by decide +kernel
theorem dX4_tireOne_17 : decode cX4_tireOne 17 = .ok (.imul, 1) := by decide +kernel
theorem dX4_tireOne_18 : decode cX4_tireOne 18 = .ok (.ishl, 1) := by decide +kernel
theorem dX4_tireOne_19 : decode cX4_tireOne 19 = .ok (.iadd, 1) := by decide +kernel
theorem dX4_tireOne_20 : decode cX4_tireOne 20 = .ok (.ireturn, 1) := by decide +kernel
set_option maxRecDepth 20000 in
theorem ggX4_tireBoth_X4_tireOne : GoodIn wsX4_tireBoth wsX4_tireOne := goodIn_r _ [4, 5, 6, 3, 7] (by decide +kernel) (by decide +kernel)
set_option maxRecDepth 20000 in
theorem gX4_tireBoth_X4_tireOne : GoodIn wsX4_tireBoth (va_wsS RX4 222 yX4_tireOne wsX4_tireOne) := goodIn_app (goodIn_of _ (by decide +kernel)) ggX4_tireBoth_X4_tireOne
theorem dX4_tireBoth_0 : decode cX4_tireBoth 0 = .ok (.iload_n 0, 1) := by decide +kernel
theorem dX4_tireBoth_1 : decode cX4_tireBoth 1 = .ok (.iload_n 1, 1) := by decide +kernel
theorem dX4_tireBoth_2 : decode cX4_tireBoth 2 = .ok (.invokestatic 222, 3) := by decide +kernel
theorem dX4_tireBoth_5 : decode cX4_tireBoth 5 = .ok (.iload_n 2, 1) := by decide +kernel
theorem dX4_tireBoth_6 : decode cX4_tireBoth 6 = .ok (.invokestatic 222, 3) := by decide +kernel
theorem dX4_tireBoth_9 : decode cX4_tireBoth 9 = .ok (.ireturn, 1) := by decide +kernel
theorem dX4_legTold_0 : decode cX4_legTold 0 = .ok (.iload_n 0, 1) := by decide +kernel
theorem dX4_legTold_1 : decode cX4_legTold 1 = .ok (.istore_n 2, 1) := by decide +kernel
theorem dX4_legTold_2 : decode cX4_legTold 2 = .ok (.iconst 0, 1) := by decide +kernel
theorem dX4_legTold_3 : decode cX4_legTold 3 = .ok (.istore_n 3, 1) := by decide +kernel
theorem dX4_legTold_4 : decode cX4_legTold 4 = .ok (.iload_n 3, 1) := by decide +kernel
theorem dX4_legTold_5 : decode cX4_legTold 5 = .ok (.iload_n 1, 1) := by decide +kernel
theorem dX4_legTold_6 : decode cX4_legTold 6 = .ok (.if_icmp .ge 15, 3) := by decide +kernel
theorem dX4_legTold_9 : decode cX4_legTold 9 = .ok (.iload_n 2, 1) := by decide +kernel
theorem dX4_legTold_10 : decode cX4_legTold 10 = .ok (.sipush 1000, 3) := by decide +kernel
theorem dX4_legTold_13 : decode cX4_legTold 13 = .ok (.idiv, 1) := by decide +kernel
theorem dX4_legTold_14 : decode cX4_legTold 14 = .ok (.istore_n 2, 1) := by decide +kernel
theorem dX4_legTold_15 : decode cX4_legTold 15 = .ok (.iinc 3 1, 3) := by decide +kernel
theorem dX4_legTold_18 : decode cX4_legTold 18 = .ok (.goto (-14), 3) := by decide +kernel
theorem dX4_legTold_21 : decode cX4_legTold 21 = .ok (.iload_n 2, 1) := by decide +kernel
theorem dX4_legTold_22 : decode cX4_legTold 22 = .ok (.ireturn, 1) := by decide +kernel
theorem dX4_factorial_0 : decode cX4_factorial 0 = .ok (.iconst 1, 1) := by decide +kernel
theorem dX4_factorial_1 : decode cX4_factorial 1 = .ok (.istore_n 1, 1) := by decide +kernel
theorem dX4_factorial_2 : decode cX4_factorial 2 = .ok (.iconst 2, 1) := by decide +kernel
theorem dX4_factorial_3 : decode cX4_factorial 3 = .ok (.istore_n 2, 1) := by decide +kernel
theorem dX4_factorial_4 : decode cX4_factorial 4 = .ok (.iload_n 2, 1) := by decide +kernel
theorem dX4_factorial_5 : decode cX4_factorial 5 = .ok (.iload_n 0, 1) := by decide +kernel
theorem dX4_factorial_6 : decode cX4_factorial 6 = .ok (.if_icmp .gt 13, 3) := by decide +kernel
theorem dX4_factorial_9 : decode cX4_factorial 9 = .ok (.iload_n 1, 1) := by decide +kernel
theorem dX4_factorial_10 : decode cX4_factorial 10 = .ok (.iload_n 2, 1) := by decide +kernel
theorem dX4_factorial_11 : decode cX4_factorial 11 = .ok (.imul, 1) := by decide +kernel
theorem dX4_factorial_12 : decode cX4_factorial 12 = .ok (.istore_n 1, 1) := by decide +kernel
theorem dX4_factorial_13 : decode cX4_factorial 13 = .ok (.iinc 2 1, 3) := by decide +kernel
theorem dX4_factorial_16 : decode cX4_factorial 16 = .ok (.goto (-12), 3) := by decide +kernel
theorem dX4_factorial_19 : decode cX4_factorial 19 = .ok (.iload_n 1, 1) := by decide +kernel
theorem dX4_factorial_20 : decode cX4_factorial 20 = .ok (.ireturn, 1) := by decide +kernel
theorem dX4_fraction_0 : decode cX4_fraction 0 = .ok (.iload_n 1, 1) := by decide +kernel
theorem dX4_fraction_1 : decode cX4_fraction 1 = .ok (.istore_n 3, 1) := by decide +kernel
theorem dX4_fraction_2 : decode cX4_fraction 2 = .ok (.iload_n 0, 1) := by decide +kernel
theorem dX4_fraction_3 : decode cX4_fraction 3 = .ok (.istore 4, 2) := by decide +kernel
theorem dX4_fraction_5 : decode cX4_fraction 5 = .ok (.iconst 0, 1) := by decide +kernel
theorem dX4_fraction_6 : decode cX4_fraction 6 = .ok (.istore 5, 2) := by decide +kernel
theorem dX4_fraction_8 : decode cX4_fraction 8 = .ok (.iload 5, 2) := by decide +kernel
theorem dX4_fraction_10 : decode cX4_fraction 10 = .ok (.bipush 100, 2) := by decide +kernel
theorem dX4_fraction_12 : decode cX4_fraction 12 = .ok (.if_icmp .ge 27, 3) := by decide +kernel
theorem dX4_fraction_15 : decode cX4_fraction 15 = .ok (.iload 4, 2) := by decide +kernel
theorem dX4_fraction_17 : decode cX4_fraction 17 = .ok (.ifCond .eq 22, 3) := by decide +kernel
theorem dX4_fraction_20 : decode cX4_fraction 20 = .ok (.iload_n 3, 1) := by decide +kernel
theorem dX4_fraction_21 : decode cX4_fraction 21 = .ok (.iload 4, 2) := by decide +kernel
theorem dX4_fraction_23 : decode cX4_fraction 23 = .ok (.irem, 1) := by decide +kernel
theorem dX4_fraction_24 : decode cX4_fraction 24 = .ok (.istore 6, 2) := by decide +kernel
theorem dX4_fraction_26 : decode cX4_fraction 26 = .ok (.iload 4, 2) := by decide +kernel
theorem dX4_fraction_28 : decode cX4_fraction 28 = .ok (.istore_n 3, 1) := by decide +kernel
theorem dX4_fraction_29 : decode cX4_fraction 29 = .ok (.iload 6, 2) := by decide +kernel
theorem dX4_fraction_31 : decode cX4_fraction 31 = .ok (.istore 4, 2) := by decide +kernel
theorem dX4_fraction_33 : decode cX4_fraction 33 = .ok (.iinc 5 1, 3) := by decide +kernel
theorem dX4_fraction_36 : decode cX4_fraction 36 = .ok (.goto (-28), 3) := by decide +kernel
theorem dX4_fraction_39 : decode cX4_fraction 39 = .ok (.iload_n 2, 1) := by decide +kernel
theorem dX4_fraction_40 : decode cX4_fraction 40 = .ok (.ifCond .eq 7, 3) := by decide +kernel
theorem dX4_fraction_43 : decode cX4_fraction 43 = .ok (.iload_n 0, 1) := by decide +kernel
theorem dX4_fraction_44 : decode cX4_fraction 44 = .ok (.goto 4, 3) := by decide +kernel
theorem dX4_fraction_47 : decode cX4_fraction 47 = .ok (.iload_n 1, 1) := by decide +kernel
theorem dX4_fraction_48 : decode cX4_fraction 48 = .ok (.istore 5, 2) := by decide +kernel
theorem dX4_fraction_50 : decode cX4_fraction 50 = .ok (.iload_n 3, 1) := by decide +kernel
theorem dX4_fraction_51 : decode cX4_fraction 51 = .ok (.ifCond .ne 8, 3) := by decide +kernel
theorem dX4_fraction_54 : decode cX4_fraction 54 = .ok (.iload 5, 2) := by decide +kernel
theorem dX4_fraction_56 : decode cX4_fraction 56 = .ok (.goto 7, 3) := by decide +kernel
theorem dX4_fraction_59 : decode cX4_fraction 59 = .ok (.iload 5, 2) := by decide +kernel
theorem dX4_fraction_61 : decode cX4_fraction 61 = .ok (.iload_n 3, 1) := by decide +kernel
theorem dX4_fraction_62 : decode cX4_fraction 62 = .ok (.idiv, 1) := by decide +kernel
theorem dX4_fraction_63 : decode cX4_fraction 63 = .ok (.ireturn, 1) := by decide +kernel
set_option maxRecDepth 20000 in
theorem ggX4_readTunnel_X3_figureAt : GoodIn wsX4_readTunnel wsX3_figureAt := goodIn_r _ [8, 9, 10, 11, 7, 12, 13, 14, 57, 58] (by decide +kernel) (by decide +kernel)
set_option maxRecDepth 20000 in
theorem gX4_readTunnel_X3_figureAt : GoodIn wsX4_readTunnel (wsV RX4 225 RX3 yX3_figureAt wsX3_figureAt) := goodIn_app (goodIn_of _ (by decide +kernel)) ggX4_readTunnel_X3_figureAt
set_option maxRecDepth 20000 in
theorem ggX4_readTunnel_X1_layOut : GoodIn wsX4_readTunnel wsX1_layOut := goodIn_r _ [19, 20, 21, 22, 23, 24, 59, 60, 61, 62, 63] (by decide +kernel) (by decide +kernel)
set_option maxRecDepth 20000 in
theorem gX4_readTunnel_X1_layOut : GoodIn wsX4_readTunnel (wsV RX4 228 RX1 yX1_layOut wsX1_layOut) := goodIn_app (goodIn_of _ (by decide +kernel)) ggX4_readTunnel_X1_layOut
set_option maxRecDepth 20000 in
theorem ggX4_readTunnel_X2_clear : GoodIn wsX4_readTunnel wsX2_clear := goodIn_r _ [29, 30, 31, 32, 33, 64, 65, 66, 67] (by decide +kernel) (by decide +kernel)
set_option maxRecDepth 20000 in
theorem gX4_readTunnel_X2_clear : GoodIn wsX4_readTunnel (wsV RX4 232 RX2 yX2_clear wsX2_clear) := goodIn_app (goodIn_of _ (by decide +kernel)) ggX4_readTunnel_X2_clear
set_option maxRecDepth 20000 in
theorem ggX4_readTunnel_X3_letterAt : GoodIn wsX4_readTunnel wsX3_letterAt := goodIn_r _ [12, 13, 14, 57, 58] (by decide +kernel) (by decide +kernel)
set_option maxRecDepth 20000 in
theorem gX4_readTunnel_X3_letterAt : GoodIn wsX4_readTunnel (wsV RX4 235 RX3 yX3_letterAt wsX3_letterAt) := goodIn_app (goodIn_of _ (by decide +kernel)) ggX4_readTunnel_X3_letterAt
set_option maxRecDepth 20000 in
theorem ggX4_readTunnel_X2_cover : GoodIn wsX4_readTunnel wsX2_cover := goodIn_r _ [38, 30, 64, 65, 66, 67] (by decide +kernel) (by decide +kernel)
set_option maxRecDepth 20000 in
theorem gX4_readTunnel_X2_cover : GoodIn wsX4_readTunnel (wsV RX4 134 RX2 yX2_cover wsX2_cover) := goodIn_app (goodIn_of _ (by decide +kernel)) ggX4_readTunnel_X2_cover
set_option maxRecDepth 20000 in
theorem ggX4_readTunnel_X1_addLegger : GoodIn wsX4_readTunnel wsX1_addLegger := goodIn_r _ [42, 23, 21, 59, 60, 61, 62, 63] (by decide +kernel) (by decide +kernel)
set_option maxRecDepth 20000 in
theorem gX4_readTunnel_X1_addLegger : GoodIn wsX4_readTunnel (wsV RX4 238 RX1 yX1_addLegger wsX1_addLegger) := goodIn_app (goodIn_of _ (by decide +kernel)) ggX4_readTunnel_X1_addLegger
set_option maxRecDepth 20000 in
theorem ggX4_readTunnel_X1_addBoat : GoodIn wsX4_readTunnel wsX1_addBoat := goodIn_r _ [46, 24, 22, 59, 60, 61, 62, 63] (by decide +kernel) (by decide +kernel)
set_option maxRecDepth 20000 in
theorem gX4_readTunnel_X1_addBoat : GoodIn wsX4_readTunnel (wsV RX4 241 RX1 yX1_addBoat wsX1_addBoat) := goodIn_app (goodIn_of _ (by decide +kernel)) ggX4_readTunnel_X1_addBoat
theorem dX4_readTunnel_0 : decode cX4_readTunnel 0 = .ok (.aload_n 0, 1) := by decide +kernel
theorem dX4_readTunnel_1 : decode cX4_readTunnel 1 = .ok (.getfield 19, 3) := by decide +kernel
theorem dX4_readTunnel_4 : decode cX4_readTunnel 4 = .ok (.aload_n 0, 1) := by decide +kernel
theorem dX4_readTunnel_5 : decode cX4_readTunnel 5 = .ok (.getfield 10, 3) := by decide +kernel
theorem dX4_readTunnel_8 : decode cX4_readTunnel 8 = .ok (.iconst 1, 1) := by decide +kernel
theorem dX4_readTunnel_9 : decode cX4_readTunnel 9 = .ok (.invokevirtual 225, 3) := by decide +kernel
theorem dX4_readTunnel_12 : decode cX4_readTunnel 12 = .ok (.invokevirtual 228, 3) := by decide +kernel
theorem dX4_readTunnel_15 : decode cX4_readTunnel 15 = .ok (.aload_n 0, 1) := by decide +kernel
theorem dX4_readTunnel_16 : decode cX4_readTunnel 16 = .ok (.getfield 26, 3) := by decide +kernel
theorem dX4_readTunnel_19 : decode cX4_readTunnel 19 = .ok (.invokevirtual 232, 3) := by decide +kernel
theorem dX4_readTunnel_22 : decode cX4_readTunnel 22 = .ok (.iconst 2, 1) := by decide +kernel
theorem dX4_readTunnel_23 : decode cX4_readTunnel 23 = .ok (.istore_n 1, 1) := by decide +kernel
theorem dX4_readTunnel_24 : decode cX4_readTunnel 24 = .ok (.iload_n 1, 1) := by decide +kernel
theorem dX4_readTunnel_25 : decode cX4_readTunnel 25 = .ok (.aload_n 0, 1) := by decide +kernel
theorem dX4_readTunnel_26 : decode cX4_readTunnel 26 = .ok (.getfield 10, 3) := by decide +kernel
theorem dX4_readTunnel_29 : decode cX4_readTunnel 29 = .ok (.getfield 48, 3) := by decide +kernel
theorem dX4_readTunnel_32 : decode cX4_readTunnel 32 = .ok (.if_icmp .ge 102, 3) := by decide +kernel
theorem dX4_readTunnel_35 : decode cX4_readTunnel 35 = .ok (.aload_n 0, 1) := by decide +kernel
theorem dX4_readTunnel_36 : decode cX4_readTunnel 36 = .ok (.getfield 10, 3) := by decide +kernel
theorem dX4_readTunnel_39 : decode cX4_readTunnel 39 = .ok (.iload_n 1, 1) := by decide +kernel
theorem dX4_readTunnel_40 : decode cX4_readTunnel 40 = .ok (.invokevirtual 235, 3) := by decide +kernel
theorem dX4_readTunnel_43 : decode cX4_readTunnel 43 = .ok (.bipush 71, 2) := by decide +kernel
theorem dX4_readTunnel_45 : decode cX4_readTunnel 45 = .ok (.if_icmp .ne 66, 3) := by decide +kernel
theorem dX4_readTunnel_48 : decode cX4_readTunnel 48 = .ok (.iconst 0, 1) := by decide +kernel
theorem dX4_readTunnel_49 : decode cX4_readTunnel 49 = .ok (.istore_n 2, 1) := by decide +kernel
theorem dX4_readTunnel_50 : decode cX4_readTunnel 50 = .ok (.iload_n 2, 1) := by decide +kernel
theorem dX4_readTunnel_51 : decode cX4_readTunnel 51 = .ok (.iconst 4, 1) := by decide +kernel
theorem dX4_readTunnel_52 : decode cX4_readTunnel 52 = .ok (.if_icmp .ge 36, 3) := by decide +kernel
theorem dX4_readTunnel_55 : decode cX4_readTunnel 55 = .ok (.aload_n 0, 1) := by decide +kernel
theorem dX4_readTunnel_56 : decode cX4_readTunnel 56 = .ok (.getfield 26, 3) := by decide +kernel
theorem dX4_readTunnel_59 : decode cX4_readTunnel 59 = .ok (.aload_n 0, 1) := by decide +kernel
theorem dX4_readTunnel_60 : decode cX4_readTunnel 60 = .ok (.getfield 19, 3) := by decide +kernel
theorem dX4_readTunnel_63 : decode cX4_readTunnel 63 = .ok (.getfield 65, 3) := by decide +kernel
theorem dX4_readTunnel_66 : decode cX4_readTunnel 66 = .ok (.iload_n 2, 1) := by decide +kernel
theorem dX4_readTunnel_67 : decode cX4_readTunnel 67 = .ok (.aload_n 0, 1) := by decide +kernel
theorem dX4_readTunnel_68 : decode cX4_readTunnel 68 = .ok (.getfield 10, 3) := by decide +kernel
theorem dX4_readTunnel_71 : decode cX4_readTunnel 71 = .ok (.iload_n 1, 1) := by decide +kernel
theorem dX4_readTunnel_72 : decode cX4_readTunnel 72 = .ok (.iconst 2, 1) := by decide +kernel
theorem dX4_readTunnel_73 : decode cX4_readTunnel 73 = .ok (.iadd, 1) := by decide +kernel
theorem dX4_readTunnel_74 : decode cX4_readTunnel 74 = .ok (.iload_n 2, 1) := by decide +kernel
theorem dX4_readTunnel_75 : decode cX4_readTunnel 75 = .ok (.iadd, 1) := by decide +kernel
theorem dX4_readTunnel_76 : decode cX4_readTunnel 76 = .ok (.invokevirtual 225, 3) := by decide +kernel
theorem dX4_readTunnel_79 : decode cX4_readTunnel 79 = .ok (.invokevirtual 134, 3) := by decide +kernel
theorem dX4_readTunnel_82 : decode cX4_readTunnel 82 = .ok (.iinc 2 1, 3) := by decide +kernel
theorem dX4_readTunnel_85 : decode cX4_readTunnel 85 = .ok (.goto (-35), 3) := by decide +kernel
theorem dX4_readTunnel_88 : decode cX4_readTunnel 88 = .ok (.aload_n 0, 1) := by decide +kernel
theorem dX4_readTunnel_89 : decode cX4_readTunnel 89 = .ok (.getfield 19, 3) := by decide +kernel
theorem dX4_readTunnel_92 : decode cX4_readTunnel 92 = .ok (.aload_n 0, 1) := by decide +kernel
theorem dX4_readTunnel_93 : decode cX4_readTunnel 93 = .ok (.getfield 10, 3) := by decide +kernel
theorem dX4_readTunnel_96 : decode cX4_readTunnel 96 = .ok (.iload_n 1, 1) := by decide +kernel
theorem dX4_readTunnel_97 : decode cX4_readTunnel 97 = .ok (.iconst 1, 1) := by decide +kernel
theorem dX4_readTunnel_98 : decode cX4_readTunnel 98 = .ok (.iadd, 1) := by decide +kernel
theorem dX4_readTunnel_99 : decode cX4_readTunnel 99 = .ok (.invokevirtual 225, 3) := by decide +kernel
theorem dX4_readTunnel_102 : decode cX4_readTunnel 102 = .ok (.invokevirtual 238, 3) := by decide +kernel
theorem dX4_readTunnel_105 : decode cX4_readTunnel 105 = .ok (.iinc 1 6, 3) := by decide +kernel
theorem dX4_readTunnel_108 : decode cX4_readTunnel 108 = .ok (.goto (-84), 3) := by decide +kernel
theorem dX4_readTunnel_111 : decode cX4_readTunnel 111 = .ok (.aload_n 0, 1) := by decide +kernel
theorem dX4_readTunnel_112 : decode cX4_readTunnel 112 = .ok (.getfield 19, 3) := by decide +kernel
theorem dX4_readTunnel_115 : decode cX4_readTunnel 115 = .ok (.aload_n 0, 1) := by decide +kernel
theorem dX4_readTunnel_116 : decode cX4_readTunnel 116 = .ok (.getfield 10, 3) := by decide +kernel
theorem dX4_readTunnel_119 : decode cX4_readTunnel 119 = .ok (.iload_n 1, 1) := by decide +kernel
theorem dX4_readTunnel_120 : decode cX4_readTunnel 120 = .ok (.iconst 1, 1) := by decide +kernel
theorem dX4_readTunnel_121 : decode cX4_readTunnel 121 = .ok (.iadd, 1) := by decide +kernel
theorem dX4_readTunnel_122 : decode cX4_readTunnel 122 = .ok (.invokevirtual 225, 3) := by decide +kernel
theorem dX4_readTunnel_125 : decode cX4_readTunnel 125 = .ok (.invokevirtual 241, 3) := by decide +kernel
theorem dX4_readTunnel_128 : decode cX4_readTunnel 128 = .ok (.iinc 1 2, 3) := by decide +kernel
theorem dX4_readTunnel_131 : decode cX4_readTunnel 131 = .ok (.goto (-107), 3) := by decide +kernel
theorem dX4_readTunnel_134 : decode cX4_readTunnel 134 = .ok (.return_, 1) := by decide +kernel
theorem dX4_minutesOver_0 : decode cX4_minutesOver 0 = .ok (.iload_n 0, 1) := by decide +kernel
theorem dX4_minutesOver_1 : decode cX4_minutesOver 1 = .ok (.lookupswitch 31 #[(1, 27), (3, 29)], 27) := by decide +kernel
theorem dX4_minutesOver_28 : decode cX4_minutesOver 28 = .ok (.iconst 2, 1) := by decide +kernel
theorem dX4_minutesOver_29 : decode cX4_minutesOver 29 = .ok (.ireturn, 1) := by decide +kernel
theorem dX4_minutesOver_30 : decode cX4_minutesOver 30 = .ok (.iconst 3, 1) := by decide +kernel
theorem dX4_minutesOver_31 : decode cX4_minutesOver 31 = .ok (.ireturn, 1) := by decide +kernel
theorem dX4_minutesOver_32 : decode cX4_minutesOver 32 = .ok (.iconst 1, 1) := by decide +kernel
theorem dX4_minutesOver_33 : decode cX4_minutesOver 33 = .ok (.ireturn, 1) := by decide +kernel
theorem dX4_placeBehind_0 : decode cX4_placeBehind 0 = .ok (.iload_n 0, 1) := by decide +kernel
theorem dX4_placeBehind_1 : decode cX4_placeBehind 1 = .ok (.iload_n 1, 1) := by decide +kernel
theorem dX4_placeBehind_2 : decode cX4_placeBehind 2 = .ok (.iconst 2, 1) := by decide +kernel
theorem dX4_placeBehind_3 : decode cX4_placeBehind 3 = .ok (.if_icmp .ne 7, 3) := by decide +kernel
theorem dX4_placeBehind_6 : decode cX4_placeBehind 6 = .ok (.iconst 2, 1) := by decide +kernel
theorem dX4_placeBehind_7 : decode cX4_placeBehind 7 = .ok (.goto 4, 3) := by decide +kernel
theorem dX4_placeBehind_10 : decode cX4_placeBehind 10 = .ok (.iconst 1, 1) := by decide +kernel
theorem dX4_placeBehind_11 : decode cX4_placeBehind 11 = .ok (.iadd, 1) := by decide +kernel
theorem dX4_placeBehind_12 : decode cX4_placeBehind 12 = .ok (.iconst 4, 1) := by decide +kernel
theorem dX4_placeBehind_13 : decode cX4_placeBehind 13 = .ok (.irem, 1) := by decide +kernel
theorem dX4_placeBehind_14 : decode cX4_placeBehind 14 = .ok (.ireturn, 1) := by decide +kernel
set_option maxRecDepth 20000 in
theorem ggX4_stepMinutes_X4_minutesOver : GoodIn wsX4_stepMinutes wsX4_minutesOver := goodIn_r _ [9] (by decide +kernel) (by decide +kernel)
set_option maxRecDepth 20000 in
theorem gX4_stepMinutes_X4_minutesOver : GoodIn wsX4_stepMinutes (va_wsS RX4 244 yX4_minutesOver wsX4_minutesOver) := goodIn_app (goodIn_of _ (by decide +kernel)) ggX4_stepMinutes_X4_minutesOver
set_option maxRecDepth 20000 in
theorem ggX4_stepMinutes_X1_kindOf : GoodIn wsX4_stepMinutes wsX1_kindOf := goodIn_r _ [14, 15, 29, 30, 31, 32, 33] (by decide +kernel) (by decide +kernel)
set_option maxRecDepth 20000 in
theorem gX4_stepMinutes_X1_kindOf : GoodIn wsX4_stepMinutes (wsV RX4 96 RX1 yX1_kindOf wsX1_kindOf) := goodIn_app (goodIn_of _ (by decide +kernel)) ggX4_stepMinutes_X1_kindOf
set_option maxRecDepth 20000 in
theorem ggX4_stepMinutes_X4_timesTired : GoodIn wsX4_stepMinutes wsX4_timesTired := goodIn_r _ [18] (by decide +kernel) (by decide +kernel)
set_option maxRecDepth 20000 in
theorem gX4_stepMinutes_X4_timesTired : GoodIn wsX4_stepMinutes (va_wsS RX4 103 yX4_timesTired wsX4_timesTired) := goodIn_app (goodIn_of _ (by decide +kernel)) ggX4_stepMinutes_X4_timesTired
theorem dX4_stepMinutes_0 : decode cX4_stepMinutes 0 = .ok (.iload_n 2, 1) := by decide +kernel
theorem dX4_stepMinutes_1 : decode cX4_stepMinutes 1 = .ok (.invokestatic 244, 3) := by decide +kernel
theorem dX4_stepMinutes_4 : decode cX4_stepMinutes 4 = .ok (.istore 5, 2) := by decide +kernel
theorem dX4_stepMinutes_6 : decode cX4_stepMinutes 6 = .ok (.aload_n 0, 1) := by decide +kernel
theorem dX4_stepMinutes_7 : decode cX4_stepMinutes 7 = .ok (.getfield 19, 3) := by decide +kernel
theorem dX4_stepMinutes_10 : decode cX4_stepMinutes 10 = .ok (.iload_n 1, 1) := by decide +kernel
theorem dX4_stepMinutes_11 : decode cX4_stepMinutes 11 = .ok (.invokevirtual 96, 3) := by decide +kernel
theorem dX4_stepMinutes_14 : decode cX4_stepMinutes 14 = .ok (.tableswitch 71 1 3 #[26, 32, 45], 26) := by decide +kernel
theorem dX4_stepMinutes_40 : decode cX4_stepMinutes 40 = .ok (.iinc 5 1, 3) := by decide +kernel
theorem dX4_stepMinutes_43 : decode cX4_stepMinutes 43 = .ok (.goto 42, 3) := by decide +kernel
theorem dX4_stepMinutes_46 : decode cX4_stepMinutes 46 = .ok (.iconst 1, 1) := by decide +kernel
theorem dX4_stepMinutes_47 : decode cX4_stepMinutes 47 = .ok (.iload 5, 2) := by decide +kernel
theorem dX4_stepMinutes_49 : decode cX4_stepMinutes 49 = .ok (.iconst 1, 1) := by decide +kernel
theorem dX4_stepMinutes_50 : decode cX4_stepMinutes 50 = .ok (.isub, 1) := by decide +kernel
theorem dX4_stepMinutes_51 : decode cX4_stepMinutes 51 = .ok (.invokestatic 247, 3) := by decide +kernel
theorem dX4_stepMinutes_54 : decode cX4_stepMinutes 54 = .ok (.istore 5, 2) := by decide +kernel
theorem dX4_stepMinutes_56 : decode cX4_stepMinutes 56 = .ok (.goto 29, 3) := by decide +kernel
theorem dX4_stepMinutes_59 : decode cX4_stepMinutes 59 = .ok (.iload 5, 2) := by decide +kernel
theorem dX4_stepMinutes_61 : decode cX4_stepMinutes 61 = .ok (.iload_n 3, 1) := by decide +kernel
theorem dX4_stepMinutes_62 : decode cX4_stepMinutes 62 = .ok (.aload_n 0, 1) := by decide +kernel
theorem dX4_stepMinutes_63 : decode cX4_stepMinutes 63 = .ok (.getfield 19, 3) := by decide +kernel
theorem dX4_stepMinutes_66 : decode cX4_stepMinutes 66 = .ok (.getfield 71, 3) := by decide +kernel
theorem dX4_stepMinutes_69 : decode cX4_stepMinutes 69 = .ok (.iconst 2, 1) := by decide +kernel
theorem dX4_stepMinutes_70 : decode cX4_stepMinutes 70 = .ok (.idiv, 1) := by decide +kernel
theorem dX4_stepMinutes_71 : decode cX4_stepMinutes 71 = .ok (.if_icmp .ne 7, 3) := by decide +kernel
theorem dX4_stepMinutes_74 : decode cX4_stepMinutes 74 = .ok (.iconst 2, 1) := by decide +kernel
theorem dX4_stepMinutes_75 : decode cX4_stepMinutes 75 = .ok (.goto 4, 3) := by decide +kernel
theorem dX4_stepMinutes_78 : decode cX4_stepMinutes 78 = .ok (.iconst 0, 1) := by decide +kernel
theorem dX4_stepMinutes_79 : decode cX4_stepMinutes 79 = .ok (.iadd, 1) := by decide +kernel
theorem dX4_stepMinutes_80 : decode cX4_stepMinutes 80 = .ok (.istore 5, 2) := by decide +kernel
theorem dX4_stepMinutes_82 : decode cX4_stepMinutes 82 = .ok (.goto 3, 3) := by decide +kernel
theorem dX4_stepMinutes_85 : decode cX4_stepMinutes 85 = .ok (.iload 5, 2) := by decide +kernel
theorem dX4_stepMinutes_87 : decode cX4_stepMinutes 87 = .ok (.iload 4, 2) := by decide +kernel
theorem dX4_stepMinutes_89 : decode cX4_stepMinutes 89 = .ok (.iload_n 1, 1) := by decide +kernel
theorem dX4_stepMinutes_90 : decode cX4_stepMinutes 90 = .ok (.invokestatic 103, 3) := by decide +kernel
theorem dX4_stepMinutes_93 : decode cX4_stepMinutes 93 = .ok (.iadd, 1) := by decide +kernel
theorem dX4_stepMinutes_94 : decode cX4_stepMinutes 94 = .ok (.ireturn, 1) := by decide +kernel
set_option maxRecDepth 20000 in
theorem ggX4_aloneMinutes_X2_groundAt : GoodIn wsX4_aloneMinutes wsX2_groundAt := goodIn_r _ [7, 8, 9, 10, 11, 50, 51, 52, 53] (by decide +kernel) (by decide +kernel)
set_option maxRecDepth 20000 in
theorem gX4_aloneMinutes_X2_groundAt : GoodIn wsX4_aloneMinutes (wsV RX4 92 RX2 yX2_groundAt wsX2_groundAt) := goodIn_app (goodIn_of _ (by decide +kernel)) ggX4_aloneMinutes_X2_groundAt
set_option maxRecDepth 20000 in
theorem ggX4_aloneMinutes_X4_stepMinutes : GoodIn wsX4_aloneMinutes wsX4_stepMinutes := goodIn_r _ [15, 1, 16, 17, 18, 19, 20, 21, 10, 22, 23, 24, 25, 26, 27, 28, 29, 30, 31, 35, 36, 37, 38, 39, 40, 41, 42, 43, 44, 45, 46, 47, 48, 49] (by decide +kernel) (by decide +kernel)
set_option maxRecDepth 20000 in
theorem gX4_aloneMinutes_X4_stepMinutes : GoodIn wsX4_aloneMinutes (wsV RX4 252 RX4 yX4_stepMinutes wsX4_stepMinutes) := goodIn_app (goodIn_of _ (by decide +kernel)) ggX4_aloneMinutes_X4_stepMinutes
set_option maxRecDepth 20000 in
theorem ggX4_aloneMinutes_X4_placeBehind : GoodIn wsX4_aloneMinutes wsX4_placeBehind := goodIn_r _ [34] (by decide +kernel) (by decide +kernel)
set_option maxRecDepth 20000 in
theorem gX4_aloneMinutes_X4_placeBehind : GoodIn wsX4_aloneMinutes (va_wsS RX4 255 yX4_placeBehind wsX4_placeBehind) := goodIn_app (goodIn_of _ (by decide +kernel)) ggX4_aloneMinutes_X4_placeBehind
theorem dX4_aloneMinutes_0 : decode cX4_aloneMinutes 0 = .ok (.iconst 0, 1) := by decide +kernel
theorem dX4_aloneMinutes_1 : decode cX4_aloneMinutes 1 = .ok (.istore_n 3, 1) := by decide +kernel
theorem dX4_aloneMinutes_2 : decode cX4_aloneMinutes 2 = .ok (.iload_n 2, 1) := by decide +kernel
theorem dX4_aloneMinutes_3 : decode cX4_aloneMinutes 3 = .ok (.istore 4, 2) := by decide +kernel
theorem dX4_aloneMinutes_5 : decode cX4_aloneMinutes 5 = .ok (.iconst 0, 1) := by decide +kernel
theorem dX4_aloneMinutes_6 : decode cX4_aloneMinutes 6 = .ok (.istore 5, 2) := by decide +kernel
theorem dX4_aloneMinutes_8 : decode cX4_aloneMinutes 8 = .ok (.iload 5, 2) := by decide +kernel
theorem dX4_aloneMinutes_10 : decode cX4_aloneMinutes 10 = .ok (.aload_n 0, 1) := by decide +kernel
theorem dX4_aloneMinutes_11 : decode cX4_aloneMinutes 11 = .ok (.getfield 19, 3) := by decide +kernel
theorem dX4_aloneMinutes_14 : decode cX4_aloneMinutes 14 = .ok (.getfield 71, 3) := by decide +kernel
theorem dX4_aloneMinutes_17 : decode cX4_aloneMinutes 17 = .ok (.if_icmp .ge 49, 3) := by decide +kernel
theorem dX4_aloneMinutes_20 : decode cX4_aloneMinutes 20 = .ok (.aload_n 0, 1) := by decide +kernel
theorem dX4_aloneMinutes_21 : decode cX4_aloneMinutes 21 = .ok (.getfield 26, 3) := by decide +kernel
theorem dX4_aloneMinutes_24 : decode cX4_aloneMinutes 24 = .ok (.iload_n 1, 1) := by decide +kernel
theorem dX4_aloneMinutes_25 : decode cX4_aloneMinutes 25 = .ok (.iload 4, 2) := by decide +kernel
theorem dX4_aloneMinutes_27 : decode cX4_aloneMinutes 27 = .ok (.invokevirtual 92, 3) := by decide +kernel
theorem dX4_aloneMinutes_30 : decode cX4_aloneMinutes 30 = .ok (.istore 6, 2) := by decide +kernel
theorem dX4_aloneMinutes_32 : decode cX4_aloneMinutes 32 = .ok (.iload_n 3, 1) := by decide +kernel
theorem dX4_aloneMinutes_33 : decode cX4_aloneMinutes 33 = .ok (.aload_n 0, 1) := by decide +kernel
theorem dX4_aloneMinutes_34 : decode cX4_aloneMinutes 34 = .ok (.iload_n 1, 1) := by decide +kernel
theorem dX4_aloneMinutes_35 : decode cX4_aloneMinutes 35 = .ok (.iload 6, 2) := by decide +kernel
theorem dX4_aloneMinutes_37 : decode cX4_aloneMinutes 37 = .ok (.iload 5, 2) := by decide +kernel
theorem dX4_aloneMinutes_39 : decode cX4_aloneMinutes 39 = .ok (.aload_n 0, 1) := by decide +kernel
theorem dX4_aloneMinutes_40 : decode cX4_aloneMinutes 40 = .ok (.getfield 26, 3) := by decide +kernel
theorem dX4_aloneMinutes_43 : decode cX4_aloneMinutes 43 = .ok (.getfield 100, 3) := by decide +kernel
theorem dX4_aloneMinutes_46 : decode cX4_aloneMinutes 46 = .ok (.invokevirtual 252, 3) := by decide +kernel
theorem dX4_aloneMinutes_49 : decode cX4_aloneMinutes 49 = .ok (.iadd, 1) := by decide +kernel
theorem dX4_aloneMinutes_50 : decode cX4_aloneMinutes 50 = .ok (.istore_n 3, 1) := by decide +kernel
theorem dX4_aloneMinutes_51 : decode cX4_aloneMinutes 51 = .ok (.iload 4, 2) := by decide +kernel
theorem dX4_aloneMinutes_53 : decode cX4_aloneMinutes 53 = .ok (.iload 6, 2) := by decide +kernel
theorem dX4_aloneMinutes_55 : decode cX4_aloneMinutes 55 = .ok (.invokestatic 255, 3) := by decide +kernel
theorem dX4_aloneMinutes_58 : decode cX4_aloneMinutes 58 = .ok (.istore 4, 2) := by decide +kernel
theorem dX4_aloneMinutes_60 : decode cX4_aloneMinutes 60 = .ok (.iinc 5 1, 3) := by decide +kernel
theorem dX4_aloneMinutes_63 : decode cX4_aloneMinutes 63 = .ok (.goto (-55), 3) := by decide +kernel
theorem dX4_aloneMinutes_66 : decode cX4_aloneMinutes 66 = .ok (.iload_n 3, 1) := by decide +kernel
theorem dX4_aloneMinutes_67 : decode cX4_aloneMinutes 67 = .ok (.ireturn, 1) := by decide +kernel
set_option maxRecDepth 20000 in
theorem ggX4_pairMinutes_X2_groundAt : GoodIn wsX4_pairMinutes wsX2_groundAt := goodIn_r _ [11, 12, 13, 14, 15, 50, 51, 52, 53] (by decide +kernel) (by decide +kernel)
set_option maxRecDepth 20000 in
theorem gX4_pairMinutes_X2_groundAt : GoodIn wsX4_pairMinutes (wsV RX4 92 RX2 yX2_groundAt wsX2_groundAt) := goodIn_app (goodIn_of _ (by decide +kernel)) ggX4_pairMinutes_X2_groundAt
set_option maxRecDepth 20000 in
theorem ggX4_pairMinutes_X4_stepMinutes : GoodIn wsX4_pairMinutes wsX4_stepMinutes := goodIn_r _ [19, 1, 3, 4, 5, 6, 20, 21, 14, 22, 23, 24, 25, 26, 27, 28, 29, 30, 31, 35, 36, 37, 38, 39, 40, 41, 42, 43, 44, 45, 46, 47, 48, 49] (by decide +kernel) (by decide +kernel)
set_option maxRecDepth 20000 in
theorem gX4_pairMinutes_X4_stepMinutes : GoodIn wsX4_pairMinutes (wsV RX4 252 RX4 yX4_stepMinutes wsX4_stepMinutes) := goodIn_app (goodIn_of _ (by decide +kernel)) ggX4_pairMinutes_X4_stepMinutes
set_option maxRecDepth 20000 in
theorem ggX4_pairMinutes_X4_placeBehind : GoodIn wsX4_pairMinutes wsX4_placeBehind := goodIn_r _ [34] (by decide +kernel) (by decide +kernel)
set_option maxRecDepth 20000 in
theorem gX4_pairMinutes_X4_placeBehind : GoodIn wsX4_pairMinutes (va_wsS RX4 255 yX4_placeBehind wsX4_placeBehind) := goodIn_app (goodIn_of _ (by decide +kernel)) ggX4_pairMinutes_X4_placeBehind
theorem dX4_pairMinutes_0 : decode cX4_pairMinutes 0 = .ok (.iconst 0, 1) := by decide +kernel
theorem dX4_pairMinutes_1 : decode cX4_pairMinutes 1 = .ok (.istore 6, 2) := by decide +kernel
theorem dX4_pairMinutes_3 : decode cX4_pairMinutes 3 = .ok (.iload_n 3, 1) := by decide +kernel
theorem dX4_pairMinutes_4 : decode cX4_pairMinutes 4 = .ok (.istore 7, 2) := by decide +kernel
theorem dX4_pairMinutes_6 : decode cX4_pairMinutes 6 = .ok (.iload 4, 2) := by decide +kernel
theorem dX4_pairMinutes_8 : decode cX4_pairMinutes 8 = .ok (.istore 8, 2) := by decide +kernel
theorem dX4_pairMinutes_10 : decode cX4_pairMinutes 10 = .ok (.iconst 0, 1) := by decide +kernel
theorem dX4_pairMinutes_11 : decode cX4_pairMinutes 11 = .ok (.istore 9, 2) := by decide +kernel
theorem dX4_pairMinutes_13 : decode cX4_pairMinutes 13 = .ok (.iload 9, 2) := by decide +kernel
theorem dX4_pairMinutes_15 : decode cX4_pairMinutes 15 = .ok (.aload_n 0, 1) := by decide +kernel
theorem dX4_pairMinutes_16 : decode cX4_pairMinutes 16 = .ok (.getfield 19, 3) := by decide +kernel
theorem dX4_pairMinutes_19 : decode cX4_pairMinutes 19 = .ok (.getfield 71, 3) := by decide +kernel
theorem dX4_pairMinutes_22 : decode cX4_pairMinutes 22 = .ok (.if_icmp .ge 98, 3) := by decide +kernel
theorem dX4_pairMinutes_25 : decode cX4_pairMinutes 25 = .ok (.aload_n 0, 1) := by decide +kernel
theorem dX4_pairMinutes_26 : decode cX4_pairMinutes 26 = .ok (.getfield 26, 3) := by decide +kernel
theorem dX4_pairMinutes_29 : decode cX4_pairMinutes 29 = .ok (.iload_n 1, 1) := by decide +kernel
theorem dX4_pairMinutes_30 : decode cX4_pairMinutes 30 = .ok (.iload 7, 2) := by decide +kernel
theorem dX4_pairMinutes_32 : decode cX4_pairMinutes 32 = .ok (.invokevirtual 92, 3) := by decide +kernel
theorem dX4_pairMinutes_35 : decode cX4_pairMinutes 35 = .ok (.istore 10, 2) := by decide +kernel
theorem dX4_pairMinutes_37 : decode cX4_pairMinutes 37 = .ok (.aload_n 0, 1) := by decide +kernel
theorem dX4_pairMinutes_38 : decode cX4_pairMinutes 38 = .ok (.getfield 26, 3) := by decide +kernel
theorem dX4_pairMinutes_41 : decode cX4_pairMinutes 41 = .ok (.iload_n 2, 1) := by decide +kernel
theorem dX4_pairMinutes_42 : decode cX4_pairMinutes 42 = .ok (.iload 8, 2) := by decide +kernel
theorem dX4_pairMinutes_44 : decode cX4_pairMinutes 44 = .ok (.invokevirtual 92, 3) := by decide +kernel
theorem dX4_pairMinutes_47 : decode cX4_pairMinutes 47 = .ok (.istore 11, 2) := by decide +kernel
theorem dX4_pairMinutes_49 : decode cX4_pairMinutes 49 = .ok (.iload 6, 2) := by decide +kernel
theorem dX4_pairMinutes_51 : decode cX4_pairMinutes 51 = .ok (.aload_n 0, 1) := by decide +kernel
theorem dX4_pairMinutes_52 : decode cX4_pairMinutes 52 = .ok (.iload_n 1, 1) := by decide +kernel
theorem dX4_pairMinutes_53 : decode cX4_pairMinutes 53 = .ok (.iload 10, 2) := by decide +kernel
theorem dX4_pairMinutes_55 : decode cX4_pairMinutes 55 = .ok (.iload 9, 2) := by decide +kernel
theorem dX4_pairMinutes_57 : decode cX4_pairMinutes 57 = .ok (.iload 5, 2) := by decide +kernel
theorem dX4_pairMinutes_59 : decode cX4_pairMinutes 59 = .ok (.invokevirtual 252, 3) := by decide +kernel
theorem dX4_pairMinutes_62 : decode cX4_pairMinutes 62 = .ok (.aload_n 0, 1) := by decide +kernel
theorem dX4_pairMinutes_63 : decode cX4_pairMinutes 63 = .ok (.iload_n 2, 1) := by decide +kernel
theorem dX4_pairMinutes_64 : decode cX4_pairMinutes 64 = .ok (.iload 11, 2) := by decide +kernel
theorem dX4_pairMinutes_66 : decode cX4_pairMinutes 66 = .ok (.iload 9, 2) := by decide +kernel
theorem dX4_pairMinutes_68 : decode cX4_pairMinutes 68 = .ok (.iload 5, 2) := by decide +kernel
theorem dX4_pairMinutes_70 : decode cX4_pairMinutes 70 = .ok (.invokevirtual 252, 3) := by decide +kernel
theorem dX4_pairMinutes_73 : decode cX4_pairMinutes 73 = .ok (.invokestatic 247, 3) := by decide +kernel
theorem dX4_pairMinutes_76 : decode cX4_pairMinutes 76 = .ok (.iadd, 1) := by decide +kernel
theorem dX4_pairMinutes_77 : decode cX4_pairMinutes 77 = .ok (.istore 6, 2) := by decide +kernel
theorem dX4_pairMinutes_79 : decode cX4_pairMinutes 79 = .ok (.iload 6, 2) := by decide +kernel
theorem dX4_pairMinutes_81 : decode cX4_pairMinutes 81 = .ok (.iload 10, 2) := by decide +kernel
theorem dX4_pairMinutes_83 : decode cX4_pairMinutes 83 = .ok (.iload 11, 2) := by decide +kernel
theorem dX4_pairMinutes_85 : decode cX4_pairMinutes 85 = .ok (.if_icmp .ne 7, 3) := by decide +kernel
theorem dX4_pairMinutes_88 : decode cX4_pairMinutes 88 = .ok (.iconst 0, 1) := by decide +kernel
theorem dX4_pairMinutes_89 : decode cX4_pairMinutes 89 = .ok (.goto 4, 3) := by decide +kernel
theorem dX4_pairMinutes_92 : decode cX4_pairMinutes 92 = .ok (.iconst 1, 1) := by decide +kernel
theorem dX4_pairMinutes_93 : decode cX4_pairMinutes 93 = .ok (.iadd, 1) := by decide +kernel
theorem dX4_pairMinutes_94 : decode cX4_pairMinutes 94 = .ok (.istore 6, 2) := by decide +kernel
theorem dX4_pairMinutes_96 : decode cX4_pairMinutes 96 = .ok (.iload 7, 2) := by decide +kernel
theorem dX4_pairMinutes_98 : decode cX4_pairMinutes 98 = .ok (.iload 10, 2) := by decide +kernel
theorem dX4_pairMinutes_100 : decode cX4_pairMinutes 100 = .ok (.invokestatic 255, 3) := by decide +kernel
theorem dX4_pairMinutes_103 : decode cX4_pairMinutes 103 = .ok (.istore 7, 2) := by decide +kernel
theorem dX4_pairMinutes_105 : decode cX4_pairMinutes 105 = .ok (.iload 8, 2) := by decide +kernel
theorem dX4_pairMinutes_107 : decode cX4_pairMinutes 107 = .ok (.iload 11, 2) := by decide +kernel
theorem dX4_pairMinutes_109 : decode cX4_pairMinutes 109 = .ok (.invokestatic 255, 3) := by decide +kernel
theorem dX4_pairMinutes_112 : decode cX4_pairMinutes 112 = .ok (.istore 8, 2) := by decide +kernel
theorem dX4_pairMinutes_114 : decode cX4_pairMinutes 114 = .ok (.iinc 9 1, 3) := by decide +kernel
theorem dX4_pairMinutes_117 : decode cX4_pairMinutes 117 = .ok (.goto (-104), 3) := by decide +kernel
theorem dX4_pairMinutes_120 : decode cX4_pairMinutes 120 = .ok (.iload 6, 2) := by decide +kernel
theorem dX4_pairMinutes_122 : decode cX4_pairMinutes 122 = .ok (.ireturn, 1) := by decide +kernel
set_option maxRecDepth 20000 in
theorem ggX4_leastPair_X4_isIn : GoodIn wsX4_leastPair wsX4_isIn := goodIn_r _ [10] (by decide +kernel) (by decide +kernel)
set_option maxRecDepth 20000 in
theorem gX4_leastPair_X4_isIn : GoodIn wsX4_leastPair (va_wsS RX4 116 yX4_isIn wsX4_isIn) := goodIn_app (goodIn_of _ (by decide +kernel)) ggX4_leastPair_X4_isIn
set_option maxRecDepth 20000 in
theorem ggX4_leastPair_X4_pairMinutes : GoodIn wsX4_leastPair wsX4_pairMinutes := goodIn_r _ [14, 1, 2, 15, 16, 5, 17, 18, 19, 20, 21, 22, 23, 24, 9, 25, 26, 27, 28, 29, 30, 31, 32, 33, 34, 35, 36, 37, 38, 39, 40, 41, 42, 43, 44, 45, 46, 47, 48, 49, 50, 51, 52, 53, 54, 55, 56, 57, 58, 59, 60, 61, 62, 63] (by decide +kernel) (by decide +kernel)
set_option maxRecDepth 20000 in
theorem gX4_leastPair_X4_pairMinutes : GoodIn wsX4_leastPair (wsV RX4 124 RX4 yX4_pairMinutes wsX4_pairMinutes) := goodIn_app (goodIn_of _ (by decide +kernel)) ggX4_leastPair_X4_pairMinutes
theorem dX4_leastPair_0 : decode cX4_leastPair 0 = .ok (.bipush (-9), 2) := by decide +kernel
theorem dX4_leastPair_2 : decode cX4_leastPair 2 = .ok (.istore_n 2, 1) := by decide +kernel
theorem dX4_leastPair_3 : decode cX4_leastPair 3 = .ok (.iconst 0, 1) := by decide +kernel
theorem dX4_leastPair_4 : decode cX4_leastPair 4 = .ok (.istore_n 3, 1) := by decide +kernel
theorem dX4_leastPair_5 : decode cX4_leastPair 5 = .ok (.iload_n 3, 1) := by decide +kernel
theorem dX4_leastPair_6 : decode cX4_leastPair 6 = .ok (.aload_n 0, 1) := by decide +kernel
theorem dX4_leastPair_7 : decode cX4_leastPair 7 = .ok (.getfield 19, 3) := by decide +kernel
theorem dX4_leastPair_10 : decode cX4_leastPair 10 = .ok (.getfield 65, 3) := by decide +kernel
theorem dX4_leastPair_13 : decode cX4_leastPair 13 = .ok (.if_icmp .ge 100, 3) := by decide +kernel
theorem dX4_leastPair_16 : decode cX4_leastPair 16 = .ok (.iload_n 3, 1) := by decide +kernel
theorem dX4_leastPair_17 : decode cX4_leastPair 17 = .ok (.iconst 1, 1) := by decide +kernel
theorem dX4_leastPair_18 : decode cX4_leastPair 18 = .ok (.iadd, 1) := by decide +kernel
theorem dX4_leastPair_19 : decode cX4_leastPair 19 = .ok (.istore 4, 2) := by decide +kernel
theorem dX4_leastPair_21 : decode cX4_leastPair 21 = .ok (.iload 4, 2) := by decide +kernel
theorem dX4_leastPair_23 : decode cX4_leastPair 23 = .ok (.aload_n 0, 1) := by decide +kernel
theorem dX4_leastPair_24 : decode cX4_leastPair 24 = .ok (.getfield 19, 3) := by decide +kernel
theorem dX4_leastPair_27 : decode cX4_leastPair 27 = .ok (.getfield 65, 3) := by decide +kernel
theorem dX4_leastPair_30 : decode cX4_leastPair 30 = .ok (.if_icmp .ge 77, 3) := by decide +kernel
theorem dX4_leastPair_33 : decode cX4_leastPair 33 = .ok (.iload_n 1, 1) := by decide +kernel
theorem dX4_leastPair_34 : decode cX4_leastPair 34 = .ok (.iload_n 3, 1) := by decide +kernel
theorem dX4_leastPair_35 : decode cX4_leastPair 35 = .ok (.invokestatic 116, 3) := by decide +kernel
theorem dX4_leastPair_38 : decode cX4_leastPair 38 = .ok (.ifCond .eq 63, 3) := by decide +kernel
theorem dX4_leastPair_41 : decode cX4_leastPair 41 = .ok (.iload_n 1, 1) := by decide +kernel
theorem dX4_leastPair_42 : decode cX4_leastPair 42 = .ok (.iload 4, 2) := by decide +kernel
theorem dX4_leastPair_44 : decode cX4_leastPair 44 = .ok (.invokestatic 116, 3) := by decide +kernel
theorem dX4_leastPair_47 : decode cX4_leastPair 47 = .ok (.ifCond .eq 54, 3) := by decide +kernel
theorem dX4_leastPair_50 : decode cX4_leastPair 50 = .ok (.aload_n 0, 1) := by decide +kernel
theorem dX4_leastPair_51 : decode cX4_leastPair 51 = .ok (.iload_n 3, 1) := by decide +kernel
theorem dX4_leastPair_52 : decode cX4_leastPair 52 = .ok (.iload 4, 2) := by decide +kernel
theorem dX4_leastPair_54 : decode cX4_leastPair 54 = .ok (.iconst 0, 1) := by decide +kernel
theorem dX4_leastPair_55 : decode cX4_leastPair 55 = .ok (.iconst 0, 1) := by decide +kernel
theorem dX4_leastPair_56 : decode cX4_leastPair 56 = .ok (.aload_n 0, 1) := by decide +kernel
theorem dX4_leastPair_57 : decode cX4_leastPair 57 = .ok (.getfield 26, 3) := by decide +kernel
theorem dX4_leastPair_60 : decode cX4_leastPair 60 = .ok (.getfield 100, 3) := by decide +kernel
theorem dX4_leastPair_63 : decode cX4_leastPair 63 = .ok (.invokevirtual 124, 3) := by decide +kernel
theorem dX4_leastPair_66 : decode cX4_leastPair 66 = .ok (.istore 5, 2) := by decide +kernel
theorem dX4_leastPair_68 : decode cX4_leastPair 68 = .ok (.iload 5, 2) := by decide +kernel
theorem dX4_leastPair_70 : decode cX4_leastPair 70 = .ok (.bipush 100, 2) := by decide +kernel
theorem dX4_leastPair_72 : decode cX4_leastPair 72 = .ok (.imul, 1) := by decide +kernel
theorem dX4_leastPair_73 : decode cX4_leastPair 73 = .ok (.bipush 10, 2) := by decide +kernel
theorem dX4_leastPair_75 : decode cX4_leastPair 75 = .ok (.iload_n 3, 1) := by decide +kernel
theorem dX4_leastPair_76 : decode cX4_leastPair 76 = .ok (.imul, 1) := by decide +kernel
theorem dX4_leastPair_77 : decode cX4_leastPair 77 = .ok (.iadd, 1) := by decide +kernel
theorem dX4_leastPair_78 : decode cX4_leastPair 78 = .ok (.iload 4, 2) := by decide +kernel
theorem dX4_leastPair_80 : decode cX4_leastPair 80 = .ok (.iadd, 1) := by decide +kernel
theorem dX4_leastPair_81 : decode cX4_leastPair 81 = .ok (.istore 6, 2) := by decide +kernel
theorem dX4_leastPair_83 : decode cX4_leastPair 83 = .ok (.iload_n 2, 1) := by decide +kernel
theorem dX4_leastPair_84 : decode cX4_leastPair 84 = .ok (.bipush (-9), 2) := by decide +kernel
theorem dX4_leastPair_86 : decode cX4_leastPair 86 = .ok (.if_icmp .ne 8, 3) := by decide +kernel
theorem dX4_leastPair_89 : decode cX4_leastPair 89 = .ok (.iload 6, 2) := by decide +kernel
theorem dX4_leastPair_91 : decode cX4_leastPair 91 = .ok (.goto 9, 3) := by decide +kernel
theorem dX4_leastPair_94 : decode cX4_leastPair 94 = .ok (.iload_n 2, 1) := by decide +kernel
theorem dX4_leastPair_95 : decode cX4_leastPair 95 = .ok (.iload 6, 2) := by decide +kernel
theorem dX4_leastPair_97 : decode cX4_leastPair 97 = .ok (.invokestatic 258, 3) := by decide +kernel
theorem dX4_leastPair_100 : decode cX4_leastPair 100 = .ok (.istore_n 2, 1) := by decide +kernel
theorem dX4_leastPair_101 : decode cX4_leastPair 101 = .ok (.iinc 4 1, 3) := by decide +kernel
theorem dX4_leastPair_104 : decode cX4_leastPair 104 = .ok (.goto (-83), 3) := by decide +kernel
theorem dX4_leastPair_107 : decode cX4_leastPair 107 = .ok (.iinc 3 1, 3) := by decide +kernel
theorem dX4_leastPair_110 : decode cX4_leastPair 110 = .ok (.goto (-105), 3) := by decide +kernel
theorem dX4_leastPair_113 : decode cX4_leastPair 113 = .ok (.iload_n 2, 1) := by decide +kernel
theorem dX4_leastPair_114 : decode cX4_leastPair 114 = .ok (.ireturn, 1) := by decide +kernel
set_option maxRecDepth 20000 in
theorem ggX4_leastBegin_X4_pairMinutes : GoodIn wsX4_leastBegin wsX4_pairMinutes := goodIn_r _ [11, 12, 2, 13, 14, 5, 15, 16, 17, 18, 19, 20, 21, 22, 10, 23, 24, 25, 26, 27, 28, 29, 30, 31, 32, 33, 34, 35, 36, 37, 38, 39, 40, 41, 42, 43, 44, 45, 46, 47, 48, 49, 50, 51, 52, 57, 58, 59, 60, 61, 53, 54, 55, 56] (by decide +kernel) (by decide +kernel)
set_option maxRecDepth 20000 in
theorem gX4_leastBegin_X4_pairMinutes : GoodIn wsX4_leastBegin (wsV RX4 124 RX4 yX4_pairMinutes wsX4_pairMinutes) := goodIn_app (goodIn_of _ (by decide +kernel)) ggX4_leastBegin_X4_pairMinutes
theorem dX4_leastBegin_0 : decode cX4_leastBegin 0 = .ok (.ldc_w 261, 3) := by decide +kernel
theorem dX4_leastBegin_3 : decode cX4_leastBegin 3 = .ok (.istore_n 3, 1) := by decide +kernel
theorem dX4_leastBegin_4 : decode cX4_leastBegin 4 = .ok (.iconst 0, 1) := by decide +kernel
theorem dX4_leastBegin_5 : decode cX4_leastBegin 5 = .ok (.istore 4, 2) := by decide +kernel
theorem dX4_leastBegin_7 : decode cX4_leastBegin 7 = .ok (.iload 4, 2) := by decide +kernel
theorem dX4_leastBegin_9 : decode cX4_leastBegin 9 = .ok (.iconst 4, 1) := by decide +kernel
theorem dX4_leastBegin_10 : decode cX4_leastBegin 10 = .ok (.if_icmp .ge 62, 3) := by decide +kernel
theorem dX4_leastBegin_13 : decode cX4_leastBegin 13 = .ok (.iconst 0, 1) := by decide +kernel
theorem dX4_leastBegin_14 : decode cX4_leastBegin 14 = .ok (.istore 5, 2) := by decide +kernel
theorem dX4_leastBegin_16 : decode cX4_leastBegin 16 = .ok (.iload 5, 2) := by decide +kernel
theorem dX4_leastBegin_18 : decode cX4_leastBegin 18 = .ok (.iconst 4, 1) := by decide +kernel
theorem dX4_leastBegin_19 : decode cX4_leastBegin 19 = .ok (.if_icmp .ge 47, 3) := by decide +kernel
theorem dX4_leastBegin_22 : decode cX4_leastBegin 22 = .ok (.aload_n 0, 1) := by decide +kernel
theorem dX4_leastBegin_23 : decode cX4_leastBegin 23 = .ok (.iload_n 1, 1) := by decide +kernel
theorem dX4_leastBegin_24 : decode cX4_leastBegin 24 = .ok (.iload_n 2, 1) := by decide +kernel
theorem dX4_leastBegin_25 : decode cX4_leastBegin 25 = .ok (.iload 4, 2) := by decide +kernel
theorem dX4_leastBegin_27 : decode cX4_leastBegin 27 = .ok (.iload 5, 2) := by decide +kernel
theorem dX4_leastBegin_29 : decode cX4_leastBegin 29 = .ok (.aload_n 0, 1) := by decide +kernel
theorem dX4_leastBegin_30 : decode cX4_leastBegin 30 = .ok (.getfield 26, 3) := by decide +kernel
theorem dX4_leastBegin_33 : decode cX4_leastBegin 33 = .ok (.getfield 100, 3) := by decide +kernel
theorem dX4_leastBegin_36 : decode cX4_leastBegin 36 = .ok (.invokevirtual 124, 3) := by decide +kernel
theorem dX4_leastBegin_39 : decode cX4_leastBegin 39 = .ok (.istore 6, 2) := by decide +kernel
theorem dX4_leastBegin_41 : decode cX4_leastBegin 41 = .ok (.iload_n 3, 1) := by decide +kernel
theorem dX4_leastBegin_42 : decode cX4_leastBegin 42 = .ok (.iload 6, 2) := by decide +kernel
theorem dX4_leastBegin_44 : decode cX4_leastBegin 44 = .ok (.bipush 100, 2) := by decide +kernel
theorem dX4_leastBegin_46 : decode cX4_leastBegin 46 = .ok (.imul, 1) := by decide +kernel
theorem dX4_leastBegin_47 : decode cX4_leastBegin 47 = .ok (.bipush 10, 2) := by decide +kernel
theorem dX4_leastBegin_49 : decode cX4_leastBegin 49 = .ok (.iload 4, 2) := by decide +kernel
theorem dX4_leastBegin_51 : decode cX4_leastBegin 51 = .ok (.imul, 1) := by decide +kernel
theorem dX4_leastBegin_52 : decode cX4_leastBegin 52 = .ok (.iadd, 1) := by decide +kernel
theorem dX4_leastBegin_53 : decode cX4_leastBegin 53 = .ok (.iload 5, 2) := by decide +kernel
theorem dX4_leastBegin_55 : decode cX4_leastBegin 55 = .ok (.iadd, 1) := by decide +kernel
theorem dX4_leastBegin_56 : decode cX4_leastBegin 56 = .ok (.invokestatic 258, 3) := by decide +kernel
theorem dX4_leastBegin_59 : decode cX4_leastBegin 59 = .ok (.istore_n 3, 1) := by decide +kernel
theorem dX4_leastBegin_60 : decode cX4_leastBegin 60 = .ok (.iinc 5 1, 3) := by decide +kernel
theorem dX4_leastBegin_63 : decode cX4_leastBegin 63 = .ok (.goto (-47), 3) := by decide +kernel
theorem dX4_leastBegin_66 : decode cX4_leastBegin 66 = .ok (.iinc 4 1, 3) := by decide +kernel
theorem dX4_leastBegin_69 : decode cX4_leastBegin 69 = .ok (.goto (-62), 3) := by decide +kernel
theorem dX4_leastBegin_72 : decode cX4_leastBegin 72 = .ok (.iload_n 3, 1) := by decide +kernel
theorem dX4_leastBegin_73 : decode cX4_leastBegin 73 = .ok (.ireturn, 1) := by decide +kernel
set_option maxRecDepth 20000 in
theorem ggX4_soonestLegs_X1_allBoats : GoodIn wsX4_soonestLegs wsX1_allBoats := goodIn_r _ [9, 10, 90, 91, 92, 93, 94] (by decide +kernel) (by decide +kernel)
set_option maxRecDepth 20000 in
theorem gX4_soonestLegs_X1_allBoats : GoodIn wsX4_soonestLegs (wsV RX4 262 RX1 yX1_allBoats wsX1_allBoats) := goodIn_app (goodIn_of _ (by decide +kernel)) ggX4_soonestLegs_X1_allBoats
set_option maxRecDepth 20000 in
theorem ggX4_soonestLegs_X4_leastLegs : GoodIn wsX4_soonestLegs wsX4_leastLegs := goodIn_r _ [15, 16, 1, 17, 18, 19, 20, 21, 22, 23, 14, 24, 2, 25, 26, 27, 28, 29, 30, 31, 32, 33, 34, 35, 36, 37, 38, 39, 40, 41, 42, 43, 44, 45, 46, 47, 48, 49, 50, 51, 52, 53, 54, 55, 56, 8, 57, 58, 59, 60, 61, 62, 63, 64, 65, 66, 67, 68, 69, 70, 71, 72, 73, 74, 75, 11, 12, 13, 76, 77, 78, 79, 80, 81, 82, 83, 84, 85, 90, 91, 92, 93, 94, 86, 87, 88, 89] (by decide +kernel) (by decide +kernel)
set_option maxRecDepth 20000 in
theorem gX4_soonestLegs_X4_leastLegs : GoodIn wsX4_soonestLegs (wsV RX4 267 RX4 yX4_leastLegs wsX4_leastLegs) := goodIn_app (goodIn_of _ (by decide +kernel)) ggX4_soonestLegs_X4_leastLegs
theorem dX4_soonestLegs_0 : decode cX4_soonestLegs 0 = .ok (.aload_n 0, 1) := by decide +kernel
theorem dX4_soonestLegs_1 : decode cX4_soonestLegs 1 = .ok (.getfield 19, 3) := by decide +kernel
theorem dX4_soonestLegs_4 : decode cX4_soonestLegs 4 = .ok (.invokevirtual 262, 3) := by decide +kernel
theorem dX4_soonestLegs_7 : decode cX4_soonestLegs 7 = .ok (.aload_n 0, 1) := by decide +kernel
theorem dX4_soonestLegs_8 : decode cX4_soonestLegs 8 = .ok (.getfield 26, 3) := by decide +kernel
theorem dX4_soonestLegs_11 : decode cX4_soonestLegs 11 = .ok (.getfield 74, 3) := by decide +kernel
theorem dX4_soonestLegs_14 : decode cX4_soonestLegs 14 = .ok (.iconst (-1), 1) := by decide +kernel
theorem dX4_soonestLegs_15 : decode cX4_soonestLegs 15 = .ok (.ixor, 1) := by decide +kernel
theorem dX4_soonestLegs_16 : decode cX4_soonestLegs 16 = .ok (.iand, 1) := by decide +kernel
theorem dX4_soonestLegs_17 : decode cX4_soonestLegs 17 = .ok (.istore_n 1, 1) := by decide +kernel
theorem dX4_soonestLegs_18 : decode cX4_soonestLegs 18 = .ok (.iload_n 1, 1) := by decide +kernel
theorem dX4_soonestLegs_19 : decode cX4_soonestLegs 19 = .ok (.ifCond .eq 18, 3) := by decide +kernel
theorem dX4_soonestLegs_22 : decode cX4_soonestLegs 22 = .ok (.aload_n 0, 1) := by decide +kernel
theorem dX4_soonestLegs_23 : decode cX4_soonestLegs 23 = .ok (.getfield 19, 3) := by decide +kernel
theorem dX4_soonestLegs_26 : decode cX4_soonestLegs 26 = .ok (.getfield 65, 3) := by decide +kernel
theorem dX4_soonestLegs_29 : decode cX4_soonestLegs 29 = .ok (.iconst 2, 1) := by decide +kernel
theorem dX4_soonestLegs_30 : decode cX4_soonestLegs 30 = .ok (.if_icmp .ge 7, 3) := by decide +kernel
theorem dX4_soonestLegs_33 : decode cX4_soonestLegs 33 = .ok (.ldc2_w 160, 3) := by decide +kernel
theorem dX4_soonestLegs_36 : decode cX4_soonestLegs 36 = .ok (.lreturn, 1) := by decide +kernel
theorem dX4_soonestLegs_37 : decode cX4_soonestLegs 37 = .ok (.aload_n 0, 1) := by decide +kernel
theorem dX4_soonestLegs_38 : decode cX4_soonestLegs 38 = .ok (.iconst 0, 1) := by decide +kernel
theorem dX4_soonestLegs_39 : decode cX4_soonestLegs 39 = .ok (.aload_n 0, 1) := by decide +kernel
theorem dX4_soonestLegs_40 : decode cX4_soonestLegs 40 = .ok (.getfield 26, 3) := by decide +kernel
theorem dX4_soonestLegs_43 : decode cX4_soonestLegs 43 = .ok (.getfield 100, 3) := by decide +kernel
