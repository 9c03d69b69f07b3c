theorem dX4_soonestLegs_46 : decode cX4_soonestLegs 46 = .ok (.iconst 0, 1) := by decide +kernel
theorem dX4_soonestLegs_47 : decode cX4_soonestLegs 47 = .ok (.iconst 0, 1) := by decide +kernel
theorem dX4_soonestLegs_48 : decode cX4_soonestLegs 48 = .ok (.ldc2_w 265, 3) := by decide +kernel
theorem dX4_soonestLegs_51 : decode cX4_soonestLegs 51 = .ok (.invokevirtual 267, 3) := by decide +kernel
theorem dX4_soonestLegs_54 : decode cX4_soonestLegs 54 = .ok (.lreturn, 1) := by decide +kernel
set_option maxRecDepth 20000 in
theorem ggX4_leastLegs_X4_nextToLeg : GoodIn wsX4_leastLegs wsX4_nextToLeg := goodIn_r _ [11, 2, 12, 13, 14, 10, 15, 68, 69, 70, 71, 72, 73, 74, 75, 76, 77, 78, 79, 80, 81, 82, 83, 84, 85, 86] (by decide +kernel) (by decide +kernel)
set_option maxRecDepth 20000 in
theorem gX4_leastLegs_X4_nextToLeg : GoodIn wsX4_leastLegs (wsV RX4 271 RX4 yX4_nextToLeg wsX4_nextToLeg) := goodIn_app (goodIn_of _ (by decide +kernel)) ggX4_leastLegs_X4_nextToLeg
set_option maxRecDepth 20000 in
theorem ggX4_leastLegs_X4_leastBehind : GoodIn wsX4_leastLegs wsX4_leastBehind := goodIn_r _ [19, 2, 20, 21, 22, 10, 23, 12, 24, 25, 5, 26, 27, 28, 29, 30, 31, 32, 33, 34, 35, 36, 37, 38, 39, 40, 41, 42, 43, 44, 45, 46, 47, 48, 49, 50, 51, 52, 53, 54, 55, 56, 57, 58, 59, 60, 61, 62, 63, 64, 65, 66, 67, 0, 1, 3, 4, 6, 7, 8, 9, 11, 13, 14, 15, 16, 17, 18, 68, 69, 70, 71, 72, 73, 74, 75, 76, 77, 78, 79, 80, 81, 82, 83, 84, 85, 86] (by decide +kernel) (by decide +kernel)
set_option maxRecDepth 20000 in
theorem gX4_leastLegs_X4_leastBehind : GoodIn wsX4_leastLegs (wsV RX4 277 RX4 yX4_leastBehind wsX4_leastBehind) := goodIn_app (goodIn_of _ (by decide +kernel)) ggX4_leastLegs_X4_leastBehind
theorem dX4_leastLegs_0 : decode cX4_leastLegs 0 = .ok (.iload_n 3, 1) := by decide +kernel
theorem dX4_leastLegs_1 : decode cX4_leastLegs 1 = .ok (.i2l, 1) := by decide +kernel
theorem dX4_leastLegs_2 : decode cX4_leastLegs 2 = .ok (.ldc2_w 162, 3) := by decide +kernel
theorem dX4_leastLegs_5 : decode cX4_leastLegs 5 = .ok (.lmul, 1) := by decide +kernel
theorem dX4_leastLegs_6 : decode cX4_leastLegs 6 = .ok (.lstore 7, 2) := by decide +kernel
theorem dX4_leastLegs_8 : decode cX4_leastLegs 8 = .ok (.lload 7, 2) := by decide +kernel
theorem dX4_leastLegs_10 : decode cX4_leastLegs 10 = .ok (.lload 5, 2) := by decide +kernel
theorem dX4_leastLegs_12 : decode cX4_leastLegs 12 = .ok (.lcmp, 1) := by decide +kernel
theorem dX4_leastLegs_13 : decode cX4_leastLegs 13 = .ok (.ifCond .lt 6, 3) := by decide +kernel
theorem dX4_leastLegs_16 : decode cX4_leastLegs 16 = .ok (.lload 5, 2) := by decide +kernel
theorem dX4_leastLegs_18 : decode cX4_leastLegs 18 = .ok (.lreturn, 1) := by decide +kernel
theorem dX4_leastLegs_19 : decode cX4_leastLegs 19 = .ok (.aload_n 0, 1) := by decide +kernel
theorem dX4_leastLegs_20 : decode cX4_leastLegs 20 = .ok (.iload_n 1, 1) := by decide +kernel
theorem dX4_leastLegs_21 : decode cX4_leastLegs 21 = .ok (.invokevirtual 271, 3) := by decide +kernel
theorem dX4_leastLegs_24 : decode cX4_leastLegs 24 = .ok (.istore 9, 2) := by decide +kernel
theorem dX4_leastLegs_26 : decode cX4_leastLegs 26 = .ok (.iload 9, 2) := by decide +kernel
theorem dX4_leastLegs_28 : decode cX4_leastLegs 28 = .ok (.aload_n 0, 1) := by decide +kernel
theorem dX4_leastLegs_29 : decode cX4_leastLegs 29 = .ok (.getfield 19, 3) := by decide +kernel
theorem dX4_leastLegs_32 : decode cX4_leastLegs 32 = .ok (.getfield 68, 3) := by decide +kernel
theorem dX4_leastLegs_35 : decode cX4_leastLegs 35 = .ok (.if_icmp .lt 15, 3) := by decide +kernel
theorem dX4_leastLegs_38 : decode cX4_leastLegs 38 = .ok (.lload 5, 2) := by decide +kernel
theorem dX4_leastLegs_40 : decode cX4_leastLegs 40 = .ok (.lload 7, 2) := by decide +kernel
theorem dX4_leastLegs_42 : decode cX4_leastLegs 42 = .ok (.iload 4, 2) := by decide +kernel
theorem dX4_leastLegs_44 : decode cX4_leastLegs 44 = .ok (.i2l, 1) := by decide +kernel
theorem dX4_leastLegs_45 : decode cX4_leastLegs 45 = .ok (.ladd, 1) := by decide +kernel
theorem dX4_leastLegs_46 : decode cX4_leastLegs 46 = .ok (.invokestatic 274, 3) := by decide +kernel
theorem dX4_leastLegs_49 : decode cX4_leastLegs 49 = .ok (.lreturn, 1) := by decide +kernel
theorem dX4_leastLegs_50 : decode cX4_leastLegs 50 = .ok (.lload 5, 2) := by decide +kernel
theorem dX4_leastLegs_52 : decode cX4_leastLegs 52 = .ok (.lstore 10, 2) := by decide +kernel
theorem dX4_leastLegs_54 : decode cX4_leastLegs 54 = .ok (.iconst 0, 1) := by decide +kernel
theorem dX4_leastLegs_55 : decode cX4_leastLegs 55 = .ok (.istore 12, 2) := by decide +kernel
theorem dX4_leastLegs_57 : decode cX4_leastLegs 57 = .ok (.iload 12, 2) := by decide +kernel
theorem dX4_leastLegs_59 : decode cX4_leastLegs 59 = .ok (.aload_n 0, 1) := by decide +kernel
theorem dX4_leastLegs_60 : decode cX4_leastLegs 60 = .ok (.getfield 19, 3) := by decide +kernel
theorem dX4_leastLegs_63 : decode cX4_leastLegs 63 = .ok (.getfield 65, 3) := by decide +kernel
theorem dX4_leastLegs_66 : decode cX4_leastLegs 66 = .ok (.if_icmp .ge 51, 3) := by decide +kernel
theorem dX4_leastLegs_69 : decode cX4_leastLegs 69 = .ok (.iload 12, 2) := by decide +kernel
theorem dX4_leastLegs_71 : decode cX4_leastLegs 71 = .ok (.iconst 1, 1) := by decide +kernel
theorem dX4_leastLegs_72 : decode cX4_leastLegs 72 = .ok (.iadd, 1) := by decide +kernel
theorem dX4_leastLegs_73 : decode cX4_leastLegs 73 = .ok (.istore 13, 2) := by decide +kernel
theorem dX4_leastLegs_75 : decode cX4_leastLegs 75 = .ok (.iload 13, 2) := by decide +kernel
theorem dX4_leastLegs_77 : decode cX4_leastLegs 77 = .ok (.aload_n 0, 1) := by decide +kernel
theorem dX4_leastLegs_78 : decode cX4_leastLegs 78 = .ok (.getfield 19, 3) := by decide +kernel
theorem dX4_leastLegs_81 : decode cX4_leastLegs 81 = .ok (.getfield 65, 3) := by decide +kernel
theorem dX4_leastLegs_84 : decode cX4_leastLegs 84 = .ok (.if_icmp .ge 27, 3) := by decide +kernel
theorem dX4_leastLegs_87 : decode cX4_leastLegs 87 = .ok (.aload_n 0, 1) := by decide +kernel
theorem dX4_leastLegs_88 : decode cX4_leastLegs 88 = .ok (.iload 9, 2) := by decide +kernel
theorem dX4_leastLegs_90 : decode cX4_leastLegs 90 = .ok (.iload 12, 2) := by decide +kernel
theorem dX4_leastLegs_92 : decode cX4_leastLegs 92 = .ok (.iload 13, 2) := by decide +kernel
theorem dX4_leastLegs_94 : decode cX4_leastLegs 94 = .ok (.iload_n 2, 1) := by decide +kernel
theorem dX4_leastLegs_95 : decode cX4_leastLegs 95 = .ok (.iload_n 3, 1) := by decide +kernel
theorem dX4_leastLegs_96 : decode cX4_leastLegs 96 = .ok (.iload 4, 2) := by decide +kernel
theorem dX4_leastLegs_98 : decode cX4_leastLegs 98 = .ok (.lload 10, 2) := by decide +kernel
theorem dX4_leastLegs_100 : decode cX4_leastLegs 100 = .ok (.invokevirtual 277, 3) := by decide +kernel
theorem dX4_leastLegs_103 : decode cX4_leastLegs 103 = .ok (.lstore 10, 2) := by decide +kernel
theorem dX4_leastLegs_105 : decode cX4_leastLegs 105 = .ok (.iinc 13 1, 3) := by decide +kernel
theorem dX4_leastLegs_108 : decode cX4_leastLegs 108 = .ok (.goto (-33), 3) := by decide +kernel
theorem dX4_leastLegs_111 : decode cX4_leastLegs 111 = .ok (.iinc 12 1, 3) := by decide +kernel
theorem dX4_leastLegs_114 : decode cX4_leastLegs 114 = .ok (.goto (-57), 3) := by decide +kernel
theorem dX4_leastLegs_117 : decode cX4_leastLegs 117 = .ok (.lload 10, 2) := by decide +kernel
theorem dX4_leastLegs_119 : decode cX4_leastLegs 119 = .ok (.lreturn, 1) := by decide +kernel
set_option maxRecDepth 20000 in
theorem ggX4_leastBehind_X4_pairMinutes : GoodIn wsX4_leastBehind wsX4_pairMinutes := goodIn_r _ [6, 1, 7, 8, 9, 10, 11, 12, 13, 14, 15, 16, 17, 18, 5, 19, 20, 21, 22, 23, 24, 25, 26, 27, 28, 29, 30, 31, 32, 33, 34, 35, 36, 37, 38, 68, 69, 70, 71, 72, 73, 74, 75, 76, 77, 78, 79, 80, 81, 82, 83, 84, 85, 86] (by decide +kernel) (by decide +kernel)
set_option maxRecDepth 20000 in
theorem gX4_leastBehind_X4_pairMinutes : GoodIn wsX4_leastBehind (wsV RX4 124 RX4 yX4_pairMinutes wsX4_pairMinutes) := goodIn_app (goodIn_of _ (by decide +kernel)) ggX4_leastBehind_X4_pairMinutes
set_option maxRecDepth 20000 in
theorem ggX4_leastBehind_X1_loadOf : GoodIn wsX4_leastBehind wsX1_loadOf := goodIn_r _ [42, 43, 78, 79, 80, 81, 82] (by decide +kernel) (by decide +kernel)
set_option maxRecDepth 20000 in
theorem gX4_leastBehind_X1_loadOf : GoodIn wsX4_leastBehind (wsV RX4 109 RX1 yX1_loadOf wsX1_loadOf) := goodIn_app (goodIn_of _ (by decide +kernel)) ggX4_leastBehind_X1_loadOf
set_option maxRecDepth 20000 in
theorem ggX4_leastBehind_X4_tireBoth : GoodIn wsX4_leastBehind wsX4_tireBoth := goodIn_r _ [46, 47, 48, 5, 49, 33, 34, 35] (by decide +kernel) (by decide +kernel)
set_option maxRecDepth 20000 in
theorem gX4_leastBehind_X4_tireBoth : GoodIn wsX4_leastBehind (va_wsS RX4 128 yX4_tireBoth wsX4_tireBoth) := goodIn_app (goodIn_of _ (by decide +kernel)) ggX4_leastBehind_X4_tireBoth
set_option maxRecDepth 20000 in
theorem ggX4_leastBehind_X4_leastLegs : GoodIn wsX4_leastBehind wsX4_leastLegs := goodIn_r _ [53, 54, 1, 55, 56, 10, 57, 58, 59, 60, 5, 61, 7, 62, 63, 64, 65, 66, 67, 0, 2, 3, 4, 6, 8, 9, 11, 12, 13, 14, 15, 16, 17, 18, 19, 20, 21, 22, 23, 24, 25, 26, 27, 28, 29, 30, 31, 32, 33, 34, 35, 36, 37, 38, 39, 40, 41, 42, 43, 44, 45, 46, 47, 48, 49, 50, 51, 52, 68, 69, 70, 71, 72, 73, 74, 75, 76, 77, 78, 79, 80, 81, 82, 83, 84, 85, 86] (by decide +kernel) (by decide +kernel)
set_option maxRecDepth 20000 in
theorem gX4_leastBehind_X4_leastLegs : GoodIn wsX4_leastBehind (wsV RX4 267 RX4 yX4_leastLegs wsX4_leastLegs) := goodIn_app (goodIn_of _ (by decide +kernel)) ggX4_leastBehind_X4_leastLegs
theorem dX4_leastBehind_0 : decode cX4_leastBehind 0 = .ok (.iload 5, 2) := by decide +kernel
theorem dX4_leastBehind_2 : decode cX4_leastBehind 2 = .ok (.aload_n 0, 1) := by decide +kernel
theorem dX4_leastBehind_3 : decode cX4_leastBehind 3 = .ok (.iload_n 2, 1) := by decide +kernel
theorem dX4_leastBehind_4 : decode cX4_leastBehind 4 = .ok (.iload_n 3, 1) := by decide +kernel
theorem dX4_leastBehind_5 : decode cX4_leastBehind 5 = .ok (.iconst 0, 1) := by decide +kernel
theorem dX4_leastBehind_6 : decode cX4_leastBehind 6 = .ok (.iconst 0, 1) := by decide +kernel
theorem dX4_leastBehind_7 : decode cX4_leastBehind 7 = .ok (.iload 4, 2) := by decide +kernel
theorem dX4_leastBehind_9 : decode cX4_leastBehind 9 = .ok (.invokevirtual 124, 3) := by decide +kernel
theorem dX4_leastBehind_12 : decode cX4_leastBehind 12 = .ok (.iadd, 1) := by decide +kernel
theorem dX4_leastBehind_13 : decode cX4_leastBehind 13 = .ok (.aload_n 0, 1) := by decide +kernel
theorem dX4_leastBehind_14 : decode cX4_leastBehind 14 = .ok (.getfield 19, 3) := by decide +kernel
theorem dX4_leastBehind_17 : decode cX4_leastBehind 17 = .ok (.iload_n 1, 1) := by decide +kernel
theorem dX4_leastBehind_18 : decode cX4_leastBehind 18 = .ok (.invokevirtual 109, 3) := by decide +kernel
theorem dX4_leastBehind_21 : decode cX4_leastBehind 21 = .ok (.iadd, 1) := by decide +kernel
theorem dX4_leastBehind_22 : decode cX4_leastBehind 22 = .ok (.istore 9, 2) := by decide +kernel
theorem dX4_leastBehind_24 : decode cX4_leastBehind 24 = .ok (.iload 6, 2) := by decide +kernel
theorem dX4_leastBehind_26 : decode cX4_leastBehind 26 = .ok (.sipush 1000, 3) := by decide +kernel
theorem dX4_leastBehind_29 : decode cX4_leastBehind 29 = .ok (.imul, 1) := by decide +kernel
theorem dX4_leastBehind_30 : decode cX4_leastBehind 30 = .ok (.bipush 100, 2) := by decide +kernel
theorem dX4_leastBehind_32 : decode cX4_leastBehind 32 = .ok (.iload_n 1, 1) := by decide +kernel
theorem dX4_leastBehind_33 : decode cX4_leastBehind 33 = .ok (.imul, 1) := by decide +kernel
theorem dX4_leastBehind_34 : decode cX4_leastBehind 34 = .ok (.iadd, 1) := by decide +kernel
theorem dX4_leastBehind_35 : decode cX4_leastBehind 35 = .ok (.bipush 10, 2) := by decide +kernel
theorem dX4_leastBehind_37 : decode cX4_leastBehind 37 = .ok (.iload_n 2, 1) := by decide +kernel
theorem dX4_leastBehind_38 : decode cX4_leastBehind 38 = .ok (.imul, 1) := by decide +kernel
theorem dX4_leastBehind_39 : decode cX4_leastBehind 39 = .ok (.iadd, 1) := by decide +kernel
theorem dX4_leastBehind_40 : decode cX4_leastBehind 40 = .ok (.iload_n 3, 1) := by decide +kernel
theorem dX4_leastBehind_41 : decode cX4_leastBehind 41 = .ok (.iadd, 1) := by decide +kernel
theorem dX4_leastBehind_42 : decode cX4_leastBehind 42 = .ok (.istore 10, 2) := by decide +kernel
theorem dX4_leastBehind_44 : decode cX4_leastBehind 44 = .ok (.aload_n 0, 1) := by decide +kernel
theorem dX4_leastBehind_45 : decode cX4_leastBehind 45 = .ok (.iload_n 1, 1) := by decide +kernel
theorem dX4_leastBehind_46 : decode cX4_leastBehind 46 = .ok (.iconst 1, 1) := by decide +kernel
theorem dX4_leastBehind_47 : decode cX4_leastBehind 47 = .ok (.iadd, 1) := by decide +kernel
theorem dX4_leastBehind_48 : decode cX4_leastBehind 48 = .ok (.iload 4, 2) := by decide +kernel
theorem dX4_leastBehind_50 : decode cX4_leastBehind 50 = .ok (.iload_n 2, 1) := by decide +kernel
theorem dX4_leastBehind_51 : decode cX4_leastBehind 51 = .ok (.iload_n 3, 1) := by decide +kernel
theorem dX4_leastBehind_52 : decode cX4_leastBehind 52 = .ok (.invokestatic 128, 3) := by decide +kernel
theorem dX4_leastBehind_55 : decode cX4_leastBehind 55 = .ok (.iload 9, 2) := by decide +kernel
theorem dX4_leastBehind_57 : decode cX4_leastBehind 57 = .ok (.iload 10, 2) := by decide +kernel
theorem dX4_leastBehind_59 : decode cX4_leastBehind 59 = .ok (.lload 7, 2) := by decide +kernel
theorem dX4_leastBehind_61 : decode cX4_leastBehind 61 = .ok (.invokevirtual 267, 3) := by decide +kernel
theorem dX4_leastBehind_64 : decode cX4_leastBehind 64 = .ok (.lreturn, 1) := by decide +kernel
set_option maxRecDepth 20000 in
theorem ggX4_nextToLeg_X4_isIn : GoodIn wsX4_nextToLeg wsX4_isIn := goodIn_r _ [6] (by decide +kernel) (by decide +kernel)
set_option maxRecDepth 20000 in
theorem gX4_nextToLeg_X4_isIn : GoodIn wsX4_nextToLeg (va_wsS RX4 116 yX4_isIn wsX4_isIn) := goodIn_app (goodIn_of _ (by decide +kernel)) ggX4_nextToLeg_X4_isIn
theorem dX4_nextToLeg_0 : decode cX4_nextToLeg 0 = .ok (.iload_n 1, 1) := by decide +kernel
theorem dX4_nextToLeg_1 : decode cX4_nextToLeg 1 = .ok (.istore_n 2, 1) := by decide +kernel
theorem dX4_nextToLeg_2 : decode cX4_nextToLeg 2 = .ok (.iload_n 2, 1) := by decide +kernel
theorem dX4_nextToLeg_3 : decode cX4_nextToLeg 3 = .ok (.aload_n 0, 1) := by decide +kernel
theorem dX4_nextToLeg_4 : decode cX4_nextToLeg 4 = .ok (.getfield 19, 3) := by decide +kernel
theorem dX4_nextToLeg_7 : decode cX4_nextToLeg 7 = .ok (.getfield 68, 3) := by decide +kernel
theorem dX4_nextToLeg_10 : decode cX4_nextToLeg 10 = .ok (.if_icmp .ge 23, 3) := by decide +kernel
theorem dX4_nextToLeg_13 : decode cX4_nextToLeg 13 = .ok (.aload_n 0, 1) := by decide +kernel
theorem dX4_nextToLeg_14 : decode cX4_nextToLeg 14 = .ok (.getfield 26, 3) := by decide +kernel
theorem dX4_nextToLeg_17 : decode cX4_nextToLeg 17 = .ok (.getfield 74, 3) := by decide +kernel
theorem dX4_nextToLeg_20 : decode cX4_nextToLeg 20 = .ok (.iload_n 2, 1) := by decide +kernel
theorem dX4_nextToLeg_21 : decode cX4_nextToLeg 21 = .ok (.invokestatic 116, 3) := by decide +kernel
theorem dX4_nextToLeg_24 : decode cX4_nextToLeg 24 = .ok (.ifCond .eq 9, 3) := by decide +kernel
theorem dX4_nextToLeg_27 : decode cX4_nextToLeg 27 = .ok (.iinc 2 1, 3) := by decide +kernel
theorem dX4_nextToLeg_30 : decode cX4_nextToLeg 30 = .ok (.goto (-28), 3) := by decide +kernel
theorem dX4_nextToLeg_33 : decode cX4_nextToLeg 33 = .ok (.iload_n 2, 1) := by decide +kernel
theorem dX4_nextToLeg_34 : decode cX4_nextToLeg 34 = .ok (.ireturn, 1) := by decide +kernel
set_option maxRecDepth 20000 in
theorem ggX4_worth_X4_leastPair : GoodIn wsX4_worth wsX4_leastPair := goodIn_r _ [6, 1, 7, 8, 9, 10, 11, 12, 13, 5, 14, 15, 16, 17, 18, 19, 20, 21, 22, 23, 24, 25, 26, 27, 28, 29, 30, 31, 32, 33, 34, 35, 36, 37, 38, 39, 40, 41, 42, 43, 44, 45, 46, 47, 48, 54, 55, 56, 57, 58, 59, 60, 61, 62, 63, 64, 65, 66, 67, 68, 69, 70, 71, 72] (by decide +kernel) (by decide +kernel)
set_option maxRecDepth 20000 in
theorem gX4_worth_X4_leastPair : GoodIn wsX4_worth (wsV RX4 150 RX4 yX4_leastPair wsX4_leastPair) := goodIn_app (goodIn_of _ (by decide +kernel)) ggX4_worth_X4_leastPair
set_option maxRecDepth 20000 in
theorem ggX4_worth_X1_loadOf : GoodIn wsX4_worth wsX1_loadOf := goodIn_r _ [52, 53, 64, 65, 66, 67, 68] (by decide +kernel) (by decide +kernel)
set_option maxRecDepth 20000 in
theorem gX4_worth_X1_loadOf : GoodIn wsX4_worth (wsV RX4 109 RX1 yX1_loadOf wsX1_loadOf) := goodIn_app (goodIn_of _ (by decide +kernel)) ggX4_worth_X1_loadOf
theorem dX4_worth_0 : decode cX4_worth 0 = .ok (.aload_n 0, 1) := by decide +kernel
theorem dX4_worth_1 : decode cX4_worth 1 = .ok (.iload_n 2, 1) := by decide +kernel
theorem dX4_worth_2 : decode cX4_worth 2 = .ok (.invokevirtual 150, 3) := by decide +kernel
theorem dX4_worth_5 : decode cX4_worth 5 = .ok (.istore_n 3, 1) := by decide +kernel
theorem dX4_worth_6 : decode cX4_worth 6 = .ok (.iload_n 3, 1) := by decide +kernel
theorem dX4_worth_7 : decode cX4_worth 7 = .ok (.bipush (-9), 2) := by decide +kernel
theorem dX4_worth_9 : decode cX4_worth 9 = .ok (.if_icmp .ne 7, 3) := by decide +kernel
theorem dX4_worth_12 : decode cX4_worth 12 = .ok (.iconst 0, 1) := by decide +kernel
theorem dX4_worth_13 : decode cX4_worth 13 = .ok (.goto 20, 3) := by decide +kernel
theorem dX4_worth_16 : decode cX4_worth 16 = .ok (.sipush 200, 3) := by decide +kernel
theorem dX4_worth_19 : decode cX4_worth 19 = .ok (.iload_n 3, 1) := by decide +kernel
theorem dX4_worth_20 : decode cX4_worth 20 = .ok (.bipush 100, 2) := by decide +kernel
theorem dX4_worth_22 : decode cX4_worth 22 = .ok (.idiv, 1) := by decide +kernel
theorem dX4_worth_23 : decode cX4_worth 23 = .ok (.isub, 1) := by decide +kernel
theorem dX4_worth_24 : decode cX4_worth 24 = .ok (.aload_n 0, 1) := by decide +kernel
theorem dX4_worth_25 : decode cX4_worth 25 = .ok (.getfield 19, 3) := by decide +kernel
theorem dX4_worth_28 : decode cX4_worth 28 = .ok (.iload_n 1, 1) := by decide +kernel
theorem dX4_worth_29 : decode cX4_worth 29 = .ok (.invokevirtual 109, 3) := by decide +kernel
theorem dX4_worth_32 : decode cX4_worth 32 = .ok (.isub, 1) := by decide +kernel
theorem dX4_worth_33 : decode cX4_worth 33 = .ok (.ireturn, 1) := by decide +kernel
set_option maxRecDepth 20000 in
theorem ggX4_ordersBehind_X4_factorial : GoodIn wsX4_ordersBehind wsX4_factorial := goodIn_r _ [5] (by decide +kernel) (by decide +kernel)
set_option maxRecDepth 20000 in
theorem gX4_ordersBehind_X4_factorial : GoodIn wsX4_ordersBehind (va_wsS RX4 178 yX4_factorial wsX4_factorial) := goodIn_app (goodIn_of _ (by decide +kernel)) ggX4_ordersBehind_X4_factorial
theorem dX4_ordersBehind_0 : decode cX4_ordersBehind 0 = .ok (.iload_n 1, 1) := by decide +kernel
theorem dX4_ordersBehind_1 : decode cX4_ordersBehind 1 = .ok (.invokestatic 178, 3) := by decide +kernel
theorem dX4_ordersBehind_4 : decode cX4_ordersBehind 4 = .ok (.aload_n 0, 1) := by decide +kernel
theorem dX4_ordersBehind_5 : decode cX4_ordersBehind 5 = .ok (.getfield 19, 3) := by decide +kernel
theorem dX4_ordersBehind_8 : decode cX4_ordersBehind 8 = .ok (.getfield 65, 3) := by decide +kernel
theorem dX4_ordersBehind_11 : decode cX4_ordersBehind 11 = .ok (.iconst 1, 1) := by decide +kernel
theorem dX4_ordersBehind_12 : decode cX4_ordersBehind 12 = .ok (.isub, 1) := by decide +kernel
theorem dX4_ordersBehind_13 : decode cX4_ordersBehind 13 = .ok (.iload_n 1, 1) := by decide +kernel
theorem dX4_ordersBehind_14 : decode cX4_ordersBehind 14 = .ok (.isub, 1) := by decide +kernel
theorem dX4_ordersBehind_15 : decode cX4_ordersBehind 15 = .ok (.invokestatic 178, 3) := by decide +kernel
theorem dX4_ordersBehind_18 : decode cX4_ordersBehind 18 = .ok (.imul, 1) := by decide +kernel
theorem dX4_ordersBehind_19 : decode cX4_ordersBehind 19 = .ok (.ireturn, 1) := by decide +kernel
set_option maxRecDepth 20000 in
theorem ggX4_isAsSeen_X4_groundIn : GoodIn wsX4_isAsSeen wsX4_groundIn := goodIn_r _ [5] (by decide +kernel) (by decide +kernel)
set_option maxRecDepth 20000 in
theorem gX4_isAsSeen_X4_groundIn : GoodIn wsX4_isAsSeen (va_wsS RX4 191 yX4_groundIn wsX4_groundIn) := goodIn_app (goodIn_of _ (by decide +kernel)) ggX4_isAsSeen_X4_groundIn
set_option maxRecDepth 20000 in
theorem ggX4_isAsSeen_X4_minutesOver : GoodIn wsX4_isAsSeen wsX4_minutesOver := goodIn_r _ [8] (by decide +kernel) (by decide +kernel)
set_option maxRecDepth 20000 in
theorem gX4_isAsSeen_X4_minutesOver : GoodIn wsX4_isAsSeen (va_wsS RX4 244 yX4_minutesOver wsX4_minutesOver) := goodIn_app (goodIn_of _ (by decide +kernel)) ggX4_isAsSeen_X4_minutesOver
set_option maxRecDepth 20000 in
theorem ggX4_isAsSeen_X4_placeBehind : GoodIn wsX4_isAsSeen wsX4_placeBehind := goodIn_r _ [11] (by decide +kernel) (by decide +kernel)
set_option maxRecDepth 20000 in
theorem gX4_isAsSeen_X4_placeBehind : GoodIn wsX4_isAsSeen (va_wsS RX4 255 yX4_placeBehind wsX4_placeBehind) := goodIn_app (goodIn_of _ (by decide +kernel)) ggX4_isAsSeen_X4_placeBehind
theorem dX4_isAsSeen_0 : decode cX4_isAsSeen 0 = .ok (.iconst 0, 1) := by decide +kernel
theorem dX4_isAsSeen_1 : decode cX4_isAsSeen 1 = .ok (.istore_n 2, 1) := by decide +kernel
theorem dX4_isAsSeen_2 : decode cX4_isAsSeen 2 = .ok (.iconst 0, 1) := by decide +kernel
theorem dX4_isAsSeen_3 : decode cX4_isAsSeen 3 = .ok (.istore_n 3, 1) := by decide +kernel
theorem dX4_isAsSeen_4 : decode cX4_isAsSeen 4 = .ok (.iload_n 3, 1) := by decide +kernel
theorem dX4_isAsSeen_5 : decode cX4_isAsSeen 5 = .ok (.bipush 6, 2) := by decide +kernel
theorem dX4_isAsSeen_7 : decode cX4_isAsSeen 7 = .ok (.if_icmp .ge 53, 3) := by decide +kernel
theorem dX4_isAsSeen_10 : decode cX4_isAsSeen 10 = .ok (.iload_n 1, 1) := by decide +kernel
theorem dX4_isAsSeen_11 : decode cX4_isAsSeen 11 = .ok (.iload_n 2, 1) := by decide +kernel
theorem dX4_isAsSeen_12 : decode cX4_isAsSeen 12 = .ok (.invokestatic 191, 3) := by decide +kernel
theorem dX4_isAsSeen_15 : decode cX4_isAsSeen 15 = .ok (.istore 4, 2) := by decide +kernel
theorem dX4_isAsSeen_17 : decode cX4_isAsSeen 17 = .ok (.aload_n 0, 1) := by decide +kernel
theorem dX4_isAsSeen_18 : decode cX4_isAsSeen 18 = .ok (.getfield 185, 3) := by decide +kernel
theorem dX4_isAsSeen_21 : decode cX4_isAsSeen 21 = .ok (.iconst 4, 1) := by decide +kernel
theorem dX4_isAsSeen_22 : decode cX4_isAsSeen 22 = .ok (.iload_n 3, 1) := by decide +kernel
theorem dX4_isAsSeen_23 : decode cX4_isAsSeen 23 = .ok (.imul, 1) := by decide +kernel
theorem dX4_isAsSeen_24 : decode cX4_isAsSeen 24 = .ok (.iushr, 1) := by decide +kernel
theorem dX4_isAsSeen_25 : decode cX4_isAsSeen 25 = .ok (.bipush 15, 2) := by decide +kernel
theorem dX4_isAsSeen_27 : decode cX4_isAsSeen 27 = .ok (.iand, 1) := by decide +kernel
theorem dX4_isAsSeen_28 : decode cX4_isAsSeen 28 = .ok (.istore 5, 2) := by decide +kernel
theorem dX4_isAsSeen_30 : decode cX4_isAsSeen 30 = .ok (.iload 5, 2) := by decide +kernel
theorem dX4_isAsSeen_32 : decode cX4_isAsSeen 32 = .ok (.iconst 1, 1) := by decide +kernel
theorem dX4_isAsSeen_33 : decode cX4_isAsSeen 33 = .ok (.iload 4, 2) := by decide +kernel
theorem dX4_isAsSeen_35 : decode cX4_isAsSeen 35 = .ok (.invokestatic 244, 3) := by decide +kernel
theorem dX4_isAsSeen_38 : decode cX4_isAsSeen 38 = .ok (.ishl, 1) := by decide +kernel
theorem dX4_isAsSeen_39 : decode cX4_isAsSeen 39 = .ok (.iconst (-1), 1) := by decide +kernel
theorem dX4_isAsSeen_40 : decode cX4_isAsSeen 40 = .ok (.ixor, 1) := by decide +kernel
theorem dX4_isAsSeen_41 : decode cX4_isAsSeen 41 = .ok (.iand, 1) := by decide +kernel
theorem dX4_isAsSeen_42 : decode cX4_isAsSeen 42 = .ok (.ifCond .eq 5, 3) := by decide +kernel
theorem dX4_isAsSeen_45 : decode cX4_isAsSeen 45 = .ok (.iconst 0, 1) := by decide +kernel
theorem dX4_isAsSeen_46 : decode cX4_isAsSeen 46 = .ok (.ireturn, 1) := by decide +kernel
theorem dX4_isAsSeen_47 : decode cX4_isAsSeen 47 = .ok (.iload_n 2, 1) := by decide +kernel
theorem dX4_isAsSeen_48 : decode cX4_isAsSeen 48 = .ok (.iload 4, 2) := by decide +kernel
theorem dX4_isAsSeen_50 : decode cX4_isAsSeen 50 = .ok (.invokestatic 255, 3) := by decide +kernel
theorem dX4_isAsSeen_53 : decode cX4_isAsSeen 53 = .ok (.istore_n 2, 1) := by decide +kernel
theorem dX4_isAsSeen_54 : decode cX4_isAsSeen 54 = .ok (.iinc 3 1, 3) := by decide +kernel
theorem dX4_isAsSeen_57 : decode cX4_isAsSeen 57 = .ok (.goto (-53), 3) := by decide +kernel
theorem dX4_isAsSeen_60 : decode cX4_isAsSeen 60 = .ok (.iconst 1, 1) := by decide +kernel
theorem dX4_isAsSeen_61 : decode cX4_isAsSeen 61 = .ok (.ireturn, 1) := by decide +kernel
theorem dX4_loss_0 : decode cX4_loss 0 = .ok (.iload_n 1, 1) := by decide +kernel
theorem dX4_loss_1 : decode cX4_loss 1 = .ok (.iload_n 2, 1) := by decide +kernel
theorem dX4_loss_2 : decode cX4_loss 2 = .ok (.if_icmp .ne 8, 3) := by decide +kernel
theorem dX4_loss_5 : decode cX4_loss 5 = .ok (.bipush 6, 2) := by decide +kernel
theorem dX4_loss_7 : decode cX4_loss 7 = .ok (.iload_n 0, 1) := by decide +kernel
theorem dX4_loss_8 : decode cX4_loss 8 = .ok (.iadd, 1) := by decide +kernel
theorem dX4_loss_9 : decode cX4_loss 9 = .ok (.ireturn, 1) := by decide +kernel
theorem dX4_loss_10 : decode cX4_loss 10 = .ok (.iload_n 1, 1) := by decide +kernel
theorem dX4_loss_11 : decode cX4_loss 11 = .ok (.iload_n 2, 1) := by decide +kernel
theorem dX4_loss_12 : decode cX4_loss 12 = .ok (.if_icmp .le 9, 3) := by decide +kernel
theorem dX4_loss_15 : decode cX4_loss 15 = .ok (.iload_n 0, 1) := by decide +kernel
theorem dX4_loss_16 : decode cX4_loss 16 = .ok (.iload_n 1, 1) := by decide +kernel
theorem dX4_loss_17 : decode cX4_loss 17 = .ok (.iadd, 1) := by decide +kernel
theorem dX4_loss_18 : decode cX4_loss 18 = .ok (.goto 4, 3) := by decide +kernel
theorem dX4_loss_21 : decode cX4_loss 21 = .ok (.iload_n 1, 1) := by decide +kernel
theorem dX4_loss_22 : decode cX4_loss 22 = .ok (.ireturn, 1) := by decide +kernel
set_option maxRecDepth 20000 in
theorem ggX4_staysWith_X4_loss : GoodIn wsX4_staysWith wsX4_loss := goodIn_r _ [4] (by decide +kernel) (by decide +kernel)
set_option maxRecDepth 20000 in
theorem gX4_staysWith_X4_loss : GoodIn wsX4_staysWith (va_wsS RX4 281 yX4_loss wsX4_loss) := goodIn_app (goodIn_of _ (by decide +kernel)) ggX4_staysWith_X4_loss
theorem dX4_staysWith_0 : decode cX4_staysWith 0 = .ok (.iconst 0, 1) := by decide +kernel
theorem dX4_staysWith_1 : decode cX4_staysWith 1 = .ok (.istore_n 3, 1) := by decide +kernel
theorem dX4_staysWith_2 : decode cX4_staysWith 2 = .ok (.iload_n 3, 1) := by decide +kernel
theorem dX4_staysWith_3 : decode cX4_staysWith 3 = .ok (.iconst 3, 1) := by decide +kernel
theorem dX4_staysWith_4 : decode cX4_staysWith 4 = .ok (.if_icmp .gt 26, 3) := by decide +kernel
theorem dX4_staysWith_7 : decode cX4_staysWith 7 = .ok (.iload_n 0, 1) := by decide +kernel
theorem dX4_staysWith_8 : decode cX4_staysWith 8 = .ok (.iload_n 3, 1) := by decide +kernel
theorem dX4_staysWith_9 : decode cX4_staysWith 9 = .ok (.iload_n 2, 1) := by decide +kernel
theorem dX4_staysWith_10 : decode cX4_staysWith 10 = .ok (.invokestatic 281, 3) := by decide +kernel
theorem dX4_staysWith_13 : decode cX4_staysWith 13 = .ok (.iload_n 0, 1) := by decide +kernel
theorem dX4_staysWith_14 : decode cX4_staysWith 14 = .ok (.iload_n 1, 1) := by decide +kernel
theorem dX4_staysWith_15 : decode cX4_staysWith 15 = .ok (.iload_n 2, 1) := by decide +kernel
theorem dX4_staysWith_16 : decode cX4_staysWith 16 = .ok (.invokestatic 281, 3) := by decide +kernel
theorem dX4_staysWith_19 : decode cX4_staysWith 19 = .ok (.if_icmp .ge 5, 3) := by decide +kernel
theorem dX4_staysWith_22 : decode cX4_staysWith 22 = .ok (.iconst 0, 1) := by decide +kernel
theorem dX4_staysWith_23 : decode cX4_staysWith 23 = .ok (.ireturn, 1) := by decide +kernel
theorem dX4_staysWith_24 : decode cX4_staysWith 24 = .ok (.iinc 3 1, 3) := by decide +kernel
theorem dX4_staysWith_27 : decode cX4_staysWith 27 = .ok (.goto (-25), 3) := by decide +kernel
theorem dX4_staysWith_30 : decode cX4_staysWith 30 = .ok (.iconst 1, 1) := by decide +kernel
theorem dX4_staysWith_31 : decode cX4_staysWith 31 = .ok (.ireturn, 1) := by decide +kernel
set_option maxRecDepth 20000 in
theorem ggX4_waysInTime_X2_groundAt : GoodIn wsX4_waysInTime wsX2_groundAt := goodIn_r _ [7, 8, 9, 10, 11, 53, 54, 55, 56] (by decide +kernel) (by decide +kernel)
set_option maxRecDepth 20000 in
theorem gX4_waysInTime_X2_groundAt : GoodIn wsX4_waysInTime (wsV RX4 92 RX2 yX2_groundAt wsX2_groundAt) := goodIn_app (goodIn_of _ (by decide +kernel)) ggX4_waysInTime_X2_groundAt
set_option maxRecDepth 20000 in
theorem ggX4_waysInTime_X4_isIn : GoodIn wsX4_waysInTime wsX4_isIn := goodIn_r _ [14] (by decide +kernel) (by decide +kernel)
set_option maxRecDepth 20000 in
theorem gX4_waysInTime_X4_isIn : GoodIn wsX4_waysInTime (va_wsS RX4 116 yX4_isIn wsX4_isIn) := goodIn_app (goodIn_of _ (by decide +kernel)) ggX4_waysInTime_X4_isIn
set_option maxRecDepth 20000 in
theorem ggX4_waysInTime_X4_stepMinutes : GoodIn wsX4_waysInTime wsX4_stepMinutes := goodIn_r _ [18, 1, 19, 20, 21, 22, 23, 24, 10, 25, 26, 27, 28, 29, 30, 31, 32, 33, 34, 38, 39, 40, 41, 42, 43, 44, 45, 46, 47, 48, 49, 50, 51, 52] (by decide +kernel) (by decide +kernel)
set_option maxRecDepth 20000 in
theorem gX4_waysInTime_X4_stepMinutes : GoodIn wsX4_waysInTime (wsV RX4 252 RX4 yX4_stepMinutes wsX4_stepMinutes) := goodIn_app (goodIn_of _ (by decide +kernel)) ggX4_waysInTime_X4_stepMinutes
set_option maxRecDepth 20000 in
theorem ggX4_waysInTime_X4_placeBehind : GoodIn wsX4_waysInTime wsX4_placeBehind := goodIn_r _ [37] (by decide +kernel) (by decide +kernel)
set_option maxRecDepth 20000 in
theorem gX4_waysInTime_X4_placeBehind : GoodIn wsX4_waysInTime (va_wsS RX4 255 yX4_placeBehind wsX4_placeBehind) := goodIn_app (goodIn_of _ (by decide +kernel)) ggX4_waysInTime_X4_placeBehind
theorem dX4_waysInTime_0 : decode cX4_waysInTime 0 = .ok (.iconst 1, 1) := by decide +kernel
theorem dX4_waysInTime_1 : decode cX4_waysInTime 1 = .ok (.istore 5, 2) := by decide +kernel
theorem dX4_waysInTime_3 : decode cX4_waysInTime 3 = .ok (.iconst 0, 1) := by decide +kernel
theorem dX4_waysInTime_4 : decode cX4_waysInTime 4 = .ok (.istore 6, 2) := by decide +kernel
theorem dX4_waysInTime_6 : decode cX4_waysInTime 6 = .ok (.iconst 0, 1) := by decide +kernel
theorem dX4_waysInTime_7 : decode cX4_waysInTime 7 = .ok (.istore 7, 2) := by decide +kernel
theorem dX4_waysInTime_9 : decode cX4_waysInTime 9 = .ok (.iconst 0, 1) := by decide +kernel
theorem dX4_waysInTime_10 : decode cX4_waysInTime 10 = .ok (.istore 8, 2) := by decide +kernel
theorem dX4_waysInTime_12 : decode cX4_waysInTime 12 = .ok (.iload 8, 2) := by decide +kernel
theorem dX4_waysInTime_14 : decode cX4_waysInTime 14 = .ok (.aload_n 0, 1) := by decide +kernel
theorem dX4_waysInTime_15 : decode cX4_waysInTime 15 = .ok (.getfield 19, 3) := by decide +kernel
theorem dX4_waysInTime_18 : decode cX4_waysInTime 18 = .ok (.getfield 71, 3) := by decide +kernel
theorem dX4_waysInTime_21 : decode cX4_waysInTime 21 = .ok (.if_icmp .ge 102, 3) := by decide +kernel
theorem dX4_waysInTime_24 : decode cX4_waysInTime 24 = .ok (.aload_n 0, 1) := by decide +kernel
theorem dX4_waysInTime_25 : decode cX4_waysInTime 25 = .ok (.getfield 26, 3) := by decide +kernel
theorem dX4_waysInTime_28 : decode cX4_waysInTime 28 = .ok (.iload_n 1, 1) := by decide +kernel
theorem dX4_waysInTime_29 : decode cX4_waysInTime 29 = .ok (.iload 7, 2) := by decide +kernel
theorem dX4_waysInTime_31 : decode cX4_waysInTime 31 = .ok (.invokevirtual 92, 3) := by decide +kernel
theorem dX4_waysInTime_34 : decode cX4_waysInTime 34 = .ok (.istore 9, 2) := by decide +kernel
theorem dX4_waysInTime_36 : decode cX4_waysInTime 36 = .ok (.iload 9, 2) := by decide +kernel
theorem dX4_waysInTime_38 : decode cX4_waysInTime 38 = .ok (.iconst 2, 1) := by decide +kernel
theorem dX4_waysInTime_39 : decode cX4_waysInTime 39 = .ok (.if_icmp .ne 8, 3) := by decide +kernel
theorem dX4_waysInTime_42 : decode cX4_waysInTime 42 = .ok (.bipush 10, 2) := by decide +kernel
theorem dX4_waysInTime_44 : decode cX4_waysInTime 44 = .ok (.goto 5, 3) := by decide +kernel
theorem dX4_waysInTime_47 : decode cX4_waysInTime 47 = .ok (.iload 4, 2) := by decide +kernel
theorem dX4_waysInTime_49 : decode cX4_waysInTime 49 = .ok (.istore 10, 2) := by decide +kernel
theorem dX4_waysInTime_51 : decode cX4_waysInTime 51 = .ok (.iload_n 2, 1) := by decide +kernel
theorem dX4_waysInTime_52 : decode cX4_waysInTime 52 = .ok (.iload 8, 2) := by decide +kernel
theorem dX4_waysInTime_54 : decode cX4_waysInTime 54 = .ok (.invokestatic 116, 3) := by decide +kernel
theorem dX4_waysInTime_57 : decode cX4_waysInTime 57 = .ok (.istore 11, 2) := by decide +kernel
theorem dX4_waysInTime_59 : decode cX4_waysInTime 59 = .ok (.iload 5, 2) := by decide +kernel
theorem dX4_waysInTime_61 : decode cX4_waysInTime 61 = .ok (.iload 11, 2) := by decide +kernel
theorem dX4_waysInTime_63 : decode cX4_waysInTime 63 = .ok (.ifCond .eq 8, 3) := by decide +kernel
theorem dX4_waysInTime_66 : decode cX4_waysInTime 66 = .ok (.iload 10, 2) := by decide +kernel
theorem dX4_waysInTime_68 : decode cX4_waysInTime 68 = .ok (.goto 8, 3) := by decide +kernel
theorem dX4_waysInTime_71 : decode cX4_waysInTime 71 = .ok (.bipush 10, 2) := by decide +kernel
theorem dX4_waysInTime_73 : decode cX4_waysInTime 73 = .ok (.iload 10, 2) := by decide +kernel
theorem dX4_waysInTime_75 : decode cX4_waysInTime 75 = .ok (.isub, 1) := by decide +kernel
theorem dX4_waysInTime_76 : decode cX4_waysInTime 76 = .ok (.imul, 1) := by decide +kernel
theorem dX4_waysInTime_77 : decode cX4_waysInTime 77 = .ok (.istore 5, 2) := by decide +kernel
theorem dX4_waysInTime_79 : decode cX4_waysInTime 79 = .ok (.iload 6, 2) := by decide +kernel
theorem dX4_waysInTime_81 : decode cX4_waysInTime 81 = .ok (.aload_n 0, 1) := by decide +kernel
theorem dX4_waysInTime_82 : decode cX4_waysInTime 82 = .ok (.iload_n 1, 1) := by decide +kernel
theorem dX4_waysInTime_83 : decode cX4_waysInTime 83 = .ok (.iload 9, 2) := by decide +kernel
theorem dX4_waysInTime_85 : decode cX4_waysInTime 85 = .ok (.iload 8, 2) := by decide +kernel
theorem dX4_waysInTime_87 : decode cX4_waysInTime 87 = .ok (.aload_n 0, 1) := by decide +kernel
theorem dX4_waysInTime_88 : decode cX4_waysInTime 88 = .ok (.getfield 26, 3) := by decide +kernel
theorem dX4_waysInTime_91 : decode cX4_waysInTime 91 = .ok (.getfield 100, 3) := by decide +kernel
theorem dX4_waysInTime_94 : decode cX4_waysInTime 94 = .ok (.invokevirtual 252, 3) := by decide +kernel
theorem dX4_waysInTime_97 : decode cX4_waysInTime 97 = .ok (.iadd, 1) := by decide +kernel
theorem dX4_waysInTime_98 : decode cX4_waysInTime 98 = .ok (.istore 6, 2) := by decide +kernel
theorem dX4_waysInTime_100 : decode cX4_waysInTime 100 = .ok (.iload 7, 2) := by decide +kernel
theorem dX4_waysInTime_102 : decode cX4_waysInTime 102 = .ok (.iload 11, 2) := by decide +kernel
theorem dX4_waysInTime_104 : decode cX4_waysInTime 104 = .ok (.ifCond .eq 7, 3) := by decide +kernel
theorem dX4_waysInTime_107 : decode cX4_waysInTime 107 = .ok (.iconst 2, 1) := by decide +kernel
theorem dX4_waysInTime_108 : decode cX4_waysInTime 108 = .ok (.goto 4, 3) := by decide +kernel
theorem dX4_waysInTime_111 : decode cX4_waysInTime 111 = .ok (.iconst 0, 1) := by decide +kernel
theorem dX4_waysInTime_112 : decode cX4_waysInTime 112 = .ok (.invokestatic 255, 3) := by decide +kernel
theorem dX4_waysInTime_115 : decode cX4_waysInTime 115 = .ok (.istore 7, 2) := by decide +kernel
theorem dX4_waysInTime_117 : decode cX4_waysInTime 117 = .ok (.iinc 8 1, 3) := by decide +kernel
theorem dX4_waysInTime_120 : decode cX4_waysInTime 120 = .ok (.goto (-108), 3) := by decide +kernel
theorem dX4_waysInTime_123 : decode cX4_waysInTime 123 = .ok (.iload 6, 2) := by decide +kernel
theorem dX4_waysInTime_125 : decode cX4_waysInTime 125 = .ok (.iload_n 3, 1) := by decide +kernel
theorem dX4_waysInTime_126 : decode cX4_waysInTime 126 = .ok (.if_icmp .gt 8, 3) := by decide +kernel
theorem dX4_waysInTime_129 : decode cX4_waysInTime 129 = .ok (.iload 5, 2) := by decide +kernel
theorem dX4_waysInTime_131 : decode cX4_waysInTime 131 = .ok (.goto 4, 3) := by decide +kernel
theorem dX4_waysInTime_134 : decode cX4_waysInTime 134 = .ok (.iconst 0, 1) := by decide +kernel
theorem dX4_waysInTime_135 : decode cX4_waysInTime 135 = .ok (.ireturn, 1) := by decide +kernel
set_option maxRecDepth 20000 in
theorem ggX4_legAll_X4_soonestLegs : GoodIn wsX4_legAll wsX4_soonestLegs := goodIn_r _ [9, 4, 1, 2, 10, 11, 12, 13, 14, 15, 16, 17, 18, 19, 8, 20, 3, 21, 22, 23, 24, 25, 26, 27, 28, 29, 30, 31, 32, 33, 34, 35, 36, 37, 38, 39, 40, 41, 42, 43, 44, 45, 46, 47, 48, 49, 50, 51, 52, 53, 54, 55, 56, 57, 58, 59, 60, 61, 62, 63, 64, 65, 66, 67, 68, 69, 70, 71, 72, 73, 74, 75, 76, 77, 78, 79, 80, 81, 82, 83, 84, 85, 86, 87, 88, 89, 90, 91, 92, 93, 94, 95, 96, 97, 98] (by decide +kernel) (by decide +kernel)
set_option maxRecDepth 20000 in
theorem gX4_legAll_X4_soonestLegs : GoodIn wsX4_legAll (wsV RX4 156 RX4 yX4_soonestLegs wsX4_soonestLegs) := goodIn_app (goodIn_of _ (by decide +kernel)) ggX4_legAll_X4_soonestLegs
set_option maxRecDepth 20000 in
theorem ggX4_legAll_X4_tireBoth : GoodIn wsX4_legAll wsX4_tireBoth := goodIn_r _ [76, 77, 78, 8, 79, 63, 64, 65] (by decide +kernel) (by decide +kernel)
set_option maxRecDepth 20000 in
theorem gX4_legAll_X4_tireBoth : GoodIn wsX4_legAll (va_wsS RX4 128 yX4_tireBoth wsX4_tireBoth) := goodIn_app (goodIn_of _ (by decide +kernel)) ggX4_legAll_X4_tireBoth
theorem dX4_legAll_0 : decode cX4_legAll 0 = .ok (.aload_n 0, 1) := by decide +kernel
theorem dX4_legAll_1 : decode cX4_legAll 1 = .ok (.getfield 26, 3) := by decide +kernel
theorem dX4_legAll_4 : decode cX4_legAll 4 = .ok (.iconst 0, 1) := by decide +kernel
theorem dX4_legAll_5 : decode cX4_legAll 5 = .ok (.putfield 74, 3) := by decide +kernel
theorem dX4_legAll_8 : decode cX4_legAll 8 = .ok (.aload_n 0, 1) := by decide +kernel
theorem dX4_legAll_9 : decode cX4_legAll 9 = .ok (.invokevirtual 156, 3) := by decide +kernel
theorem dX4_legAll_12 : decode cX4_legAll 12 = .ok (.lstore_n 1, 1) := by decide +kernel
theorem dX4_legAll_13 : decode cX4_legAll 13 = .ok (.lload_n 1, 1) := by decide +kernel
theorem dX4_legAll_14 : decode cX4_legAll 14 = .ok (.ldc2_w 160, 3) := by decide +kernel
theorem dX4_legAll_17 : decode cX4_legAll 17 = .ok (.lcmp, 1) := by decide +kernel
theorem dX4_legAll_18 : decode cX4_legAll 18 = .ok (.ifCond .ne 4, 3) := by decide +kernel
theorem dX4_legAll_21 : decode cX4_legAll 21 = .ok (.return_, 1) := by decide +kernel
theorem dX4_legAll_22 : decode cX4_legAll 22 = .ok (.lload_n 1, 1) := by decide +kernel
theorem dX4_legAll_23 : decode cX4_legAll 23 = .ok (.ldc2_w 162, 3) := by decide +kernel
theorem dX4_legAll_26 : decode cX4_legAll 26 = .ok (.lrem, 1) := by decide +kernel
theorem dX4_legAll_27 : decode cX4_legAll 27 = .ok (.l2i, 1) := by decide +kernel
theorem dX4_legAll_28 : decode cX4_legAll 28 = .ok (.istore_n 3, 1) := by decide +kernel
theorem dX4_legAll_29 : decode cX4_legAll 29 = .ok (.iconst 0, 1) := by decide +kernel
theorem dX4_legAll_30 : decode cX4_legAll 30 = .ok (.istore 4, 2) := by decide +kernel
theorem dX4_legAll_32 : decode cX4_legAll 32 = .ok (.iload 4, 2) := by decide +kernel
theorem dX4_legAll_34 : decode cX4_legAll 34 = .ok (.aload_n 0, 1) := by decide +kernel
theorem dX4_legAll_35 : decode cX4_legAll 35 = .ok (.getfield 19, 3) := by decide +kernel
theorem dX4_legAll_38 : decode cX4_legAll 38 = .ok (.getfield 68, 3) := by decide +kernel
theorem dX4_legAll_41 : decode cX4_legAll 41 = .ok (.if_icmp .ge 43, 3) := by decide +kernel
theorem dX4_legAll_44 : decode cX4_legAll 44 = .ok (.aload_n 0, 1) := by decide +kernel
theorem dX4_legAll_45 : decode cX4_legAll 45 = .ok (.getfield 26, 3) := by decide +kernel
theorem dX4_legAll_48 : decode cX4_legAll 48 = .ok (.aload_n 0, 1) := by decide +kernel
theorem dX4_legAll_49 : decode cX4_legAll 49 = .ok (.getfield 26, 3) := by decide +kernel
theorem dX4_legAll_52 : decode cX4_legAll 52 = .ok (.getfield 100, 3) := by decide +kernel
theorem dX4_legAll_55 : decode cX4_legAll 55 = .ok (.iload_n 3, 1) := by decide +kernel
theorem dX4_legAll_56 : decode cX4_legAll 56 = .ok (.bipush 10, 2) := by decide +kernel
theorem dX4_legAll_58 : decode cX4_legAll 58 = .ok (.idiv, 1) := by decide +kernel
theorem dX4_legAll_59 : decode cX4_legAll 59 = .ok (.bipush 10, 2) := by decide +kernel
theorem dX4_legAll_61 : decode cX4_legAll 61 = .ok (.irem, 1) := by decide +kernel
theorem dX4_legAll_62 : decode cX4_legAll 62 = .ok (.iload_n 3, 1) := by decide +kernel
theorem dX4_legAll_63 : decode cX4_legAll 63 = .ok (.bipush 10, 2) := by decide +kernel
theorem dX4_legAll_65 : decode cX4_legAll 65 = .ok (.irem, 1) := by decide +kernel
theorem dX4_legAll_66 : decode cX4_legAll 66 = .ok (.invokestatic 128, 3) := by decide +kernel
theorem dX4_legAll_69 : decode cX4_legAll 69 = .ok (.putfield 100, 3) := by decide +kernel
theorem dX4_legAll_72 : decode cX4_legAll 72 = .ok (.iload_n 3, 1) := by decide +kernel
theorem dX4_legAll_73 : decode cX4_legAll 73 = .ok (.sipush 1000, 3) := by decide +kernel
theorem dX4_legAll_76 : decode cX4_legAll 76 = .ok (.idiv, 1) := by decide +kernel
theorem dX4_legAll_77 : decode cX4_legAll 77 = .ok (.istore_n 3, 1) := by decide +kernel
theorem dX4_legAll_78 : decode cX4_legAll 78 = .ok (.iinc 4 1, 3) := by decide +kernel
theorem dX4_legAll_81 : decode cX4_legAll 81 = .ok (.goto (-49), 3) := by decide +kernel
theorem dX4_legAll_84 : decode cX4_legAll 84 = .ok (.aload_n 0, 1) := by decide +kernel
theorem dX4_legAll_85 : decode cX4_legAll 85 = .ok (.getfield 26, 3) := by decide +kernel
theorem dX4_legAll_88 : decode cX4_legAll 88 = .ok (.dup, 1) := by decide +kernel
theorem dX4_legAll_89 : decode cX4_legAll 89 = .ok (.getfield 77, 3) := by decide +kernel
theorem dX4_legAll_92 : decode cX4_legAll 92 = .ok (.lload_n 1, 1) := by decide +kernel
theorem dX4_legAll_93 : decode cX4_legAll 93 = .ok (.ldc2_w 162, 3) := by decide +kernel
theorem dX4_legAll_96 : decode cX4_legAll 96 = .ok (.ldiv, 1) := by decide +kernel
theorem dX4_legAll_97 : decode cX4_legAll 97 = .ok (.l2i, 1) := by decide +kernel
theorem dX4_legAll_98 : decode cX4_legAll 98 = .ok (.iadd, 1) := by decide +kernel
theorem dX4_legAll_99 : decode cX4_legAll 99 = .ok (.putfield 77, 3) := by decide +kernel
theorem dX4_legAll_102 : decode cX4_legAll 102 = .ok (.return_, 1) := by decide +kernel
theorem dX5_init_0 : decode cX5_init 0 = .ok (.aload_n 0, 1) := by decide +kernel
theorem dX5_init_1 : decode cX5_init 1 = .ok (.invokespecial 1, 3) := by decide +kernel
theorem dX5_init_4 : decode cX5_init 4 = .ok (.aload_n 0, 1) := by decide +kernel
theorem dX5_init_5 : decode cX5_init 5 = .ok (.bipush 40, 2) := by decide +kernel
theorem dX5_init_7 : decode cX5_init 7 = .ok (.newarray .int, 2) := by decide +kernel
theorem dX5_init_9 : decode cX5_init 9 = .ok (.putfield 7, 3) := by decide +kernel
theorem dX5_init_12 : decode cX5_init 12 = .ok (.aload_n 0, 1) := by decide +kernel
theorem dX5_init_13 : decode cX5_init 13 = .ok (.iconst 1, 1) := by decide +kernel
theorem dX5_init_14 : decode cX5_init 14 = .ok (.putfield 13, 3) := by decide +kernel
theorem dX5_init_17 : decode cX5_init 17 = .ok (.aload_n 0, 1) := by decide +kernel
theorem dX5_init_18 : decode cX5_init 18 = .ok (.iconst 4, 1) := by decide +kernel
theorem dX5_init_19 : decode cX5_init 19 = .ok (.newarray .int, 2) := by decide +kernel
theorem dX5_init_21 : decode cX5_init 21 = .ok (.putfield 17, 3) := by decide +kernel
theorem dX5_init_24 : decode cX5_init 24 = .ok (.aload_n 0, 1) := by decide +kernel
theorem dX5_init_25 : decode cX5_init 25 = .ok (.iconst 3, 1) := by decide +kernel
theorem dX5_init_26 : decode cX5_init 26 = .ok (.newarray .int, 2) := by decide +kernel
theorem dX5_init_28 : decode cX5_init 28 = .ok (.putfield 20, 3) := by decide +kernel
theorem dX5_init_31 : decode cX5_init 31 = .ok (.aload_n 0, 1) := by decide +kernel
theorem dX5_init_32 : decode cX5_init 32 = .ok (.bipush 20, 2) := by decide +kernel
theorem dX5_init_34 : decode cX5_init 34 = .ok (.newarray .int, 2) := by decide +kernel
theorem dX5_init_36 : decode cX5_init 36 = .ok (.putfield 23, 3) := by decide +kernel
theorem dX5_init_39 : decode cX5_init 39 = .ok (.aload_n 0, 1) := by decide +kernel
theorem dX5_init_40 : decode cX5_init 40 = .ok (.iconst 3, 1) := by decide +kernel
theorem dX5_init_41 : decode cX5_init 41 = .ok (.newarray .int, 2) := by decide +kernel
theorem dX5_init_43 : decode cX5_init 43 = .ok (.putfield 26, 3) := by decide +kernel
theorem dX5_init_46 : decode cX5_init 46 = .ok (.aload_n 0, 1) := by decide +kernel
theorem dX5_init_47 : decode cX5_init 47 = .ok (.bipush 22, 2) := by decide +kernel
theorem dX5_init_49 : decode cX5_init 49 = .ok (.newarray .int, 2) := by decide +kernel
theorem dX5_init_51 : decode cX5_init 51 = .ok (.putfield 29, 3) := by decide +kernel
theorem dX5_init_54 : decode cX5_init 54 = .ok (.aload_n 0, 1) := by decide +kernel
theorem dX5_init_55 : decode cX5_init 55 = .ok (.bipush 22, 2) := by decide +kernel
theorem dX5_init_57 : decode cX5_init 57 = .ok (.newarray .int, 2) := by decide +kernel
theorem dX5_init_59 : decode cX5_init 59 = .ok (.putfield 32, 3) := by decide +kernel
theorem dX5_init_62 : decode cX5_init 62 = .ok (.aload_n 0, 1) := by decide +kernel
theorem dX5_init_63 : decode cX5_init 63 = .ok (.bipush 22, 2) := by decide +kernel
theorem dX5_init_65 : decode cX5_init 65 = .ok (.newarray .int, 2) := by decide +kernel
theorem dX5_init_67 : decode cX5_init 67 = .ok (.putfield 35, 3) := by decide +kernel
theorem dX5_init_70 : decode cX5_init 70 = .ok (.aload_n 0, 1) := by decide +kernel
theorem dX5_init_71 : decode cX5_init 71 = .ok (.sipush 308, 3) := by decide +kernel
theorem dX5_init_74 : decode cX5_init 74 = .ok (.newarray .int, 2) := by decide +kernel
theorem dX5_init_76 : decode cX5_init 76 = .ok (.putfield 38, 3) := by decide +kernel
theorem dX5_init_79 : decode cX5_init 79 = .ok (.aload_n 0, 1) := by decide +kernel
theorem dX5_init_80 : decode cX5_init 80 = .ok (.bipush 44, 2) := by decide +kernel
theorem dX5_init_82 : decode cX5_init 82 = .ok (.newarray .int, 2) := by decide +kernel
theorem dX5_init_84 : decode cX5_init 84 = .ok (.putfield 41, 3) := by decide +kernel
theorem dX5_init_87 : decode cX5_init 87 = .ok (.aload_n 0, 1) := by decide +kernel
theorem dX5_init_88 : decode cX5_init 88 = .ok (.iconst 2, 1) := by decide +kernel
theorem dX5_init_89 : decode cX5_init 89 = .ok (.newarray .boolean, 2) := by decide +kernel
theorem dX5_init_91 : decode cX5_init 91 = .ok (.putfield 44, 3) := by decide +kernel
theorem dX5_init_94 : decode cX5_init 94 = .ok (.aload_n 0, 1) := by decide +kernel
theorem dX5_init_95 : decode cX5_init 95 = .ok (.bipush 6, 2) := by decide +kernel
theorem dX5_init_97 : decode cX5_init 97 = .ok (.newarray .int, 2) := by decide +kernel
theorem dX5_init_99 : decode cX5_init 99 = .ok (.putfield 48, 3) := by decide +kernel
theorem dX5_init_102 : decode cX5_init 102 = .ok (.aload_n 0, 1) := by decide +kernel
theorem dX5_init_103 : decode cX5_init 103 = .ok (.bipush 6, 2) := by decide +kernel
theorem dX5_init_105 : decode cX5_init 105 = .ok (.newarray .int, 2) := by decide +kernel
theorem dX5_init_107 : decode cX5_init 107 = .ok (.putfield 51, 3) := by decide +kernel
theorem dX5_init_110 : decode cX5_init 110 = .ok (.aload_n 0, 1) := by decide +kernel
theorem dX5_init_111 : decode cX5_init 111 = .ok (.bipush 16, 2) := by decide +kernel
theorem dX5_init_113 : decode cX5_init 113 = .ok (.newarray .int, 2) := by decide +kernel
theorem dX5_init_115 : decode cX5_init 115 = .ok (.putfield 54, 3) := by decide +kernel
theorem dX5_init_118 : decode cX5_init 118 = .ok (.aload_n 0, 1) := by decide +kernel
theorem dX5_init_119 : decode cX5_init 119 = .ok (.bipush 6, 2) := by decide +kernel
theorem dX5_init_121 : decode cX5_init 121 = .ok (.newarray .int, 2) := by decide +kernel
theorem dX5_init_123 : decode cX5_init 123 = .ok (.putfield 57, 3) := by decide +kernel
theorem dX5_init_126 : decode cX5_init 126 = .ok (.aload_n 0, 1) := by decide +kernel
theorem dX5_init_127 : decode cX5_init 127 = .ok (.bipush 6, 2) := by decide +kernel
theorem dX5_init_129 : decode cX5_init 129 = .ok (.newarray .int, 2) := by decide +kernel
theorem dX5_init_131 : decode cX5_init 131 = .ok (.putfield 60, 3) := by decide +kernel
theorem dX5_init_134 : decode cX5_init 134 = .ok (.return_, 1) := by decide +kernel
theorem dX5_in_0 : decode cX5_in 0 = .ok (.lload_n 0, 1) := by decide +kernel
theorem dX5_in_1 : decode cX5_in 1 = .ok (.lload_n 2, 1) := by decide +kernel
theorem dX5_in_2 : decode cX5_in 2 = .ok (.lcmp, 1) := by decide +kernel
theorem dX5_in_3 : decode cX5_in 3 = .ok (.ifCond .lt 14, 3) := by decide +kernel
theorem dX5_in_6 : decode cX5_in 6 = .ok (.lload_n 0, 1) := by decide +kernel
theorem dX5_in_7 : decode cX5_in 7 = .ok (.lload 4, 2) := by decide +kernel
theorem dX5_in_9 : decode cX5_in 9 = .ok (.lcmp, 1) := by decide +kernel
theorem dX5_in_10 : decode cX5_in 10 = .ok (.ifCond .gt 7, 3) := by decide +kernel
theorem dX5_in_13 : decode cX5_in 13 = .ok (.iconst 1, 1) := by decide +kernel
theorem dX5_in_14 : decode cX5_in 14 = .ok (.goto 4, 3) := by decide +kernel
theorem dX5_in_17 : decode cX5_in 17 = .ok (.iconst 0, 1) := by decide +kernel
theorem dX5_in_18 : decode cX5_in 18 = .ok (.ireturn, 1) := by decide +kernel
theorem dX5_has_0 : decode cX5_has 0 = .ok (.iload_n 0, 1) := by decide +kernel
theorem dX5_has_1 : decode cX5_has 1 = .ok (.iload_n 1, 1) := by decide +kernel
theorem dX5_has_2 : decode cX5_has 2 = .ok (.ishr, 1) := by decide +kernel
theorem dX5_has_3 : decode cX5_has 3 = .ok (.iconst 1, 1) := by decide +kernel
theorem dX5_has_4 : decode cX5_has 4 = .ok (.iand, 1) := by decide +kernel
theorem dX5_has_5 : decode cX5_has 5 = .ok (.iconst 1, 1) := by decide +kernel
theorem dX5_has_6 : decode cX5_has 6 = .ok (.if_icmp .ne 7, 3) := by decide +kernel
theorem dX5_has_9 : decode cX5_has 9 = .ok (.iconst 1, 1) := by decide +kernel
theorem dX5_has_10 : decode cX5_has 10 = .ok (.goto 4, 3) := by decide +kernel
theorem dX5_has_13 : decode cX5_has 13 = .ok (.iconst 0, 1) := by decide +kernel
theorem dX5_has_14 : decode cX5_has 14 = .ok (.ireturn, 1) := by decide +kernel
theorem dX5_many_0 : decode cX5_many 0 = .ok (.iconst 0, 1) := by decide +kernel
theorem dX5_many_1 : decode cX5_many 1 = .ok (.istore_n 1, 1) := by decide +kernel
theorem dX5_many_2 : decode cX5_many 2 = .ok (.iconst 0, 1) := by decide +kernel
theorem dX5_many_3 : decode cX5_many 3 = .ok (.istore_n 2, 1) := by decide +kernel
theorem dX5_many_4 : decode cX5_many 4 = .ok (.iload_n 2, 1) := by decide +kernel
theorem dX5_many_5 : decode cX5_many 5 = .ok (.bipush 8, 2) := by decide +kernel
theorem dX5_many_7 : decode cX5_many 7 = .ok (.if_icmp .ge 17, 3) := by decide +kernel
theorem dX5_many_10 : decode cX5_many 10 = .ok (.iload_n 1, 1) := by decide +kernel
theorem dX5_many_11 : decode cX5_many 11 = .ok (.iload_n 0, 1) := by decide +kernel
theorem dX5_many_12 : decode cX5_many 12 = .ok (.iload_n 2, 1) := by decide +kernel
theorem dX5_many_13 : decode cX5_many 13 = .ok (.ishr, 1) := by decide +kernel
theorem dX5_many_14 : decode cX5_many 14 = .ok (.iconst 1, 1) := by decide +kernel
theorem dX5_many_15 : decode cX5_many 15 = .ok (.iand, 1) := by decide +kernel
theorem dX5_many_16 : decode cX5_many 16 = .ok (.iadd, 1) := by decide +kernel
theorem dX5_many_17 : decode cX5_many 17 = .ok (.istore_n 1, 1) := by decide +kernel
theorem dX5_many_18 : decode cX5_many 18 = .ok (.iinc 2 1, 3) := by decide +kernel
theorem dX5_many_21 : decode cX5_many 21 = .ok (.goto (-17), 3) := by decide +kernel
theorem dX5_many_24 : decode cX5_many 24 = .ok (.iload_n 1, 1) := by decide +kernel
theorem dX5_many_25 : decode cX5_many 25 = .ok (.ireturn, 1) := by decide +kernel
set_option maxRecDepth 20000 in
theorem ggX5_noLegger_X5_in : GoodIn wsX5_noLegger wsX5_in := goodIn_r _ [5] (by decide +kernel) (by decide +kernel)
set_option maxRecDepth 20000 in
theorem gX5_noLegger_X5_in : GoodIn wsX5_noLegger (va_wsS RX5 69 yX5_in wsX5_in) := goodIn_app (goodIn_of _ (by decide +kernel)) ggX5_noLegger_X5_in
theorem dX5_noLegger_0 : decode cX5_noLegger 0 = .ok (.iload_n 1, 1) := by decide +kernel
theorem dX5_noLegger_1 : decode cX5_noLegger 1 = .ok (.i2l, 1) := by decide +kernel
theorem dX5_noLegger_2 : decode cX5_noLegger 2 = .ok (.lconst 0, 1) := by decide +kernel
theorem dX5_noLegger_3 : decode cX5_noLegger 3 = .ok (.aload_n 0, 1) := by decide +kernel
theorem dX5_noLegger_4 : decode cX5_noLegger 4 = .ok (.getfield 66, 3) := by decide +kernel
theorem dX5_noLegger_7 : decode cX5_noLegger 7 = .ok (.iconst 1, 1) := by decide +kernel
theorem dX5_noLegger_8 : decode cX5_noLegger 8 = .ok (.isub, 1) := by decide +kernel
theorem dX5_noLegger_9 : decode cX5_noLegger 9 = .ok (.i2l, 1) := by decide +kernel
theorem dX5_noLegger_10 : decode cX5_noLegger 10 = .ok (.invokestatic 69, 3) := by decide +kernel
theorem dX5_noLegger_13 : decode cX5_noLegger 13 = .ok (.ifCond .ne 7, 3) := by decide +kernel
theorem dX5_noLegger_16 : decode cX5_noLegger 16 = .ok (.iconst 1, 1) := by decide +kernel
theorem dX5_noLegger_17 : decode cX5_noLegger 17 = .ok (.goto 4, 3) := by decide +kernel
theorem dX5_noLegger_20 : decode cX5_noLegger 20 = .ok (.iconst 0, 1) := by decide +kernel
theorem dX5_noLegger_21 : decode cX5_noLegger 21 = .ok (.ireturn, 1) := by decide +kernel
set_option maxRecDepth 20000 in
theorem ggX5_noBoat_X5_in : GoodIn wsX5_noBoat wsX5_in := goodIn_r _ [5] (by decide +kernel) (by decide +kernel)
set_option maxRecDepth 20000 in
theorem gX5_noBoat_X5_in : GoodIn wsX5_noBoat (va_wsS RX5 69 yX5_in wsX5_in) := goodIn_app (goodIn_of _ (by decide +kernel)) ggX5_noBoat_X5_in
theorem dX5_noBoat_0 : decode cX5_noBoat 0 = .ok (.iload_n 1, 1) := by decide +kernel
theorem dX5_noBoat_1 : decode cX5_noBoat 1 = .ok (.i2l, 1) := by decide +kernel
theorem dX5_noBoat_2 : decode cX5_noBoat 2 = .ok (.lconst 0, 1) := by decide +kernel
theorem dX5_noBoat_3 : decode cX5_noBoat 3 = .ok (.aload_n 0, 1) := by decide +kernel
theorem dX5_noBoat_4 : decode cX5_noBoat 4 = .ok (.getfield 73, 3) := by decide +kernel
theorem dX5_noBoat_7 : decode cX5_noBoat 7 = .ok (.iconst 1, 1) := by decide +kernel
theorem dX5_noBoat_8 : decode cX5_noBoat 8 = .ok (.isub, 1) := by decide +kernel
theorem dX5_noBoat_9 : decode cX5_noBoat 9 = .ok (.i2l, 1) := by decide +kernel
theorem dX5_noBoat_10 : decode cX5_noBoat 10 = .ok (.invokestatic 69, 3) := by decide +kernel
theorem dX5_noBoat_13 : decode cX5_noBoat 13 = .ok (.ifCond .ne 7, 3) := by decide +kernel
theorem dX5_noBoat_16 : decode cX5_noBoat 16 = .ok (.iconst 1, 1) := by decide +kernel
theorem dX5_noBoat_17 : decode cX5_noBoat 17 = .ok (.goto 4, 3) := by decide +kernel
theorem dX5_noBoat_20 : decode cX5_noBoat 20 = .ok (.iconst 0, 1) := by decide +kernel
theorem dX5_noBoat_21 : decode cX5_noBoat 21 = .ok (.ireturn, 1) := by decide +kernel
set_option maxRecDepth 20000 in
theorem ggX5_write_X5_in : GoodIn wsX5_write wsX5_in := goodIn_r _ [8] (by decide +kernel) (by decide +kernel)
set_option maxRecDepth 20000 in
theorem gX5_write_X5_in : GoodIn wsX5_write (va_wsS RX5 69 yX5_in wsX5_in) := goodIn_app (goodIn_of _ (by decide +kernel)) ggX5_write_X5_in
theorem dX5_write_0 : decode cX5_write 0 = .ok (.aload_n 0, 1) := by decide +kernel
theorem dX5_write_1 : decode cX5_write 1 = .ok (.iconst 0, 1) := by decide +kernel
theorem dX5_write_2 : decode cX5_write 2 = .ok (.putfield 63, 3) := by decide +kernel
theorem dX5_write_5 : decode cX5_write 5 = .ok (.iload_n 1, 1) := by decide +kernel
theorem dX5_write_6 : decode cX5_write 6 = .ok (.i2l, 1) := by decide +kernel
theorem dX5_write_7 : decode cX5_write 7 = .ok (.lconst 0, 1) := by decide +kernel
theorem dX5_write_8 : decode cX5_write 8 = .ok (.ldc2_w 76, 3) := by decide +kernel
theorem dX5_write_11 : decode cX5_write 11 = .ok (.invokestatic 69, 3) := by decide +kernel
theorem dX5_write_14 : decode cX5_write 14 = .ok (.ifCond .ne 6, 3) := by decide +kernel
theorem dX5_write_17 : decode cX5_write 17 = .ok (.bipush (-2), 2) := by decide +kernel
theorem dX5_write_19 : decode cX5_write 19 = .ok (.ireturn, 1) := by decide +kernel
theorem dX5_write_20 : decode cX5_write 20 = .ok (.aload_n 0, 1) := by decide +kernel
theorem dX5_write_21 : decode cX5_write 21 = .ok (.getfield 78, 3) := by decide +kernel
theorem dX5_write_24 : decode cX5_write 24 = .ok (.bipush 40, 2) := by decide +kernel
theorem dX5_write_26 : decode cX5_write 26 = .ok (.if_icmp .ne 6, 3) := by decide +kernel
theorem dX5_write_29 : decode cX5_write 29 = .ok (.bipush (-4), 2) := by decide +kernel
theorem dX5_write_31 : decode cX5_write 31 = .ok (.ireturn, 1) := by decide +kernel
theorem dX5_write_32 : decode cX5_write 32 = .ok (.aload_n 0, 1) := by decide +kernel
theorem dX5_write_33 : decode cX5_write 33 = .ok (.getfield 7, 3) := by decide +kernel
theorem dX5_write_36 : decode cX5_write 36 = .ok (.aload_n 0, 1) := by decide +kernel
theorem dX5_write_37 : decode cX5_write 37 = .ok (.getfield 78, 3) := by decide +kernel
theorem dX5_write_40 : decode cX5_write 40 = .ok (.iload_n 1, 1) := by decide +kernel
theorem dX5_write_41 : decode cX5_write 41 = .ok (.iastore, 1) := by decide +kernel
theorem dX5_write_42 : decode cX5_write 42 = .ok (.aload_n 0, 1) := by decide +kernel
theorem dX5_write_43 : decode cX5_write 43 = .ok (.dup, 1) := by decide +kernel
theorem dX5_write_44 : decode cX5_write 44 = .ok (.getfield 78, 3) := by decide +kernel
theorem dX5_write_47 : decode cX5_write 47 = .ok (.iconst 1, 1) := by decide +kernel
theorem dX5_write_48 : decode cX5_write 48 = .ok (.iadd, 1) := by decide +kernel
theorem dX5_write_49 : decode cX5_write 49 = .ok (.putfield 78, 3) := by decide +kernel
theorem dX5_write_52 : decode cX5_write 52 = .ok (.aload_n 0, 1) := by decide +kernel
theorem dX5_write_53 : decode cX5_write 53 = .ok (.getfield 78, 3) := by decide +kernel
theorem dX5_write_56 : decode cX5_write 56 = .ok (.ireturn, 1) := by decide +kernel
theorem dX5_wipe_0 : decode cX5_wipe 0 = .ok (.aload_n 0, 1) := by decide +kernel
theorem dX5_wipe_1 : decode cX5_wipe 1 = .ok (.iconst 0, 1) := by decide +kernel
theorem dX5_wipe_2 : decode cX5_wipe 2 = .ok (.putfield 63, 3) := by decide +kernel
theorem dX5_wipe_5 : decode cX5_wipe 5 = .ok (.aload_n 0, 1) := by decide +kernel
theorem dX5_wipe_6 : decode cX5_wipe 6 = .ok (.getfield 78, 3) := by decide +kernel
theorem dX5_wipe_9 : decode cX5_wipe 9 = .ok (.istore_n 1, 1) := by decide +kernel
theorem dX5_wipe_10 : decode cX5_wipe 10 = .ok (.aload_n 0, 1) := by decide +kernel
theorem dX5_wipe_11 : decode cX5_wipe 11 = .ok (.iconst 0, 1) := by decide +kernel
theorem dX5_wipe_12 : decode cX5_wipe 12 = .ok (.putfield 78, 3) := by decide +kernel
theorem dX5_wipe_15 : decode cX5_wipe 15 = .ok (.iload_n 1, 1) := by decide +kernel
theorem dX5_wipe_16 : decode cX5_wipe 16 = .ok (.ireturn, 1) := by decide +kernel
set_option maxRecDepth 20000 in
theorem ggX5_figure_X5_in : GoodIn wsX5_figure wsX5_in := goodIn_r _ [7] (by decide +kernel) (by decide +kernel)
set_option maxRecDepth 20000 in
theorem gX5_figure_X5_in : GoodIn wsX5_figure (va_wsS RX5 69 yX5_in wsX5_in) := goodIn_app (goodIn_of _ (by decide +kernel)) ggX5_figure_X5_in
theorem dX5_figure_0 : decode cX5_figure 0 = .ok (.aload_n 0, 1) := by decide +kernel
theorem dX5_figure_1 : decode cX5_figure 1 = .ok (.getfield 81, 3) := by decide +kernel
theorem dX5_figure_4 : decode cX5_figure 4 = .ok (.aload_n 0, 1) := by decide +kernel
theorem dX5_figure_5 : decode cX5_figure 5 = .ok (.getfield 78, 3) := by decide +kernel
theorem dX5_figure_8 : decode cX5_figure 8 = .ok (.if_icmp .eq 26, 3) := by decide +kernel
theorem dX5_figure_11 : decode cX5_figure 11 = .ok (.aload_n 0, 1) := by decide +kernel
theorem dX5_figure_12 : decode cX5_figure 12 = .ok (.getfield 7, 3) := by decide +kernel
theorem dX5_figure_15 : decode cX5_figure 15 = .ok (.aload_n 0, 1) := by decide +kernel
theorem dX5_figure_16 : decode cX5_figure 16 = .ok (.getfield 81, 3) := by decide +kernel
theorem dX5_figure_19 : decode cX5_figure 19 = .ok (.iaload, 1) := by decide +kernel
theorem dX5_figure_20 : decode cX5_figure 20 = .ok (.bipush 48, 2) := by decide +kernel
theorem dX5_figure_22 : decode cX5_figure 22 = .ok (.isub, 1) := by decide +kernel
theorem dX5_figure_23 : decode cX5_figure 23 = .ok (.i2l, 1) := by decide +kernel
theorem dX5_figure_24 : decode cX5_figure 24 = .ok (.iload_n 1, 1) := by decide +kernel
theorem dX5_figure_25 : decode cX5_figure 25 = .ok (.i2l, 1) := by decide +kernel
theorem dX5_figure_26 : decode cX5_figure 26 = .ok (.iload_n 2, 1) := by decide +kernel
theorem dX5_figure_27 : decode cX5_figure 27 = .ok (.i2l, 1) := by decide +kernel
theorem dX5_figure_28 : decode cX5_figure 28 = .ok (.invokestatic 69, 3) := by decide +kernel
theorem dX5_figure_31 : decode cX5_figure 31 = .ok (.ifCond .ne 6, 3) := by decide +kernel
theorem dX5_figure_34 : decode cX5_figure 34 = .ok (.bipush (-9), 2) := by decide +kernel
theorem dX5_figure_36 : decode cX5_figure 36 = .ok (.ireturn, 1) := by decide +kernel
theorem dX5_figure_37 : decode cX5_figure 37 = .ok (.aload_n 0, 1) := by decide +kernel
theorem dX5_figure_38 : decode cX5_figure 38 = .ok (.dup, 1) := by decide +kernel
theorem dX5_figure_39 : decode cX5_figure 39 = .ok (.getfield 81, 3) := by decide +kernel
theorem dX5_figure_42 : decode cX5_figure 42 = .ok (.iconst 1, 1) := by decide +kernel
theorem dX5_figure_43 : decode cX5_figure 43 = .ok (.iadd, 1) := by decide +kernel
theorem dX5_figure_44 : decode cX5_figure 44 = .ok (.putfield 81, 3) := by decide +kernel
theorem dX5_figure_47 : decode cX5_figure 47 = .ok (.aload_n 0, 1) := by decide +kernel
theorem dX5_figure_48 : decode cX5_figure 48 = .ok (.getfield 7, 3) := by decide +kernel
theorem dX5_figure_51 : decode cX5_figure 51 = .ok (.aload_n 0, 1) := by decide +kernel
theorem dX5_figure_52 : decode cX5_figure 52 = .ok (.getfield 81, 3) := by decide +kernel
theorem dX5_figure_55 : decode cX5_figure 55 = .ok (.iconst 1, 1) := by decide +kernel
theorem dX5_figure_56 : decode cX5_figure 56 = .ok (.isub, 1) := by decide +kernel
theorem dX5_figure_57 : decode cX5_figure 57 = .ok (.iaload, 1) := by decide +kernel
theorem dX5_figure_58 : decode cX5_figure 58 = .ok (.bipush 48, 2) := by decide +kernel
theorem dX5_figure_60 : decode cX5_figure 60 = .ok (.isub, 1) := by decide +kernel
theorem dX5_figure_61 : decode cX5_figure 61 = .ok (.ireturn, 1) := by decide +kernel
set_option maxRecDepth 20000 in
theorem ggX5_readLegger_X5_figure : GoodIn wsX5_readLegger wsX5_figure := goodIn_r _ [7, 8, 9, 10, 11, 12, 6, 13, 14, 15, 16, 17, 18, 19, 20, 21, 22, 23, 24, 25, 26, 27, 28, 29, 30, 31, 32, 33, 34, 35, 36, 37, 38, 39, 40, 41, 42, 43, 44, 45, 46, 47, 48, 49, 50] (by decide +kernel) (by decide +kernel)
set_option maxRecDepth 20000 in
theorem gX5_readLegger_X5_figure : GoodIn wsX5_readLegger (wsV RX5 84 RX5 yX5_figure wsX5_figure) := goodIn_app (goodIn_of _ (by decide +kernel)) ggX5_readLegger_X5_figure
theorem dX5_readLegger_0 : decode cX5_readLegger 0 = .ok (.iconst 0, 1) := by decide +kernel
theorem dX5_readLegger_1 : decode cX5_readLegger 1 = .ok (.istore_n 1, 1) := by decide +kernel
theorem dX5_readLegger_2 : decode cX5_readLegger 2 = .ok (.iload_n 1, 1) := by decide +kernel
theorem dX5_readLegger_3 : decode cX5_readLegger 3 = .ok (.iconst 5, 1) := by decide +kernel
theorem dX5_readLegger_4 : decode cX5_readLegger 4 = .ok (.if_icmp .ge 38, 3) := by decide +kernel
theorem dX5_readLegger_7 : decode cX5_readLegger 7 = .ok (.aload_n 0, 1) := by decide +kernel
theorem dX5_readLegger_8 : decode cX5_readLegger 8 = .ok (.iconst 0, 1) := by decide +kernel
theorem dX5_readLegger_9 : decode cX5_readLegger 9 = .ok (.iconst 3, 1) := by decide +kernel
theorem dX5_readLegger_10 : decode cX5_readLegger 10 = .ok (.invokevirtual 84, 3) := by decide +kernel
theorem dX5_readLegger_13 : decode cX5_readLegger 13 = .ok (.istore_n 2, 1) := by decide +kernel
theorem dX5_readLegger_14 : decode cX5_readLegger 14 = .ok (.iload_n 2, 1) := by decide +kernel
theorem dX5_readLegger_15 : decode cX5_readLegger 15 = .ok (.bipush (-9), 2) := by decide +kernel
theorem dX5_readLegger_17 : decode cX5_readLegger 17 = .ok (.if_icmp .ne 5, 3) := by decide +kernel
theorem dX5_readLegger_20 : decode cX5_readLegger 20 = .ok (.iconst 0, 1) := by decide +kernel
theorem dX5_readLegger_21 : decode cX5_readLegger 21 = .ok (.ireturn, 1) := by decide +kernel
theorem dX5_readLegger_22 : decode cX5_readLegger 22 = .ok (.aload_n 0, 1) := by decide +kernel
theorem dX5_readLegger_23 : decode cX5_readLegger 23 = .ok (.getfield 23, 3) := by decide +kernel
theorem dX5_readLegger_26 : decode cX5_readLegger 26 = .ok (.iconst 5, 1) := by decide +kernel
theorem dX5_readLegger_27 : decode cX5_readLegger 27 = .ok (.aload_n 0, 1) := by decide +kernel
theorem dX5_readLegger_28 : decode cX5_readLegger 28 = .ok (.getfield 88, 3) := by decide +kernel
theorem dX5_readLegger_31 : decode cX5_readLegger 31 = .ok (.imul, 1) := by decide +kernel
theorem dX5_readLegger_32 : decode cX5_readLegger 32 = .ok (.iload_n 1, 1) := by decide +kernel
theorem dX5_readLegger_33 : decode cX5_readLegger 33 = .ok (.iadd, 1) := by decide +kernel
theorem dX5_readLegger_34 : decode cX5_readLegger 34 = .ok (.iload_n 2, 1) := by decide +kernel
theorem dX5_readLegger_35 : decode cX5_readLegger 35 = .ok (.iastore, 1) := by decide +kernel
theorem dX5_readLegger_36 : decode cX5_readLegger 36 = .ok (.iinc 1 1, 3) := by decide +kernel
theorem dX5_readLegger_39 : decode cX5_readLegger 39 = .ok (.goto (-37), 3) := by decide +kernel
theorem dX5_readLegger_42 : decode cX5_readLegger 42 = .ok (.aload_n 0, 1) := by decide +kernel
theorem dX5_readLegger_43 : decode cX5_readLegger 43 = .ok (.dup, 1) := by decide +kernel
theorem dX5_readLegger_44 : decode cX5_readLegger 44 = .ok (.getfield 88, 3) := by decide +kernel
theorem dX5_readLegger_47 : decode cX5_readLegger 47 = .ok (.iconst 1, 1) := by decide +kernel
theorem dX5_readLegger_48 : decode cX5_readLegger 48 = .ok (.iadd, 1) := by decide +kernel
theorem dX5_readLegger_49 : decode cX5_readLegger 49 = .ok (.putfield 88, 3) := by decide +kernel
theorem dX5_readLegger_52 : decode cX5_readLegger 52 = .ok (.iconst 1, 1) := by decide +kernel
theorem dX5_readLegger_53 : decode cX5_readLegger 53 = .ok (.ireturn, 1) := by decide +kernel
set_option maxRecDepth 20000 in
theorem ggX5_readPart_X5_readLegger : GoodIn wsX5_readPart wsX5_readLegger := goodIn_r _ [10, 11, 3, 12, 13, 14, 9, 15, 2, 16, 1, 17, 18, 19, 20, 21, 22, 23, 24, 25, 26, 27, 28, 29, 30, 31, 32, 33, 34, 35, 36, 37, 38, 39, 40, 41, 42, 43, 44, 45, 46, 47, 48, 49, 50, 51, 52, 53, 54, 55, 56] (by decide +kernel) (by decide +kernel)
set_option maxRecDepth 20000 in
theorem gX5_readPart_X5_readLegger : GoodIn wsX5_readPart (wsV RX5 91 RX5 yX5_readLegger wsX5_readLegger) := goodIn_app (goodIn_of _ (by decide +kernel)) ggX5_readPart_X5_readLegger
set_option maxRecDepth 20000 in
theorem ggX5_readPart_X5_figure : GoodIn wsX5_readPart wsX5_figure := goodIn_r _ [15, 2, 16, 1, 17, 18, 9, 19, 20, 21, 22, 23, 24, 25, 26, 27, 28, 29, 30, 31, 32, 33, 34, 35, 36, 37, 38, 39, 40, 41, 42, 43, 44, 45, 46, 47, 48, 49, 50, 51, 52, 53, 54, 55, 56] (by decide +kernel) (by decide +kernel)
set_option maxRecDepth 20000 in
theorem gX5_readPart_X5_figure : GoodIn wsX5_readPart (wsV RX5 84 RX5 yX5_figure wsX5_figure) := goodIn_app (goodIn_of _ (by decide +kernel)) ggX5_readPart_X5_figure
theorem dX5_readPart_0 : decode cX5_readPart 0 = .ok (.aload_n 0, 1) := by decide +kernel
theorem dX5_readPart_1 : decode cX5_readPart 1 = .ok (.getfield 7, 3) := by decide +kernel
theorem dX5_readPart_4 : decode cX5_readPart 4 = .ok (.aload_n 0, 1) := by decide +kernel
theorem dX5_readPart_5 : decode cX5_readPart 5 = .ok (.getfield 81, 3) := by decide +kernel
theorem dX5_readPart_8 : decode cX5_readPart 8 = .ok (.iaload, 1) := by decide +kernel
theorem dX5_readPart_9 : decode cX5_readPart 9 = .ok (.istore_n 1, 1) := by decide +kernel
theorem dX5_readPart_10 : decode cX5_readPart 10 = .ok (.aload_n 0, 1) := by decide +kernel
theorem dX5_readPart_11 : decode cX5_readPart 11 = .ok (.dup, 1) := by decide +kernel
theorem dX5_readPart_12 : decode cX5_readPart 12 = .ok (.getfield 81, 3) := by decide +kernel
theorem dX5_readPart_15 : decode cX5_readPart 15 = .ok (.iconst 1, 1) := by decide +kernel
theorem dX5_readPart_16 : decode cX5_readPart 16 = .ok (.iadd, 1) := by decide +kernel
theorem dX5_readPart_17 : decode cX5_readPart 17 = .ok (.putfield 81, 3) := by decide +kernel
theorem dX5_readPart_20 : decode cX5_readPart 20 = .ok (.iload_n 1, 1) := by decide +kernel
theorem dX5_readPart_21 : decode cX5_readPart 21 = .ok (.bipush 71, 2) := by decide +kernel
theorem dX5_readPart_23 : decode cX5_readPart 23 = .ok (.if_icmp .ne 16, 3) := by decide +kernel
theorem dX5_readPart_26 : decode cX5_readPart 26 = .ok (.aload_n 0, 1) := by decide +kernel
theorem dX5_readPart_27 : decode cX5_readPart 27 = .ok (.getfield 88, 3) := by decide +kernel
theorem dX5_readPart_30 : decode cX5_readPart 30 = .ok (.iconst 4, 1) := by decide +kernel
theorem dX5_readPart_31 : decode cX5_readPart 31 = .ok (.if_icmp .ge 8, 3) := by decide +kernel
theorem dX5_readPart_34 : decode cX5_readPart 34 = .ok (.aload_n 0, 1) := by decide +kernel
theorem dX5_readPart_35 : decode cX5_readPart 35 = .ok (.invokevirtual 91, 3) := by decide +kernel
theorem dX5_readPart_38 : decode cX5_readPart 38 = .ok (.ireturn, 1) := by decide +kernel
theorem dX5_readPart_39 : decode cX5_readPart 39 = .ok (.iload_n 1, 1) := by decide +kernel
theorem dX5_readPart_40 : decode cX5_readPart 40 = .ok (.bipush 66, 2) := by decide +kernel
theorem dX5_readPart_42 : decode cX5_readPart 42 = .ok (.if_icmp .ne 49, 3) := by decide +kernel
theorem dX5_readPart_45 : decode cX5_readPart 45 = .ok (.aload_n 0, 1) := by decide +kernel
theorem dX5_readPart_46 : decode cX5_readPart 46 = .ok (.getfield 94, 3) := by decide +kernel
theorem dX5_readPart_49 : decode cX5_readPart 49 = .ok (.iconst 3, 1) := by decide +kernel
theorem dX5_readPart_50 : decode cX5_readPart 50 = .ok (.if_icmp .ge 41, 3) := by decide +kernel
theorem dX5_readPart_53 : decode cX5_readPart 53 = .ok (.aload_n 0, 1) := by decide +kernel
theorem dX5_readPart_54 : decode cX5_readPart 54 = .ok (.iconst 0, 1) := by decide +kernel
theorem dX5_readPart_55 : decode cX5_readPart 55 = .ok (.bipush 9, 2) := by decide +kernel
theorem dX5_readPart_57 : decode cX5_readPart 57 = .ok (.invokevirtual 84, 3) := by decide +kernel
theorem dX5_readPart_60 : decode cX5_readPart 60 = .ok (.istore_n 2, 1) := by decide +kernel
theorem dX5_readPart_61 : decode cX5_readPart 61 = .ok (.iload_n 2, 1) := by decide +kernel
theorem dX5_readPart_62 : decode cX5_readPart 62 = .ok (.bipush (-9), 2) := by decide +kernel
theorem dX5_readPart_64 : decode cX5_readPart 64 = .ok (.if_icmp .ne 5, 3) := by decide +kernel
theorem dX5_readPart_67 : decode cX5_readPart 67 = .ok (.iconst 0, 1) := by decide +kernel
theorem dX5_readPart_68 : decode cX5_readPart 68 = .ok (.ireturn, 1) := by decide +kernel
theorem dX5_readPart_69 : decode cX5_readPart 69 = .ok (.aload_n 0, 1) := by decide +kernel
theorem dX5_readPart_70 : decode cX5_readPart 70 = .ok (.getfield 26, 3) := by decide +kernel
theorem dX5_readPart_73 : decode cX5_readPart 73 = .ok (.aload_n 0, 1) := by decide +kernel
theorem dX5_readPart_74 : decode cX5_readPart 74 = .ok (.getfield 94, 3) := by decide +kernel
theorem dX5_readPart_77 : decode cX5_readPart 77 = .ok (.iload_n 2, 1) := by decide +kernel
theorem dX5_readPart_78 : decode cX5_readPart 78 = .ok (.iastore, 1) := by decide +kernel
theorem dX5_readPart_79 : decode cX5_readPart 79 = .ok (.aload_n 0, 1) := by decide +kernel
theorem dX5_readPart_80 : decode cX5_readPart 80 = .ok (.dup, 1) := by decide +kernel
theorem dX5_readPart_81 : decode cX5_readPart 81 = .ok (.getfield 94, 3) := by decide +kernel
theorem dX5_readPart_84 : decode cX5_readPart 84 = .ok (.iconst 1, 1) := by decide +kernel
theorem dX5_readPart_85 : decode cX5_readPart 85 = .ok (.iadd, 1) := by decide +kernel
theorem dX5_readPart_86 : decode cX5_readPart 86 = .ok (.putfield 94, 3) := by decide +kernel
theorem dX5_readPart_89 : decode cX5_readPart 89 = .ok (.iconst 1, 1) := by decide +kernel
theorem dX5_readPart_90 : decode cX5_readPart 90 = .ok (.ireturn, 1) := by decide +kernel
theorem dX5_readPart_91 : decode cX5_readPart 91 = .ok (.aload_n 0, 1) := by decide +kernel
theorem dX5_readPart_92 : decode cX5_readPart 92 = .ok (.dup, 1) := by decide +kernel
theorem dX5_readPart_93 : decode cX5_readPart 93 = .ok (.getfield 81, 3) := by decide +kernel
theorem dX5_readPart_96 : decode cX5_readPart 96 = .ok (.iconst 1, 1) := by decide +kernel
theorem dX5_readPart_97 : decode cX5_readPart 97 = .ok (.isub, 1) := by decide +kernel
theorem dX5_readPart_98 : decode cX5_readPart 98 = .ok (.putfield 81, 3) := by decide +kernel
theorem dX5_readPart_101 : decode cX5_readPart 101 = .ok (.iconst 0, 1) := by decide +kernel
theorem dX5_readPart_102 : decode cX5_readPart 102 = .ok (.ireturn, 1) := by decide +kernel
set_option maxRecDepth 20000 in
theorem ggX5_readTunnel_X5_figure : GoodIn wsX5_readTunnel wsX5_figure := goodIn_r _ [11, 1, 4, 5, 12, 13, 10, 14, 25, 26, 27, 28, 29, 30, 31, 32, 33, 34, 35, 36, 37, 38, 39, 40, 41, 42, 43, 44, 45, 46, 47, 48, 49, 50, 51, 52, 53, 54, 55, 56, 57, 58, 59, 60, 61] (by decide +kernel) (by decide +kernel)
set_option maxRecDepth 20000 in
theorem gX5_readTunnel_X5_figure : GoodIn wsX5_readTunnel (wsV RX5 84 RX5 yX5_figure wsX5_figure) := goodIn_app (goodIn_of _ (by decide +kernel)) ggX5_readTunnel_X5_figure
set_option maxRecDepth 20000 in
theorem ggX5_readTunnel_X5_readPart : GoodIn wsX5_readTunnel wsX5_readPart := goodIn_r _ [18, 5, 1, 2, 3, 19, 20, 21, 22, 10, 23, 24, 7, 8, 9, 11, 4, 12, 13, 14, 25, 26, 27, 28, 29, 30, 31, 32, 33, 34, 35, 36, 37, 38, 39, 40, 41, 42, 43, 44, 45, 46, 47, 48, 49, 50, 51, 52, 53, 54, 55, 56, 57, 58, 59, 60, 61] (by decide +kernel) (by decide +kernel)
set_option maxRecDepth 20000 in
theorem gX5_readTunnel_X5_readPart : GoodIn wsX5_readTunnel (wsV RX5 100 RX5 yX5_readPart wsX5_readPart) := goodIn_app (goodIn_of _ (by decide +kernel)) ggX5_readTunnel_X5_readPart
theorem dX5_readTunnel_0 : decode cX5_readTunnel 0 = .ok (.aload_n 0, 1) := by decide +kernel
theorem dX5_readTunnel_1 : decode cX5_readTunnel 1 = .ok (.iconst 0, 1) := by decide +kernel
theorem dX5_readTunnel_2 : decode cX5_readTunnel 2 = .ok (.putfield 81, 3) := by decide +kernel
theorem dX5_readTunnel_5 : decode cX5_readTunnel 5 = .ok (.aload_n 0, 1) := by decide +kernel
theorem dX5_readTunnel_6 : decode cX5_readTunnel 6 = .ok (.iconst 0, 1) := by decide +kernel
theorem dX5_readTunnel_7 : decode cX5_readTunnel 7 = .ok (.putfield 88, 3) := by decide +kernel
theorem dX5_readTunnel_10 : decode cX5_readTunnel 10 = .ok (.aload_n 0, 1) := by decide +kernel
theorem dX5_readTunnel_11 : decode cX5_readTunnel 11 = .ok (.iconst 0, 1) := by decide +kernel
theorem dX5_readTunnel_12 : decode cX5_readTunnel 12 = .ok (.putfield 94, 3) := by decide +kernel
theorem dX5_readTunnel_15 : decode cX5_readTunnel 15 = .ok (.aload_n 0, 1) := by decide +kernel
theorem dX5_readTunnel_16 : decode cX5_readTunnel 16 = .ok (.getfield 78, 3) := by decide +kernel
theorem dX5_readTunnel_19 : decode cX5_readTunnel 19 = .ok (.ifCond .eq 14, 3) := by decide +kernel
theorem dX5_readTunnel_22 : decode cX5_readTunnel 22 = .ok (.aload_n 0, 1) := by decide +kernel
theorem dX5_readTunnel_23 : decode cX5_readTunnel 23 = .ok (.getfield 7, 3) := by decide +kernel
theorem dX5_readTunnel_26 : decode cX5_readTunnel 26 = .ok (.iconst 0, 1) := by decide +kernel
theorem dX5_readTunnel_27 : decode cX5_readTunnel 27 = .ok (.iaload, 1) := by decide +kernel
theorem dX5_readTunnel_28 : decode cX5_readTunnel 28 = .ok (.bipush 76, 2) := by decide +kernel
theorem dX5_readTunnel_30 : decode cX5_readTunnel 30 = .ok (.if_icmp .eq 5, 3) := by decide +kernel
theorem dX5_readTunnel_33 : decode cX5_readTunnel 33 = .ok (.iconst 0, 1) := by decide +kernel
theorem dX5_readTunnel_34 : decode cX5_readTunnel 34 = .ok (.ireturn, 1) := by decide +kernel
theorem dX5_readTunnel_35 : decode cX5_readTunnel 35 = .ok (.aload_n 0, 1) := by decide +kernel
theorem dX5_readTunnel_36 : decode cX5_readTunnel 36 = .ok (.iconst 1, 1) := by decide +kernel
theorem dX5_readTunnel_37 : decode cX5_readTunnel 37 = .ok (.putfield 81, 3) := by decide +kernel
theorem dX5_readTunnel_40 : decode cX5_readTunnel 40 = .ok (.aload_n 0, 1) := by decide +kernel
theorem dX5_readTunnel_41 : decode cX5_readTunnel 41 = .ok (.aload_n 0, 1) := by decide +kernel
theorem dX5_readTunnel_42 : decode cX5_readTunnel 42 = .ok (.iconst 1, 1) := by decide +kernel
theorem dX5_readTunnel_43 : decode cX5_readTunnel 43 = .ok (.bipush 6, 2) := by decide +kernel
theorem dX5_readTunnel_45 : decode cX5_readTunnel 45 = .ok (.invokevirtual 84, 3) := by decide +kernel
theorem dX5_readTunnel_48 : decode cX5_readTunnel 48 = .ok (.putfield 97, 3) := by decide +kernel
theorem dX5_readTunnel_51 : decode cX5_readTunnel 51 = .ok (.aload_n 0, 1) := by decide +kernel
theorem dX5_readTunnel_52 : decode cX5_readTunnel 52 = .ok (.getfield 97, 3) := by decide +kernel
theorem dX5_readTunnel_55 : decode cX5_readTunnel 55 = .ok (.bipush (-9), 2) := by decide +kernel
theorem dX5_readTunnel_57 : decode cX5_readTunnel 57 = .ok (.if_icmp .ne 8, 3) := by decide +kernel
theorem dX5_readTunnel_60 : decode cX5_readTunnel 60 = .ok (.aload_n 0, 1) := by decide +kernel
theorem dX5_readTunnel_61 : decode cX5_readTunnel 61 = .ok (.getfield 81, 3) := by decide +kernel
theorem dX5_readTunnel_64 : decode cX5_readTunnel 64 = .ok (.ireturn, 1) := by decide +kernel
theorem dX5_readTunnel_65 : decode cX5_readTunnel 65 = .ok (.aload_n 0, 1) := by decide +kernel
theorem dX5_readTunnel_66 : decode cX5_readTunnel 66 = .ok (.getfield 81, 3) := by decide +kernel
theorem dX5_readTunnel_69 : decode cX5_readTunnel 69 = .ok (.aload_n 0, 1) := by decide +kernel
theorem dX5_readTunnel_70 : decode cX5_readTunnel 70 = .ok (.getfield 78, 3) := by decide +kernel
theorem dX5_readTunnel_73 : decode cX5_readTunnel 73 = .ok (.if_icmp .ge 15, 3) := by decide +kernel
theorem dX5_readTunnel_76 : decode cX5_readTunnel 76 = .ok (.aload_n 0, 1) := by decide +kernel
theorem dX5_readTunnel_77 : decode cX5_readTunnel 77 = .ok (.invokevirtual 100, 3) := by decide +kernel
theorem dX5_readTunnel_80 : decode cX5_readTunnel 80 = .ok (.ifCond .ne (-15), 3) := by decide +kernel
theorem dX5_readTunnel_83 : decode cX5_readTunnel 83 = .ok (.aload_n 0, 1) := by decide +kernel
theorem dX5_readTunnel_84 : decode cX5_readTunnel 84 = .ok (.getfield 81, 3) := by decide +kernel
theorem dX5_readTunnel_87 : decode cX5_readTunnel 87 = .ok (.ireturn, 1) := by decide +kernel
theorem dX5_readTunnel_88 : decode cX5_readTunnel 88 = .ok (.bipush (-9), 2) := by decide +kernel
theorem dX5_readTunnel_90 : decode cX5_readTunnel 90 = .ok (.ireturn, 1) := by decide +kernel
set_option maxRecDepth 20000 in
theorem ggX5_fault_X5_readTunnel : GoodIn wsX5_fault wsX5_readTunnel := goodIn_r _ [6, 7, 8, 9, 10, 11, 12, 13, 14, 15, 5, 16, 17, 18, 19, 20, 21, 22, 23, 24, 25, 26, 27, 28, 29, 30, 31, 32, 33, 34, 35, 36, 37, 38, 39, 40, 41, 42, 43, 44, 45, 46, 47, 48, 49, 50, 51, 52, 53, 54, 55, 56, 57, 58, 59, 60, 61, 62, 63, 64, 65, 66] (by decide +kernel) (by decide +kernel)
set_option maxRecDepth 20000 in
theorem gX5_fault_X5_readTunnel : GoodIn wsX5_fault (wsV RX5 103 RX5 yX5_readTunnel wsX5_readTunnel) := goodIn_app (goodIn_of _ (by decide +kernel)) ggX5_fault_X5_readTunnel
theorem dX5_fault_0 : decode cX5_fault 0 = .ok (.aload_n 0, 1) := by decide +kernel
theorem dX5_fault_1 : decode cX5_fault 1 = .ok (.iconst 0, 1) := by decide +kernel
theorem dX5_fault_2 : decode cX5_fault 2 = .ok (.putfield 63, 3) := by decide +kernel
theorem dX5_fault_5 : decode cX5_fault 5 = .ok (.aload_n 0, 1) := by decide +kernel
theorem dX5_fault_6 : decode cX5_fault 6 = .ok (.invokevirtual 103, 3) := by decide +kernel
theorem dX5_fault_9 : decode cX5_fault 9 = .ok (.ireturn, 1) := by decide +kernel
set_option maxRecDepth 20000 in
theorem ggX5_tunnel_X5_readTunnel : GoodIn wsX5_tunnel wsX5_readTunnel := goodIn_r _ [19, 20, 4, 6, 21, 22, 2, 23, 24, 25, 18, 26, 27, 28, 29, 30, 31, 32, 33, 12, 34, 35, 36, 37, 10, 38, 39, 40, 41, 42, 43, 44, 45, 46, 47, 48, 49, 50, 51, 52, 53, 54, 55, 56, 57, 58, 59, 60, 61, 62, 63, 64, 65, 66, 67, 68, 69, 70, 71, 72, 73, 74] (by decide +kernel) (by decide +kernel)
set_option maxRecDepth 20000 in
theorem gX5_tunnel_X5_readTunnel : GoodIn wsX5_tunnel (wsV RX5 103 RX5 yX5_readTunnel wsX5_readTunnel) := goodIn_app (goodIn_of _ (by decide +kernel)) ggX5_tunnel_X5_readTunnel
theorem dX5_tunnel_0 : decode cX5_tunnel 0 = .ok (.aload_n 0, 1) := by decide +kernel
theorem dX5_tunnel_1 : decode cX5_tunnel 1 = .ok (.iconst 0, 1) := by decide +kernel
theorem dX5_tunnel_2 : decode cX5_tunnel 2 = .ok (.putfield 63, 3) := by decide +kernel
theorem dX5_tunnel_5 : decode cX5_tunnel 5 = .ok (.aload_n 0, 1) := by decide +kernel
theorem dX5_tunnel_6 : decode cX5_tunnel 6 = .ok (.invokevirtual 103, 3) := by decide +kernel
theorem dX5_tunnel_9 : decode cX5_tunnel 9 = .ok (.bipush (-9), 2) := by decide +kernel
theorem dX5_tunnel_11 : decode cX5_tunnel 11 = .ok (.if_icmp .eq 6, 3) := by decide +kernel
theorem dX5_tunnel_14 : decode cX5_tunnel 14 = .ok (.bipush (-3), 2) := by decide +kernel
theorem dX5_tunnel_16 : decode cX5_tunnel 16 = .ok (.ireturn, 1) := by decide +kernel
theorem dX5_tunnel_17 : decode cX5_tunnel 17 = .ok (.aload_n 0, 1) := by decide +kernel
theorem dX5_tunnel_18 : decode cX5_tunnel 18 = .ok (.aload_n 0, 1) := by decide +kernel
theorem dX5_tunnel_19 : decode cX5_tunnel 19 = .ok (.getfield 97, 3) := by decide +kernel
theorem dX5_tunnel_22 : decode cX5_tunnel 22 = .ok (.putfield 13, 3) := by decide +kernel
theorem dX5_tunnel_25 : decode cX5_tunnel 25 = .ok (.aload_n 0, 1) := by decide +kernel
theorem dX5_tunnel_26 : decode cX5_tunnel 26 = .ok (.aload_n 0, 1) := by decide +kernel
theorem dX5_tunnel_27 : decode cX5_tunnel 27 = .ok (.getfield 88, 3) := by decide +kernel
theorem dX5_tunnel_30 : decode cX5_tunnel 30 = .ok (.putfield 66, 3) := by decide +kernel
theorem dX5_tunnel_33 : decode cX5_tunnel 33 = .ok (.aload_n 0, 1) := by decide +kernel
theorem dX5_tunnel_34 : decode cX5_tunnel 34 = .ok (.aload_n 0, 1) := by decide +kernel
theorem dX5_tunnel_35 : decode cX5_tunnel 35 = .ok (.getfield 94, 3) := by decide +kernel
theorem dX5_tunnel_38 : decode cX5_tunnel 38 = .ok (.putfield 73, 3) := by decide +kernel
theorem dX5_tunnel_41 : decode cX5_tunnel 41 = .ok (.iconst 0, 1) := by decide +kernel
theorem dX5_tunnel_42 : decode cX5_tunnel 42 = .ok (.istore_n 1, 1) := by decide +kernel
theorem dX5_tunnel_43 : decode cX5_tunnel 43 = .ok (.iload_n 1, 1) := by decide +kernel
theorem dX5_tunnel_44 : decode cX5_tunnel 44 = .ok (.bipush 22, 2) := by decide +kernel
theorem dX5_tunnel_46 : decode cX5_tunnel 46 = .ok (.if_icmp .ge 16, 3) := by decide +kernel
theorem dX5_tunnel_49 : decode cX5_tunnel 49 = .ok (.aload_n 0, 1) := by decide +kernel
theorem dX5_tunnel_50 : decode cX5_tunnel 50 = .ok (.getfield 29, 3) := by decide +kernel
theorem dX5_tunnel_53 : decode cX5_tunnel 53 = .ok (.iload_n 1, 1) := by decide +kernel
theorem dX5_tunnel_54 : decode cX5_tunnel 54 = .ok (.iconst 0, 1) := by decide +kernel
theorem dX5_tunnel_55 : decode cX5_tunnel 55 = .ok (.iastore, 1) := by decide +kernel
theorem dX5_tunnel_56 : decode cX5_tunnel 56 = .ok (.iinc 1 1, 3) := by decide +kernel
theorem dX5_tunnel_59 : decode cX5_tunnel 59 = .ok (.goto (-16), 3) := by decide +kernel
theorem dX5_tunnel_62 : decode cX5_tunnel 62 = .ok (.iconst 0, 1) := by decide +kernel
theorem dX5_tunnel_63 : decode cX5_tunnel 63 = .ok (.istore_n 1, 1) := by decide +kernel
theorem dX5_tunnel_64 : decode cX5_tunnel 64 = .ok (.iload_n 1, 1) := by decide +kernel
theorem dX5_tunnel_65 : decode cX5_tunnel 65 = .ok (.aload_n 0, 1) := by decide +kernel
theorem dX5_tunnel_66 : decode cX5_tunnel 66 = .ok (.getfield 66, 3) := by decide +kernel
theorem dX5_tunnel_69 : decode cX5_tunnel 69 = .ok (.if_icmp .ge 60, 3) := by decide +kernel
theorem dX5_tunnel_72 : decode cX5_tunnel 72 = .ok (.aload_n 0, 1) := by decide +kernel
theorem dX5_tunnel_73 : decode cX5_tunnel 73 = .ok (.getfield 17, 3) := by decide +kernel
theorem dX5_tunnel_76 : decode cX5_tunnel 76 = .ok (.iload_n 1, 1) := by decide +kernel
theorem dX5_tunnel_77 : decode cX5_tunnel 77 = .ok (.aload_n 0, 1) := by decide +kernel
theorem dX5_tunnel_78 : decode cX5_tunnel 78 = .ok (.getfield 23, 3) := by decide +kernel
theorem dX5_tunnel_81 : decode cX5_tunnel 81 = .ok (.iconst 5, 1) := by decide +kernel
theorem dX5_tunnel_82 : decode cX5_tunnel 82 = .ok (.iload_n 1, 1) := by decide +kernel
theorem dX5_tunnel_83 : decode cX5_tunnel 83 = .ok (.imul, 1) := by decide +kernel
theorem dX5_tunnel_84 : decode cX5_tunnel 84 = .ok (.iaload, 1) := by decide +kernel
theorem dX5_tunnel_85 : decode cX5_tunnel 85 = .ok (.iastore, 1) := by decide +kernel
theorem dX5_tunnel_86 : decode cX5_tunnel 86 = .ok (.iconst 0, 1) := by decide +kernel
theorem dX5_tunnel_87 : decode cX5_tunnel 87 = .ok (.istore_n 2, 1) := by decide +kernel
theorem dX5_tunnel_88 : decode cX5_tunnel 88 = .ok (.iload_n 2, 1) := by decide +kernel
theorem dX5_tunnel_89 : decode cX5_tunnel 89 = .ok (.iconst 4, 1) := by decide +kernel
theorem dX5_tunnel_90 : decode cX5_tunnel 90 = .ok (.if_icmp .ge 33, 3) := by decide +kernel
theorem dX5_tunnel_93 : decode cX5_tunnel 93 = .ok (.aload_n 0, 1) := by decide +kernel
theorem dX5_tunnel_94 : decode cX5_tunnel 94 = .ok (.getfield 29, 3) := by decide +kernel
theorem dX5_tunnel_97 : decode cX5_tunnel 97 = .ok (.iconst 0, 1) := by decide +kernel
theorem dX5_tunnel_98 : decode cX5_tunnel 98 = .ok (.iconst 4, 1) := by decide +kernel
theorem dX5_tunnel_99 : decode cX5_tunnel 99 = .ok (.iload_n 1, 1) := by decide +kernel
theorem dX5_tunnel_100 : decode cX5_tunnel 100 = .ok (.imul, 1) := by decide +kernel
theorem dX5_tunnel_101 : decode cX5_tunnel 101 = .ok (.iadd, 1) := by decide +kernel
theorem dX5_tunnel_102 : decode cX5_tunnel 102 = .ok (.iload_n 2, 1) := by decide +kernel
theorem dX5_tunnel_103 : decode cX5_tunnel 103 = .ok (.iadd, 1) := by decide +kernel
theorem dX5_tunnel_104 : decode cX5_tunnel 104 = .ok (.aload_n 0, 1) := by decide +kernel
theorem dX5_tunnel_105 : decode cX5_tunnel 105 = .ok (.getfield 23, 3) := by decide +kernel
theorem dX5_tunnel_108 : decode cX5_tunnel 108 = .ok (.iconst 5, 1) := by decide +kernel
theorem dX5_tunnel_109 : decode cX5_tunnel 109 = .ok (.iload_n 1, 1) := by decide +kernel
theorem dX5_tunnel_110 : decode cX5_tunnel 110 = .ok (.imul, 1) := by decide +kernel
theorem dX5_tunnel_111 : decode cX5_tunnel 111 = .ok (.iconst 1, 1) := by decide +kernel
theorem dX5_tunnel_112 : decode cX5_tunnel 112 = .ok (.iadd, 1) := by decide +kernel
theorem dX5_tunnel_113 : decode cX5_tunnel 113 = .ok (.iload_n 2, 1) := by decide +kernel
theorem dX5_tunnel_114 : decode cX5_tunnel 114 = .ok (.iadd, 1) := by decide +kernel
theorem dX5_tunnel_115 : decode cX5_tunnel 115 = .ok (.iaload, 1) := by decide +kernel
theorem dX5_tunnel_116 : decode cX5_tunnel 116 = .ok (.iastore, 1) := by decide +kernel
theorem dX5_tunnel_117 : decode cX5_tunnel 117 = .ok (.iinc 2 1, 3) := by decide +kernel
theorem dX5_tunnel_120 : decode cX5_tunnel 120 = .ok (.goto (-32), 3) := by decide +kernel
theorem dX5_tunnel_123 : decode cX5_tunnel 123 = .ok (.iinc 1 1, 3) := by decide +kernel
theorem dX5_tunnel_126 : decode cX5_tunnel 126 = .ok (.goto (-62), 3) := by decide +kernel
theorem dX5_tunnel_129 : decode cX5_tunnel 129 = .ok (.iconst 0, 1) := by decide +kernel
theorem dX5_tunnel_130 : decode cX5_tunnel 130 = .ok (.istore_n 1, 1) := by decide +kernel
theorem dX5_tunnel_131 : decode cX5_tunnel 131 = .ok (.iload_n 1, 1) := by decide +kernel
theorem dX5_tunnel_132 : decode cX5_tunnel 132 = .ok (.aload_n 0, 1) := by decide +kernel
theorem dX5_tunnel_133 : decode cX5_tunnel 133 = .ok (.getfield 73, 3) := by decide +kernel
theorem dX5_tunnel_136 : decode cX5_tunnel 136 = .ok (.if_icmp .ge 21, 3) := by decide +kernel
theorem dX5_tunnel_139 : decode cX5_tunnel 139 = .ok (.aload_n 0, 1) := by decide +kernel
theorem dX5_tunnel_140 : decode cX5_tunnel 140 = .ok (.getfield 20, 3) := by decide +kernel
theorem dX5_tunnel_143 : decode cX5_tunnel 143 = .ok (.iload_n 1, 1) := by decide +kernel
theorem dX5_tunnel_144 : decode cX5_tunnel 144 = .ok (.aload_n 0, 1) := by decide +kernel
theorem dX5_tunnel_145 : decode cX5_tunnel 145 = .ok (.getfield 26, 3) := by decide +kernel
theorem dX5_tunnel_148 : decode cX5_tunnel 148 = .ok (.iload_n 1, 1) := by decide +kernel
theorem dX5_tunnel_149 : decode cX5_tunnel 149 = .ok (.iaload, 1) := by decide +kernel
theorem dX5_tunnel_150 : decode cX5_tunnel 150 = .ok (.iastore, 1) := by decide +kernel
theorem dX5_tunnel_151 : decode cX5_tunnel 151 = .ok (.iinc 1 1, 3) := by decide +kernel
theorem dX5_tunnel_154 : decode cX5_tunnel 154 = .ok (.goto (-23), 3) := by decide +kernel
theorem dX5_tunnel_157 : decode cX5_tunnel 157 = .ok (.aload_n 0, 1) := by decide +kernel
theorem dX5_tunnel_158 : decode cX5_tunnel 158 = .ok (.iconst 0, 1) := by decide +kernel
theorem dX5_tunnel_159 : decode cX5_tunnel 159 = .ok (.putfield 107, 3) := by decide +kernel
theorem dX5_tunnel_162 : decode cX5_tunnel 162 = .ok (.aload_n 0, 1) := by decide +kernel
theorem dX5_tunnel_163 : decode cX5_tunnel 163 = .ok (.getfield 44, 3) := by decide +kernel
theorem dX5_tunnel_166 : decode cX5_tunnel 166 = .ok (.iconst 0, 1) := by decide +kernel
theorem dX5_tunnel_167 : decode cX5_tunnel 167 = .ok (.iconst 0, 1) := by decide +kernel
theorem dX5_tunnel_168 : decode cX5_tunnel 168 = .ok (.bastore, 1) := by decide +kernel
theorem dX5_tunnel_169 : decode cX5_tunnel 169 = .ok (.aload_n 0, 1) := by decide +kernel
theorem dX5_tunnel_170 : decode cX5_tunnel 170 = .ok (.getfield 44, 3) := by decide +kernel
theorem dX5_tunnel_173 : decode cX5_tunnel 173 = .ok (.iconst 1, 1) := by decide +kernel
theorem dX5_tunnel_174 : decode cX5_tunnel 174 = .ok (.iconst 0, 1) := by decide +kernel
theorem dX5_tunnel_175 : decode cX5_tunnel 175 = .ok (.bastore, 1) := by decide +kernel
theorem dX5_tunnel_176 : decode cX5_tunnel 176 = .ok (.bipush 10, 2) := by decide +kernel
theorem dX5_tunnel_178 : decode cX5_tunnel 178 = .ok (.aload_n 0, 1) := by decide +kernel
theorem dX5_tunnel_179 : decode cX5_tunnel 179 = .ok (.getfield 66, 3) := by decide +kernel
theorem dX5_tunnel_182 : decode cX5_tunnel 182 = .ok (.imul, 1) := by decide +kernel
theorem dX5_tunnel_183 : decode cX5_tunnel 183 = .ok (.aload_n 0, 1) := by decide +kernel
theorem dX5_tunnel_184 : decode cX5_tunnel 184 = .ok (.getfield 73, 3) := by decide +kernel
theorem dX5_tunnel_187 : decode cX5_tunnel 187 = .ok (.iadd, 1) := by decide +kernel
theorem dX5_tunnel_188 : decode cX5_tunnel 188 = .ok (.ireturn, 1) := by decide +kernel
theorem dX5_minutes_0 : decode cX5_minutes 0 = .ok (.iload_n 0, 1) := by decide +kernel
theorem dX5_minutes_1 : decode cX5_minutes 1 = .ok (.iconst 1, 1) := by decide +kernel
theorem dX5_minutes_2 : decode cX5_minutes 2 = .ok (.if_icmp .ne 7, 3) := by decide +kernel
theorem dX5_minutes_5 : decode cX5_minutes 5 = .ok (.iconst 2, 1) := by decide +kernel
theorem dX5_minutes_6 : decode cX5_minutes 6 = .ok (.goto 13, 3) := by decide +kernel
theorem dX5_minutes_9 : decode cX5_minutes 9 = .ok (.iload_n 0, 1) := by decide +kernel
theorem dX5_minutes_10 : decode cX5_minutes 10 = .ok (.iconst 3, 1) := by decide +kernel
theorem dX5_minutes_11 : decode cX5_minutes 11 = .ok (.if_icmp .ne 7, 3) := by decide +kernel
theorem dX5_minutes_14 : decode cX5_minutes 14 = .ok (.iconst 3, 1) := by decide +kernel
theorem dX5_minutes_15 : decode cX5_minutes 15 = .ok (.goto 4, 3) := by decide +kernel
theorem dX5_minutes_18 : decode cX5_minutes 18 = .ok (.iconst 1, 1) := by decide +kernel
theorem dX5_minutes_19 : decode cX5_minutes 19 = .ok (.ireturn, 1) := by decide +kernel
set_option maxRecDepth 20000 in
theorem ggX5_takes_X5_minutes : GoodIn wsX5_takes wsX5_minutes := goodIn_r _ [6] (by decide +kernel) (by decide +kernel)
set_option maxRecDepth 20000 in
theorem gX5_takes_X5_minutes : GoodIn wsX5_takes (va_wsS RX5 110 yX5_minutes wsX5_minutes) := goodIn_app (goodIn_of _ (by decide +kernel)) ggX5_takes_X5_minutes
theorem dX5_takes_0 : decode cX5_takes 0 = .ok (.aload_n 1, 1) := by decide +kernel
theorem dX5_takes_1 : decode cX5_takes 1 = .ok (.iconst 0, 1) := by decide +kernel
theorem dX5_takes_2 : decode cX5_takes 2 = .ok (.iconst 4, 1) := by decide +kernel
theorem dX5_takes_3 : decode cX5_takes 3 = .ok (.iload_n 2, 1) := by decide +kernel
theorem dX5_takes_4 : decode cX5_takes 4 = .ok (.imul, 1) := by decide +kernel
theorem dX5_takes_5 : decode cX5_takes 5 = .ok (.iadd, 1) := by decide +kernel
theorem dX5_takes_6 : decode cX5_takes 6 = .ok (.iload 4, 2) := by decide +kernel
theorem dX5_takes_8 : decode cX5_takes 8 = .ok (.iadd, 1) := by decide +kernel
theorem dX5_takes_9 : decode cX5_takes 9 = .ok (.iaload, 1) := by decide +kernel
theorem dX5_takes_10 : decode cX5_takes 10 = .ok (.invokestatic 110, 3) := by decide +kernel
theorem dX5_takes_13 : decode cX5_takes 13 = .ok (.istore 5, 2) := by decide +kernel
theorem dX5_takes_15 : decode cX5_takes 15 = .ok (.iload 5, 2) := by decide +kernel
theorem dX5_takes_17 : decode cX5_takes 17 = .ok (.aload_n 0, 1) := by decide +kernel
theorem dX5_takes_18 : decode cX5_takes 18 = .ok (.getfield 17, 3) := by decide +kernel
theorem dX5_takes_21 : decode cX5_takes 21 = .ok (.iload_n 2, 1) := by decide +kernel
theorem dX5_takes_22 : decode cX5_takes 22 = .ok (.iaload, 1) := by decide +kernel
theorem dX5_takes_23 : decode cX5_takes 23 = .ok (.iconst 1, 1) := by decide +kernel
theorem dX5_takes_24 : decode cX5_takes 24 = .ok (.if_icmp .ne 7, 3) := by decide +kernel
theorem dX5_takes_27 : decode cX5_takes 27 = .ok (.iconst 1, 1) := by decide +kernel
theorem dX5_takes_28 : decode cX5_takes 28 = .ok (.goto 4, 3) := by decide +kernel
theorem dX5_takes_31 : decode cX5_takes 31 = .ok (.iconst 0, 1) := by decide +kernel
theorem dX5_takes_32 : decode cX5_takes 32 = .ok (.iadd, 1) := by decide +kernel
theorem dX5_takes_33 : decode cX5_takes 33 = .ok (.istore 5, 2) := by decide +kernel
theorem dX5_takes_35 : decode cX5_takes 35 = .ok (.iload 5, 2) := by decide +kernel
theorem dX5_takes_37 : decode cX5_takes 37 = .ok (.aload_n 0, 1) := by decide +kernel
theorem dX5_takes_38 : decode cX5_takes 38 = .ok (.getfield 17, 3) := by decide +kernel
theorem dX5_takes_41 : decode cX5_takes 41 = .ok (.iload_n 2, 1) := by decide +kernel
theorem dX5_takes_42 : decode cX5_takes 42 = .ok (.iaload, 1) := by decide +kernel
theorem dX5_takes_43 : decode cX5_takes 43 = .ok (.iconst 2, 1) := by decide +kernel
theorem dX5_takes_44 : decode cX5_takes 44 = .ok (.if_icmp .ne 13, 3) := by decide +kernel
theorem dX5_takes_47 : decode cX5_takes 47 = .ok (.iload 5, 2) := by decide +kernel
theorem dX5_takes_49 : decode cX5_takes 49 = .ok (.iconst 1, 1) := by decide +kernel
theorem dX5_takes_50 : decode cX5_takes 50 = .ok (.if_icmp .le 7, 3) := by decide +kernel
theorem dX5_takes_53 : decode cX5_takes 53 = .ok (.iconst 1, 1) := by decide +kernel
theorem dX5_takes_54 : decode cX5_takes 54 = .ok (.goto 4, 3) := by decide +kernel
theorem dX5_takes_57 : decode cX5_takes 57 = .ok (.iconst 0, 1) := by decide +kernel
theorem dX5_takes_58 : decode cX5_takes 58 = .ok (.isub, 1) := by decide +kernel
theorem dX5_takes_59 : decode cX5_takes 59 = .ok (.istore 5, 2) := by decide +kernel
theorem dX5_takes_61 : decode cX5_takes 61 = .ok (.iload 5, 2) := by decide +kernel
theorem dX5_takes_63 : decode cX5_takes 63 = .ok (.aload_n 0, 1) := by decide +kernel
theorem dX5_takes_64 : decode cX5_takes 64 = .ok (.getfield 17, 3) := by decide +kernel
theorem dX5_takes_67 : decode cX5_takes 67 = .ok (.iload_n 2, 1) := by decide +kernel
theorem dX5_takes_68 : decode cX5_takes 68 = .ok (.iaload, 1) := by decide +kernel
theorem dX5_takes_69 : decode cX5_takes 69 = .ok (.iconst 3, 1) := by decide +kernel
theorem dX5_takes_70 : decode cX5_takes 70 = .ok (.if_icmp .ne 17, 3) := by decide +kernel
theorem dX5_takes_73 : decode cX5_takes 73 = .ok (.iload_n 3, 1) := by decide +kernel
theorem dX5_takes_74 : decode cX5_takes 74 = .ok (.aload_n 0, 1) := by decide +kernel
theorem dX5_takes_75 : decode cX5_takes 75 = .ok (.getfield 13, 3) := by decide +kernel
theorem dX5_takes_78 : decode cX5_takes 78 = .ok (.iconst 2, 1) := by decide +kernel
theorem dX5_takes_79 : decode cX5_takes 79 = .ok (.idiv, 1) := by decide +kernel
theorem dX5_takes_80 : decode cX5_takes 80 = .ok (.if_icmp .ne 7, 3) := by decide +kernel
theorem dX5_takes_83 : decode cX5_takes 83 = .ok (.iconst 2, 1) := by decide +kernel
theorem dX5_takes_84 : decode cX5_takes 84 = .ok (.goto 4, 3) := by decide +kernel
theorem dX5_takes_87 : decode cX5_takes 87 = .ok (.iconst 0, 1) := by decide +kernel
theorem dX5_takes_88 : decode cX5_takes 88 = .ok (.iadd, 1) := by decide +kernel
theorem dX5_takes_89 : decode cX5_takes 89 = .ok (.istore 5, 2) := by decide +kernel
theorem dX5_takes_91 : decode cX5_takes 91 = .ok (.iload 5, 2) := by decide +kernel
theorem dX5_takes_93 : decode cX5_takes 93 = .ok (.aload_n 1, 1) := by decide +kernel
theorem dX5_takes_94 : decode cX5_takes 94 = .ok (.bipush 16, 2) := by decide +kernel
theorem dX5_takes_96 : decode cX5_takes 96 = .ok (.iload_n 2, 1) := by decide +kernel
theorem dX5_takes_97 : decode cX5_takes 97 = .ok (.iadd, 1) := by decide +kernel
theorem dX5_takes_98 : decode cX5_takes 98 = .ok (.iaload, 1) := by decide +kernel
theorem dX5_takes_99 : decode cX5_takes 99 = .ok (.iadd, 1) := by decide +kernel
theorem dX5_takes_100 : decode cX5_takes 100 = .ok (.ireturn, 1) := by decide +kernel
theorem dX5_next_0 : decode cX5_next 0 = .ok (.iload_n 0, 1) := by decide +kernel
theorem dX5_next_1 : decode cX5_next 1 = .ok (.iload_n 1, 1) := by decide +kernel
theorem dX5_next_2 : decode cX5_next 2 = .ok (.iconst 2, 1) := by decide +kernel
theorem dX5_next_3 : decode cX5_next 3 = .ok (.if_icmp .ne 7, 3) := by decide +kernel
theorem dX5_next_6 : decode cX5_next 6 = .ok (.iconst 2, 1) := by decide +kernel
theorem dX5_next_7 : decode cX5_next 7 = .ok (.goto 4, 3) := by decide +kernel
theorem dX5_next_10 : decode cX5_next 10 = .ok (.iconst 1, 1) := by decide +kernel
theorem dX5_next_11 : decode cX5_next 11 = .ok (.iadd, 1) := by decide +kernel
theorem dX5_next_12 : decode cX5_next 12 = .ok (.iconst 4, 1) := by decide +kernel
theorem dX5_next_13 : decode cX5_next 13 = .ok (.irem, 1) := by decide +kernel
theorem dX5_next_14 : decode cX5_next 14 = .ok (.ireturn, 1) := by decide +kernel
set_option maxRecDepth 20000 in
theorem ggX5_timeOf_X5_takes : GoodIn wsX5_timeOf wsX5_takes := goodIn_r _ [6, 7, 1, 8, 9, 5, 10, 14, 15, 16, 17, 18, 19, 20, 21, 22, 23, 24, 25, 26, 27, 28, 29, 30, 31, 32, 33, 34, 35, 36, 37, 38, 39, 40, 41, 42, 43, 44, 45, 46, 47, 48, 49, 50] (by decide +kernel) (by decide +kernel)
set_option maxRecDepth 20000 in
theorem gX5_timeOf_X5_takes : GoodIn wsX5_timeOf (wsV RX5 114 RX5 yX5_takes wsX5_takes) := goodIn_app (goodIn_of _ (by decide +kernel)) ggX5_timeOf_X5_takes
set_option maxRecDepth 20000 in
theorem ggX5_timeOf_X5_next : GoodIn wsX5_timeOf wsX5_next := goodIn_r _ [13] (by decide +kernel) (by decide +kernel)
set_option maxRecDepth 20000 in
theorem gX5_timeOf_X5_next : GoodIn wsX5_timeOf (va_wsS RX5 118 yX5_next wsX5_next) := goodIn_app (goodIn_of _ (by decide +kernel)) ggX5_timeOf_X5_next
theorem dX5_timeOf_0 : decode cX5_timeOf 0 = .ok (.iload 4, 2) := by decide +kernel
theorem dX5_timeOf_2 : decode cX5_timeOf 2 = .ok (.istore 6, 2) := by decide +kernel
theorem dX5_timeOf_4 : decode cX5_timeOf 4 = .ok (.iload 5, 2) := by decide +kernel
theorem dX5_timeOf_6 : decode cX5_timeOf 6 = .ok (.istore 7, 2) := by decide +kernel
theorem dX5_timeOf_8 : decode cX5_timeOf 8 = .ok (.iconst 0, 1) := by decide +kernel
theorem dX5_timeOf_9 : decode cX5_timeOf 9 = .ok (.istore 8, 2) := by decide +kernel
theorem dX5_timeOf_11 : decode cX5_timeOf 11 = .ok (.iconst 0, 1) := by decide +kernel
theorem dX5_timeOf_12 : decode cX5_timeOf 12 = .ok (.istore 9, 2) := by decide +kernel
theorem dX5_timeOf_14 : decode cX5_timeOf 14 = .ok (.iload 9, 2) := by decide +kernel
theorem dX5_timeOf_16 : decode cX5_timeOf 16 = .ok (.aload_n 0, 1) := by decide +kernel
theorem dX5_timeOf_17 : decode cX5_timeOf 17 = .ok (.getfield 13, 3) := by decide +kernel
theorem dX5_timeOf_20 : decode cX5_timeOf 20 = .ok (.if_icmp .ge 107, 3) := by decide +kernel
theorem dX5_timeOf_23 : decode cX5_timeOf 23 = .ok (.aload_n 0, 1) := by decide +kernel
theorem dX5_timeOf_24 : decode cX5_timeOf 24 = .ok (.aload_n 1, 1) := by decide +kernel
theorem dX5_timeOf_25 : decode cX5_timeOf 25 = .ok (.iload_n 2, 1) := by decide +kernel
theorem dX5_timeOf_26 : decode cX5_timeOf 26 = .ok (.iload 9, 2) := by decide +kernel
theorem dX5_timeOf_28 : decode cX5_timeOf 28 = .ok (.iload 6, 2) := by decide +kernel
theorem dX5_timeOf_30 : decode cX5_timeOf 30 = .ok (.invokevirtual 114, 3) := by decide +kernel
theorem dX5_timeOf_33 : decode cX5_timeOf 33 = .ok (.istore 10, 2) := by decide +kernel
theorem dX5_timeOf_35 : decode cX5_timeOf 35 = .ok (.aload_n 0, 1) := by decide +kernel
theorem dX5_timeOf_36 : decode cX5_timeOf 36 = .ok (.aload_n 1, 1) := by decide +kernel
theorem dX5_timeOf_37 : decode cX5_timeOf 37 = .ok (.iload_n 3, 1) := by decide +kernel
theorem dX5_timeOf_38 : decode cX5_timeOf 38 = .ok (.iload 9, 2) := by decide +kernel
theorem dX5_timeOf_40 : decode cX5_timeOf 40 = .ok (.iload 7, 2) := by decide +kernel
theorem dX5_timeOf_42 : decode cX5_timeOf 42 = .ok (.invokevirtual 114, 3) := by decide +kernel
theorem dX5_timeOf_45 : decode cX5_timeOf 45 = .ok (.istore 11, 2) := by decide +kernel
theorem dX5_timeOf_47 : decode cX5_timeOf 47 = .ok (.aload_n 1, 1) := by decide +kernel
theorem dX5_timeOf_48 : decode cX5_timeOf 48 = .ok (.iconst 0, 1) := by decide +kernel
theorem dX5_timeOf_49 : decode cX5_timeOf 49 = .ok (.iconst 4, 1) := by decide +kernel
theorem dX5_timeOf_50 : decode cX5_timeOf 50 = .ok (.iload_n 2, 1) := by decide +kernel
theorem dX5_timeOf_51 : decode cX5_timeOf 51 = .ok (.imul, 1) := by decide +kernel
theorem dX5_timeOf_52 : decode cX5_timeOf 52 = .ok (.iadd, 1) := by decide +kernel
theorem dX5_timeOf_53 : decode cX5_timeOf 53 = .ok (.iload 6, 2) := by decide +kernel
theorem dX5_timeOf_55 : decode cX5_timeOf 55 = .ok (.iadd, 1) := by decide +kernel
theorem dX5_timeOf_56 : decode cX5_timeOf 56 = .ok (.iaload, 1) := by decide +kernel
theorem dX5_timeOf_57 : decode cX5_timeOf 57 = .ok (.istore 12, 2) := by decide +kernel
theorem dX5_timeOf_59 : decode cX5_timeOf 59 = .ok (.aload_n 1, 1) := by decide +kernel
theorem dX5_timeOf_60 : decode cX5_timeOf 60 = .ok (.iconst 0, 1) := by decide +kernel
theorem dX5_timeOf_61 : decode cX5_timeOf 61 = .ok (.iconst 4, 1) := by decide +kernel
theorem dX5_timeOf_62 : decode cX5_timeOf 62 = .ok (.iload_n 3, 1) := by decide +kernel
theorem dX5_timeOf_63 : decode cX5_timeOf 63 = .ok (.imul, 1) := by decide +kernel
theorem dX5_timeOf_64 : decode cX5_timeOf 64 = .ok (.iadd, 1) := by decide +kernel
theorem dX5_timeOf_65 : decode cX5_timeOf 65 = .ok (.iload 7, 2) := by decide +kernel
theorem dX5_timeOf_67 : decode cX5_timeOf 67 = .ok (.iadd, 1) := by decide +kernel
theorem dX5_timeOf_68 : decode cX5_timeOf 68 = .ok (.iaload, 1) := by decide +kernel
theorem dX5_timeOf_69 : decode cX5_timeOf 69 = .ok (.istore 13, 2) := by decide +kernel
theorem dX5_timeOf_71 : decode cX5_timeOf 71 = .ok (.iload 8, 2) := by decide +kernel
theorem dX5_timeOf_73 : decode cX5_timeOf 73 = .ok (.iload 10, 2) := by decide +kernel
theorem dX5_timeOf_75 : decode cX5_timeOf 75 = .ok (.iload 11, 2) := by decide +kernel
theorem dX5_timeOf_77 : decode cX5_timeOf 77 = .ok (.if_icmp .le 8, 3) := by decide +kernel
theorem dX5_timeOf_80 : decode cX5_timeOf 80 = .ok (.iload 10, 2) := by decide +kernel
theorem dX5_timeOf_82 : decode cX5_timeOf 82 = .ok (.goto 5, 3) := by decide +kernel
theorem dX5_timeOf_85 : decode cX5_timeOf 85 = .ok (.iload 11, 2) := by decide +kernel
theorem dX5_timeOf_87 : decode cX5_timeOf 87 = .ok (.iload 12, 2) := by decide +kernel
theorem dX5_timeOf_89 : decode cX5_timeOf 89 = .ok (.iload 13, 2) := by decide +kernel
theorem dX5_timeOf_91 : decode cX5_timeOf 91 = .ok (.if_icmp .ne 7, 3) := by decide +kernel
theorem dX5_timeOf_94 : decode cX5_timeOf 94 = .ok (.iconst 0, 1) := by decide +kernel
theorem dX5_timeOf_95 : decode cX5_timeOf 95 = .ok (.goto 4, 3) := by decide +kernel
theorem dX5_timeOf_98 : decode cX5_timeOf 98 = .ok (.iconst 1, 1) := by decide +kernel
theorem dX5_timeOf_99 : decode cX5_timeOf 99 = .ok (.iadd, 1) := by decide +kernel
theorem dX5_timeOf_100 : decode cX5_timeOf 100 = .ok (.iadd, 1) := by decide +kernel
theorem dX5_timeOf_101 : decode cX5_timeOf 101 = .ok (.istore 8, 2) := by decide +kernel
theorem dX5_timeOf_103 : decode cX5_timeOf 103 = .ok (.iload 6, 2) := by decide +kernel
theorem dX5_timeOf_105 : decode cX5_timeOf 105 = .ok (.iload 12, 2) := by decide +kernel
theorem dX5_timeOf_107 : decode cX5_timeOf 107 = .ok (.invokestatic 118, 3) := by decide +kernel
theorem dX5_timeOf_110 : decode cX5_timeOf 110 = .ok (.istore 6, 2) := by decide +kernel
theorem dX5_timeOf_112 : decode cX5_timeOf 112 = .ok (.iload 7, 2) := by decide +kernel
theorem dX5_timeOf_114 : decode cX5_timeOf 114 = .ok (.iload 13, 2) := by decide +kernel
theorem dX5_timeOf_116 : decode cX5_timeOf 116 = .ok (.invokestatic 118, 3) := by decide +kernel
theorem dX5_timeOf_119 : decode cX5_timeOf 119 = .ok (.istore 7, 2) := by decide +kernel
theorem dX5_timeOf_121 : decode cX5_timeOf 121 = .ok (.iinc 9 1, 3) := by decide +kernel
theorem dX5_timeOf_124 : decode cX5_timeOf 124 = .ok (.goto (-110), 3) := by decide +kernel
theorem dX5_timeOf_127 : decode cX5_timeOf 127 = .ok (.iload 8, 2) := by decide +kernel
theorem dX5_timeOf_129 : decode cX5_timeOf 129 = .ok (.ireturn, 1) := by decide +kernel
theorem dX5_about_0 : decode cX5_about 0 = .ok (.aload_n 0, 1) := by decide +kernel
theorem dX5_about_1 : decode cX5_about 1 = .ok (.iconst 0, 1) := by decide +kernel
theorem dX5_about_2 : decode cX5_about 2 = .ok (.putfield 63, 3) := by decide +kernel
theorem dX5_about_5 : decode cX5_about 5 = .ok (.iload_n 1, 1) := by decide +kernel
theorem dX5_about_6 : decode cX5_about 6 = .ok (.tableswitch 92 0 7 #[46, 51, 56, 61, 69, 77, 82, 87], 46) := by decide +kernel
theorem dX5_about_52 : decode cX5_about 52 = .ok (.aload_n 0, 1) := by decide +kernel
theorem dX5_about_53 : decode cX5_about 53 = .ok (.getfield 13, 3) := by decide +kernel
theorem dX5_about_56 : decode cX5_about 56 = .ok (.ireturn, 1) := by decide +kernel
theorem dX5_about_57 : decode cX5_about 57 = .ok (.aload_n 0, 1) := by decide +kernel
theorem dX5_about_58 : decode cX5_about 58 = .ok (.getfield 66, 3) := by decide +kernel
theorem dX5_about_61 : decode cX5_about 61 = .ok (.ireturn, 1) := by decide +kernel
theorem dX5_about_62 : decode cX5_about 62 = .ok (.aload_n 0, 1) := by decide +kernel
theorem dX5_about_63 : decode cX5_about 63 = .ok (.getfield 73, 3) := by decide +kernel
theorem dX5_about_66 : decode cX5_about 66 = .ok (.ireturn, 1) := by decide +kernel
theorem dX5_about_67 : decode cX5_about 67 = .ok (.aload_n 0, 1) := by decide +kernel
theorem dX5_about_68 : decode cX5_about 68 = .ok (.getfield 29, 3) := by decide +kernel
theorem dX5_about_71 : decode cX5_about 71 = .ok (.bipush 20, 2) := by decide +kernel
theorem dX5_about_73 : decode cX5_about 73 = .ok (.iaload, 1) := by decide +kernel
theorem dX5_about_74 : decode cX5_about 74 = .ok (.ireturn, 1) := by decide +kernel
theorem dX5_about_75 : decode cX5_about 75 = .ok (.aload_n 0, 1) := by decide +kernel
theorem dX5_about_76 : decode cX5_about 76 = .ok (.getfield 29, 3) := by decide +kernel
theorem dX5_about_79 : decode cX5_about 79 = .ok (.bipush 21, 2) := by decide +kernel
theorem dX5_about_81 : decode cX5_about 81 = .ok (.iaload, 1) := by decide +kernel
theorem dX5_about_82 : decode cX5_about 82 = .ok (.ireturn, 1) := by decide +kernel
theorem dX5_about_83 : decode cX5_about 83 = .ok (.aload_n 0, 1) := by decide +kernel
theorem dX5_about_84 : decode cX5_about 84 = .ok (.getfield 107, 3) := by decide +kernel
theorem dX5_about_87 : decode cX5_about 87 = .ok (.ireturn, 1) := by decide +kernel
theorem dX5_about_88 : decode cX5_about 88 = .ok (.aload_n 0, 1) := by decide +kernel
theorem dX5_about_89 : decode cX5_about 89 = .ok (.getfield 121, 3) := by decide +kernel
theorem dX5_about_92 : decode cX5_about 92 = .ok (.ireturn, 1) := by decide +kernel
theorem dX5_about_93 : decode cX5_about 93 = .ok (.aload_n 0, 1) := by decide +kernel
theorem dX5_about_94 : decode cX5_about 94 = .ok (.getfield 78, 3) := by decide +kernel
theorem dX5_about_97 : decode cX5_about 97 = .ok (.ireturn, 1) := by decide +kernel
theorem dX5_about_98 : decode cX5_about 98 = .ok (.bipush (-2), 2) := by decide +kernel
theorem dX5_about_100 : decode cX5_about 100 = .ok (.ireturn, 1) := by decide +kernel
set_option maxRecDepth 20000 in
theorem ggX5_legger_X5_noLegger : GoodIn wsX5_legger wsX5_noLegger := goodIn_r _ [9, 10, 11, 12, 8, 13, 14, 15, 16, 17, 18, 19, 20, 21, 22, 23, 24, 25, 26, 27, 28, 29, 30, 31, 32, 33, 34, 35, 36, 37, 38, 39, 40, 41, 42, 43, 44, 45, 46, 47, 48, 49, 50] (by decide +kernel) (by decide +kernel)
set_option maxRecDepth 20000 in
theorem gX5_legger_X5_noLegger : GoodIn wsX5_legger (wsV RX5 124 RX5 yX5_noLegger wsX5_noLegger) := goodIn_app (goodIn_of _ (by decide +kernel)) ggX5_legger_X5_noLegger
set_option maxRecDepth 20000 in
theorem ggX5_legger_X5_in : GoodIn wsX5_legger wsX5_in := goodIn_r _ [13] (by decide +kernel) (by decide +kernel)
set_option maxRecDepth 20000 in
theorem gX5_legger_X5_in : GoodIn wsX5_legger (va_wsS RX5 69 yX5_in wsX5_in) := goodIn_app (goodIn_of _ (by decide +kernel)) ggX5_legger_X5_in
theorem dX5_legger_0 : decode cX5_legger 0 = .ok (.aload_n 0, 1) := by decide +kernel
theorem dX5_legger_1 : decode cX5_legger 1 = .ok (.iconst 0, 1) := by decide +kernel
theorem dX5_legger_2 : decode cX5_legger 2 = .ok (.putfield 63, 3) := by decide +kernel
theorem dX5_legger_5 : decode cX5_legger 5 = .ok (.aload_n 0, 1) := by decide +kernel
theorem dX5_legger_6 : decode cX5_legger 6 = .ok (.iload_n 1, 1) := by decide +kernel
theorem dX5_legger_7 : decode cX5_legger 7 = .ok (.invokevirtual 124, 3) := by decide +kernel
theorem dX5_legger_10 : decode cX5_legger 10 = .ok (.ifCond .eq 5, 3) := by decide +kernel
theorem dX5_legger_13 : decode cX5_legger 13 = .ok (.iconst (-1), 1) := by decide +kernel
theorem dX5_legger_14 : decode cX5_legger 14 = .ok (.ireturn, 1) := by decide +kernel
theorem dX5_legger_15 : decode cX5_legger 15 = .ok (.iload_n 2, 1) := by decide +kernel
theorem dX5_legger_16 : decode cX5_legger 16 = .ok (.i2l, 1) := by decide +kernel
theorem dX5_legger_17 : decode cX5_legger 17 = .ok (.lconst 0, 1) := by decide +kernel
theorem dX5_legger_18 : decode cX5_legger 18 = .ok (.ldc2_w 128, 3) := by decide +kernel
theorem dX5_legger_21 : decode cX5_legger 21 = .ok (.invokestatic 69, 3) := by decide +kernel
theorem dX5_legger_24 : decode cX5_legger 24 = .ok (.ifCond .eq 16, 3) := by decide +kernel
theorem dX5_legger_27 : decode cX5_legger 27 = .ok (.aload_n 0, 1) := by decide +kernel
theorem dX5_legger_28 : decode cX5_legger 28 = .ok (.getfield 29, 3) := by decide +kernel
theorem dX5_legger_31 : decode cX5_legger 31 = .ok (.iconst 0, 1) := by decide +kernel
theorem dX5_legger_32 : decode cX5_legger 32 = .ok (.iconst 4, 1) := by decide +kernel
theorem dX5_legger_33 : decode cX5_legger 33 = .ok (.iload_n 1, 1) := by decide +kernel
theorem dX5_legger_34 : decode cX5_legger 34 = .ok (.imul, 1) := by decide +kernel
theorem dX5_legger_35 : decode cX5_legger 35 = .ok (.iadd, 1) := by decide +kernel
theorem dX5_legger_36 : decode cX5_legger 36 = .ok (.iload_n 2, 1) := by decide +kernel
theorem dX5_legger_37 : decode cX5_legger 37 = .ok (.iadd, 1) := by decide +kernel
theorem dX5_legger_38 : decode cX5_legger 38 = .ok (.iaload, 1) := by decide +kernel
theorem dX5_legger_39 : decode cX5_legger 39 = .ok (.ireturn, 1) := by decide +kernel
theorem dX5_legger_40 : decode cX5_legger 40 = .ok (.iload_n 2, 1) := by decide +kernel
theorem dX5_legger_41 : decode cX5_legger 41 = .ok (.iconst 4, 1) := by decide +kernel
theorem dX5_legger_42 : decode cX5_legger 42 = .ok (.if_icmp .ne 12, 3) := by decide +kernel
theorem dX5_legger_45 : decode cX5_legger 45 = .ok (.aload_n 0, 1) := by decide +kernel
theorem dX5_legger_46 : decode cX5_legger 46 = .ok (.getfield 17, 3) := by decide +kernel
theorem dX5_legger_49 : decode cX5_legger 49 = .ok (.iload_n 1, 1) := by decide +kernel
theorem dX5_legger_50 : decode cX5_legger 50 = .ok (.iaload, 1) := by decide +kernel
theorem dX5_legger_51 : decode cX5_legger 51 = .ok (.goto 22, 3) := by decide +kernel
theorem dX5_legger_54 : decode cX5_legger 54 = .ok (.iload_n 2, 1) := by decide +kernel
theorem dX5_legger_55 : decode cX5_legger 55 = .ok (.iconst 5, 1) := by decide +kernel
theorem dX5_legger_56 : decode cX5_legger 56 = .ok (.if_icmp .ne 15, 3) := by decide +kernel
theorem dX5_legger_59 : decode cX5_legger 59 = .ok (.aload_n 0, 1) := by decide +kernel
theorem dX5_legger_60 : decode cX5_legger 60 = .ok (.getfield 29, 3) := by decide +kernel
theorem dX5_legger_63 : decode cX5_legger 63 = .ok (.bipush 16, 2) := by decide +kernel
