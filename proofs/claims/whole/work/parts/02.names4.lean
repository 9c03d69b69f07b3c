theorem dX5_legger_65 : decode cX5_legger 65 = .ok (.iload_n 1, 1) := by decide +kernel
theorem dX5_legger_66 : decode cX5_legger 66 = .ok (.iadd, 1) := by decide +kernel
theorem dX5_legger_67 : decode cX5_legger 67 = .ok (.iaload, 1) := by decide +kernel
theorem dX5_legger_68 : decode cX5_legger 68 = .ok (.goto 5, 3) := by decide +kernel
theorem dX5_legger_71 : decode cX5_legger 71 = .ok (.bipush (-2), 2) := by decide +kernel
theorem dX5_legger_73 : decode cX5_legger 73 = .ok (.ireturn, 1) := by decide +kernel
set_option maxRecDepth 20000 in
theorem ggX5_load_X5_noBoat : GoodIn wsX5_load wsX5_noBoat := goodIn_r _ [7, 8, 9, 10, 6, 11, 12, 13, 14, 15, 16, 17, 18, 19, 20, 21, 22, 23, 24, 25, 26, 27, 28, 29, 30, 31, 32, 33, 34, 35, 36, 37, 38, 39, 40, 41, 42, 43, 44, 45, 46, 47, 48] (by decide +kernel) (by decide +kernel)
set_option maxRecDepth 20000 in
theorem gX5_load_X5_noBoat : GoodIn wsX5_load (wsV RX5 130 RX5 yX5_noBoat wsX5_noBoat) := goodIn_app (goodIn_of _ (by decide +kernel)) ggX5_load_X5_noBoat
theorem dX5_load_0 : decode cX5_load 0 = .ok (.aload_n 0, 1) := by decide +kernel
theorem dX5_load_1 : decode cX5_load 1 = .ok (.iconst 0, 1) := by decide +kernel
theorem dX5_load_2 : decode cX5_load 2 = .ok (.putfield 63, 3) := by decide +kernel
theorem dX5_load_5 : decode cX5_load 5 = .ok (.aload_n 0, 1) := by decide +kernel
theorem dX5_load_6 : decode cX5_load 6 = .ok (.iload_n 1, 1) := by decide +kernel
theorem dX5_load_7 : decode cX5_load 7 = .ok (.invokevirtual 130, 3) := by decide +kernel
theorem dX5_load_10 : decode cX5_load 10 = .ok (.ifCond .eq 7, 3) := by decide +kernel
theorem dX5_load_13 : decode cX5_load 13 = .ok (.iconst (-1), 1) := by decide +kernel
theorem dX5_load_14 : decode cX5_load 14 = .ok (.goto 9, 3) := by decide +kernel
theorem dX5_load_17 : decode cX5_load 17 = .ok (.aload_n 0, 1) := by decide +kernel
theorem dX5_load_18 : decode cX5_load 18 = .ok (.getfield 20, 3) := by decide +kernel
theorem dX5_load_21 : decode cX5_load 21 = .ok (.iload_n 1, 1) := by decide +kernel
theorem dX5_load_22 : decode cX5_load 22 = .ok (.iaload, 1) := by decide +kernel
theorem dX5_load_23 : decode cX5_load 23 = .ok (.ireturn, 1) := by decide +kernel
theorem dX5_note_0 : decode cX5_note 0 = .ok (.aload_n 0, 1) := by decide +kernel
theorem dX5_note_1 : decode cX5_note 1 = .ok (.getfield 107, 3) := by decide +kernel
theorem dX5_note_4 : decode cX5_note 4 = .ok (.bipush 14, 2) := by decide +kernel
theorem dX5_note_6 : decode cX5_note 6 = .ok (.if_icmp .ne 43, 3) := by decide +kernel
theorem dX5_note_9 : decode cX5_note 9 = .ok (.iconst 0, 1) := by decide +kernel
theorem dX5_note_10 : decode cX5_note 10 = .ok (.istore_n 1, 1) := by decide +kernel
theorem dX5_note_11 : decode cX5_note 11 = .ok (.iload_n 1, 1) := by decide +kernel
theorem dX5_note_12 : decode cX5_note 12 = .ok (.sipush 286, 3) := by decide +kernel
theorem dX5_note_15 : decode cX5_note 15 = .ok (.if_icmp .ge 24, 3) := by decide +kernel
theorem dX5_note_18 : decode cX5_note 18 = .ok (.aload_n 0, 1) := by decide +kernel
theorem dX5_note_19 : decode cX5_note 19 = .ok (.getfield 38, 3) := by decide +kernel
theorem dX5_note_22 : decode cX5_note 22 = .ok (.iload_n 1, 1) := by decide +kernel
theorem dX5_note_23 : decode cX5_note 23 = .ok (.aload_n 0, 1) := by decide +kernel
theorem dX5_note_24 : decode cX5_note 24 = .ok (.getfield 38, 3) := by decide +kernel
theorem dX5_note_27 : decode cX5_note 27 = .ok (.iload_n 1, 1) := by decide +kernel
theorem dX5_note_28 : decode cX5_note 28 = .ok (.bipush 22, 2) := by decide +kernel
theorem dX5_note_30 : decode cX5_note 30 = .ok (.iadd, 1) := by decide +kernel
theorem dX5_note_31 : decode cX5_note 31 = .ok (.iaload, 1) := by decide +kernel
theorem dX5_note_32 : decode cX5_note 32 = .ok (.iastore, 1) := by decide +kernel
theorem dX5_note_33 : decode cX5_note 33 = .ok (.iinc 1 1, 3) := by decide +kernel
theorem dX5_note_36 : decode cX5_note 36 = .ok (.goto (-25), 3) := by decide +kernel
theorem dX5_note_39 : decode cX5_note 39 = .ok (.aload_n 0, 1) := by decide +kernel
theorem dX5_note_40 : decode cX5_note 40 = .ok (.dup, 1) := by decide +kernel
theorem dX5_note_41 : decode cX5_note 41 = .ok (.getfield 107, 3) := by decide +kernel
theorem dX5_note_44 : decode cX5_note 44 = .ok (.iconst 1, 1) := by decide +kernel
theorem dX5_note_45 : decode cX5_note 45 = .ok (.isub, 1) := by decide +kernel
theorem dX5_note_46 : decode cX5_note 46 = .ok (.putfield 107, 3) := by decide +kernel
theorem dX5_note_49 : decode cX5_note 49 = .ok (.iconst 0, 1) := by decide +kernel
theorem dX5_note_50 : decode cX5_note 50 = .ok (.istore_n 1, 1) := by decide +kernel
theorem dX5_note_51 : decode cX5_note 51 = .ok (.iload_n 1, 1) := by decide +kernel
theorem dX5_note_52 : decode cX5_note 52 = .ok (.bipush 22, 2) := by decide +kernel
theorem dX5_note_54 : decode cX5_note 54 = .ok (.if_icmp .ge 29, 3) := by decide +kernel
theorem dX5_note_57 : decode cX5_note 57 = .ok (.aload_n 0, 1) := by decide +kernel
theorem dX5_note_58 : decode cX5_note 58 = .ok (.getfield 38, 3) := by decide +kernel
theorem dX5_note_61 : decode cX5_note 61 = .ok (.bipush 22, 2) := by decide +kernel
theorem dX5_note_63 : decode cX5_note 63 = .ok (.aload_n 0, 1) := by decide +kernel
theorem dX5_note_64 : decode cX5_note 64 = .ok (.getfield 107, 3) := by decide +kernel
theorem dX5_note_67 : decode cX5_note 67 = .ok (.imul, 1) := by decide +kernel
theorem dX5_note_68 : decode cX5_note 68 = .ok (.iload_n 1, 1) := by decide +kernel
theorem dX5_note_69 : decode cX5_note 69 = .ok (.iadd, 1) := by decide +kernel
theorem dX5_note_70 : decode cX5_note 70 = .ok (.aload_n 0, 1) := by decide +kernel
theorem dX5_note_71 : decode cX5_note 71 = .ok (.getfield 29, 3) := by decide +kernel
theorem dX5_note_74 : decode cX5_note 74 = .ok (.iload_n 1, 1) := by decide +kernel
theorem dX5_note_75 : decode cX5_note 75 = .ok (.iaload, 1) := by decide +kernel
theorem dX5_note_76 : decode cX5_note 76 = .ok (.iastore, 1) := by decide +kernel
theorem dX5_note_77 : decode cX5_note 77 = .ok (.iinc 1 1, 3) := by decide +kernel
theorem dX5_note_80 : decode cX5_note 80 = .ok (.goto (-29), 3) := by decide +kernel
theorem dX5_note_83 : decode cX5_note 83 = .ok (.aload_n 0, 1) := by decide +kernel
theorem dX5_note_84 : decode cX5_note 84 = .ok (.dup, 1) := by decide +kernel
theorem dX5_note_85 : decode cX5_note 85 = .ok (.getfield 107, 3) := by decide +kernel
theorem dX5_note_88 : decode cX5_note 88 = .ok (.iconst 1, 1) := by decide +kernel
theorem dX5_note_89 : decode cX5_note 89 = .ok (.iadd, 1) := by decide +kernel
theorem dX5_note_90 : decode cX5_note 90 = .ok (.putfield 107, 3) := by decide +kernel
theorem dX5_note_93 : decode cX5_note 93 = .ok (.return_, 1) := by decide +kernel
set_option maxRecDepth 20000 in
theorem ggX5_goLeg_X5_timeOf : GoodIn wsX5_goLeg wsX5_timeOf := goodIn_r _ [6, 7, 8, 9, 10, 5, 11, 12, 13, 14, 15, 16, 17, 18, 19, 20, 21, 22, 23, 24, 25, 26, 27, 28, 29, 30, 31, 32, 33, 34, 35, 36, 37, 38, 39, 40, 41, 42, 43, 44, 45, 46, 47, 48, 49, 50, 51, 52, 53, 54, 55] (by decide +kernel) (by decide +kernel)
set_option maxRecDepth 20000 in
theorem gX5_goLeg_X5_timeOf : GoodIn wsX5_goLeg (wsV RX5 133 RX5 yX5_timeOf wsX5_timeOf) := goodIn_app (goodIn_of _ (by decide +kernel)) ggX5_goLeg_X5_timeOf
theorem dX5_goLeg_0 : decode cX5_goLeg 0 = .ok (.aload_n 1, 1) := by decide +kernel
theorem dX5_goLeg_1 : decode cX5_goLeg 1 = .ok (.bipush 21, 2) := by decide +kernel
theorem dX5_goLeg_3 : decode cX5_goLeg 3 = .ok (.dup2, 1) := by decide +kernel
theorem dX5_goLeg_4 : decode cX5_goLeg 4 = .ok (.iaload, 1) := by decide +kernel
theorem dX5_goLeg_5 : decode cX5_goLeg 5 = .ok (.aload_n 0, 1) := by decide +kernel
theorem dX5_goLeg_6 : decode cX5_goLeg 6 = .ok (.aload_n 1, 1) := by decide +kernel
theorem dX5_goLeg_7 : decode cX5_goLeg 7 = .ok (.iload_n 3, 1) := by decide +kernel
theorem dX5_goLeg_8 : decode cX5_goLeg 8 = .ok (.iload 4, 2) := by decide +kernel
theorem dX5_goLeg_10 : decode cX5_goLeg 10 = .ok (.iconst 0, 1) := by decide +kernel
theorem dX5_goLeg_11 : decode cX5_goLeg 11 = .ok (.iconst 0, 1) := by decide +kernel
theorem dX5_goLeg_12 : decode cX5_goLeg 12 = .ok (.invokevirtual 133, 3) := by decide +kernel
theorem dX5_goLeg_15 : decode cX5_goLeg 15 = .ok (.aload_n 0, 1) := by decide +kernel
theorem dX5_goLeg_16 : decode cX5_goLeg 16 = .ok (.getfield 20, 3) := by decide +kernel
theorem dX5_goLeg_19 : decode cX5_goLeg 19 = .ok (.iload_n 2, 1) := by decide +kernel
theorem dX5_goLeg_20 : decode cX5_goLeg 20 = .ok (.iaload, 1) := by decide +kernel
theorem dX5_goLeg_21 : decode cX5_goLeg 21 = .ok (.iadd, 1) := by decide +kernel
theorem dX5_goLeg_22 : decode cX5_goLeg 22 = .ok (.iadd, 1) := by decide +kernel
theorem dX5_goLeg_23 : decode cX5_goLeg 23 = .ok (.iastore, 1) := by decide +kernel
theorem dX5_goLeg_24 : decode cX5_goLeg 24 = .ok (.aload_n 1, 1) := by decide +kernel
theorem dX5_goLeg_25 : decode cX5_goLeg 25 = .ok (.bipush 20, 2) := by decide +kernel
theorem dX5_goLeg_27 : decode cX5_goLeg 27 = .ok (.dup2, 1) := by decide +kernel
theorem dX5_goLeg_28 : decode cX5_goLeg 28 = .ok (.iaload, 1) := by decide +kernel
theorem dX5_goLeg_29 : decode cX5_goLeg 29 = .ok (.iconst 1, 1) := by decide +kernel
theorem dX5_goLeg_30 : decode cX5_goLeg 30 = .ok (.iload_n 2, 1) := by decide +kernel
theorem dX5_goLeg_31 : decode cX5_goLeg 31 = .ok (.ishl, 1) := by decide +kernel
theorem dX5_goLeg_32 : decode cX5_goLeg 32 = .ok (.ior, 1) := by decide +kernel
theorem dX5_goLeg_33 : decode cX5_goLeg 33 = .ok (.iastore, 1) := by decide +kernel
theorem dX5_goLeg_34 : decode cX5_goLeg 34 = .ok (.aload_n 1, 1) := by decide +kernel
theorem dX5_goLeg_35 : decode cX5_goLeg 35 = .ok (.bipush 16, 2) := by decide +kernel
theorem dX5_goLeg_37 : decode cX5_goLeg 37 = .ok (.iload_n 3, 1) := by decide +kernel
theorem dX5_goLeg_38 : decode cX5_goLeg 38 = .ok (.iadd, 1) := by decide +kernel
theorem dX5_goLeg_39 : decode cX5_goLeg 39 = .ok (.dup2, 1) := by decide +kernel
theorem dX5_goLeg_40 : decode cX5_goLeg 40 = .ok (.iaload, 1) := by decide +kernel
theorem dX5_goLeg_41 : decode cX5_goLeg 41 = .ok (.aload_n 1, 1) := by decide +kernel
theorem dX5_goLeg_42 : decode cX5_goLeg 42 = .ok (.bipush 16, 2) := by decide +kernel
theorem dX5_goLeg_44 : decode cX5_goLeg 44 = .ok (.iload_n 3, 1) := by decide +kernel
theorem dX5_goLeg_45 : decode cX5_goLeg 45 = .ok (.iadd, 1) := by decide +kernel
theorem dX5_goLeg_46 : decode cX5_goLeg 46 = .ok (.iaload, 1) := by decide +kernel
theorem dX5_goLeg_47 : decode cX5_goLeg 47 = .ok (.iconst 3, 1) := by decide +kernel
theorem dX5_goLeg_48 : decode cX5_goLeg 48 = .ok (.if_icmp .ge 7, 3) := by decide +kernel
theorem dX5_goLeg_51 : decode cX5_goLeg 51 = .ok (.iconst 1, 1) := by decide +kernel
theorem dX5_goLeg_52 : decode cX5_goLeg 52 = .ok (.goto 4, 3) := by decide +kernel
theorem dX5_goLeg_55 : decode cX5_goLeg 55 = .ok (.iconst 0, 1) := by decide +kernel
theorem dX5_goLeg_56 : decode cX5_goLeg 56 = .ok (.iadd, 1) := by decide +kernel
theorem dX5_goLeg_57 : decode cX5_goLeg 57 = .ok (.iastore, 1) := by decide +kernel
theorem dX5_goLeg_58 : decode cX5_goLeg 58 = .ok (.aload_n 1, 1) := by decide +kernel
theorem dX5_goLeg_59 : decode cX5_goLeg 59 = .ok (.bipush 16, 2) := by decide +kernel
theorem dX5_goLeg_61 : decode cX5_goLeg 61 = .ok (.iload 4, 2) := by decide +kernel
theorem dX5_goLeg_63 : decode cX5_goLeg 63 = .ok (.iadd, 1) := by decide +kernel
theorem dX5_goLeg_64 : decode cX5_goLeg 64 = .ok (.dup2, 1) := by decide +kernel
theorem dX5_goLeg_65 : decode cX5_goLeg 65 = .ok (.iaload, 1) := by decide +kernel
theorem dX5_goLeg_66 : decode cX5_goLeg 66 = .ok (.aload_n 1, 1) := by decide +kernel
theorem dX5_goLeg_67 : decode cX5_goLeg 67 = .ok (.bipush 16, 2) := by decide +kernel
theorem dX5_goLeg_69 : decode cX5_goLeg 69 = .ok (.iload 4, 2) := by decide +kernel
theorem dX5_goLeg_71 : decode cX5_goLeg 71 = .ok (.iadd, 1) := by decide +kernel
theorem dX5_goLeg_72 : decode cX5_goLeg 72 = .ok (.iaload, 1) := by decide +kernel
theorem dX5_goLeg_73 : decode cX5_goLeg 73 = .ok (.iconst 3, 1) := by decide +kernel
theorem dX5_goLeg_74 : decode cX5_goLeg 74 = .ok (.if_icmp .ge 7, 3) := by decide +kernel
theorem dX5_goLeg_77 : decode cX5_goLeg 77 = .ok (.iconst 1, 1) := by decide +kernel
theorem dX5_goLeg_78 : decode cX5_goLeg 78 = .ok (.goto 4, 3) := by decide +kernel
theorem dX5_goLeg_81 : decode cX5_goLeg 81 = .ok (.iconst 0, 1) := by decide +kernel
theorem dX5_goLeg_82 : decode cX5_goLeg 82 = .ok (.iadd, 1) := by decide +kernel
theorem dX5_goLeg_83 : decode cX5_goLeg 83 = .ok (.iastore, 1) := by decide +kernel
theorem dX5_goLeg_84 : decode cX5_goLeg 84 = .ok (.return_, 1) := by decide +kernel
set_option maxRecDepth 20000 in
theorem ggX5_noPair_X5_noBoat : GoodIn wsX5_noPair wsX5_noBoat := goodIn_r _ [5, 6, 7, 8, 4, 9, 15, 16, 17, 18, 19, 20, 21, 22, 23, 24, 25, 26, 27, 28, 29, 30, 31, 32, 33, 34, 35, 36, 37, 38, 39, 40, 41, 42, 43, 44, 45, 46, 47, 48, 49, 50, 51] (by decide +kernel) (by decide +kernel)
set_option maxRecDepth 20000 in
theorem gX5_noPair_X5_noBoat : GoodIn wsX5_noPair (wsV RX5 130 RX5 yX5_noBoat wsX5_noBoat) := goodIn_app (goodIn_of _ (by decide +kernel)) ggX5_noPair_X5_noBoat
set_option maxRecDepth 20000 in
theorem ggX5_noPair_X5_noLegger : GoodIn wsX5_noPair wsX5_noLegger := goodIn_r _ [13, 14, 7, 8, 4, 9, 15, 16, 17, 18, 19, 20, 21, 22, 23, 24, 25, 26, 27, 28, 29, 30, 31, 32, 33, 34, 35, 36, 37, 38, 39, 40, 41, 42, 43, 44, 45, 46, 47, 48, 49, 50, 51] (by decide +kernel) (by decide +kernel)
set_option maxRecDepth 20000 in
theorem gX5_noPair_X5_noLegger : GoodIn wsX5_noPair (wsV RX5 124 RX5 yX5_noLegger wsX5_noLegger) := goodIn_app (goodIn_of _ (by decide +kernel)) ggX5_noPair_X5_noLegger
theorem dX5_noPair_0 : decode cX5_noPair 0 = .ok (.aload_n 0, 1) := by decide +kernel
theorem dX5_noPair_1 : decode cX5_noPair 1 = .ok (.iload_n 1, 1) := by decide +kernel
theorem dX5_noPair_2 : decode cX5_noPair 2 = .ok (.invokevirtual 130, 3) := by decide +kernel
theorem dX5_noPair_5 : decode cX5_noPair 5 = .ok (.ifCond .ne 19, 3) := by decide +kernel
theorem dX5_noPair_8 : decode cX5_noPair 8 = .ok (.aload_n 0, 1) := by decide +kernel
theorem dX5_noPair_9 : decode cX5_noPair 9 = .ok (.iload_n 2, 1) := by decide +kernel
theorem dX5_noPair_10 : decode cX5_noPair 10 = .ok (.invokevirtual 124, 3) := by decide +kernel
theorem dX5_noPair_13 : decode cX5_noPair 13 = .ok (.ifCond .ne 11, 3) := by decide +kernel
theorem dX5_noPair_16 : decode cX5_noPair 16 = .ok (.aload_n 0, 1) := by decide +kernel
theorem dX5_noPair_17 : decode cX5_noPair 17 = .ok (.iload_n 3, 1) := by decide +kernel
theorem dX5_noPair_18 : decode cX5_noPair 18 = .ok (.invokevirtual 124, 3) := by decide +kernel
theorem dX5_noPair_21 : decode cX5_noPair 21 = .ok (.ifCond .eq 5, 3) := by decide +kernel
theorem dX5_noPair_24 : decode cX5_noPair 24 = .ok (.iconst (-1), 1) := by decide +kernel
theorem dX5_noPair_25 : decode cX5_noPair 25 = .ok (.ireturn, 1) := by decide +kernel
theorem dX5_noPair_26 : decode cX5_noPair 26 = .ok (.iload_n 2, 1) := by decide +kernel
theorem dX5_noPair_27 : decode cX5_noPair 27 = .ok (.iload_n 3, 1) := by decide +kernel
theorem dX5_noPair_28 : decode cX5_noPair 28 = .ok (.if_icmp .ne 8, 3) := by decide +kernel
theorem dX5_noPair_31 : decode cX5_noPair 31 = .ok (.bipush (-2), 2) := by decide +kernel
theorem dX5_noPair_33 : decode cX5_noPair 33 = .ok (.goto 4, 3) := by decide +kernel
theorem dX5_noPair_36 : decode cX5_noPair 36 = .ok (.iconst 0, 1) := by decide +kernel
theorem dX5_noPair_37 : decode cX5_noPair 37 = .ok (.ireturn, 1) := by decide +kernel
set_option maxRecDepth 20000 in
theorem ggX5_leg_X5_noPair : GoodIn wsX5_leg wsX5_noPair := goodIn_r _ [7, 8, 9, 10, 6, 11, 12, 13, 14, 15, 16, 17, 18, 19, 20, 51, 52, 53, 54, 55, 56, 57, 58, 59, 60, 61, 62, 63, 64, 65, 66, 67, 68, 69, 70, 71, 72, 73, 74, 75, 76, 77, 78, 79, 80, 81, 82, 83, 84, 85, 86, 87] (by decide +kernel) (by decide +kernel)
set_option maxRecDepth 20000 in
theorem gX5_leg_X5_noPair : GoodIn wsX5_leg (wsV RX5 137 RX5 yX5_noPair wsX5_noPair) := goodIn_app (goodIn_of _ (by decide +kernel)) ggX5_leg_X5_noPair
set_option maxRecDepth 20000 in
theorem ggX5_leg_X5_has : GoodIn wsX5_leg wsX5_has := goodIn_r _ [23] (by decide +kernel) (by decide +kernel)
set_option maxRecDepth 20000 in
theorem gX5_leg_X5_has : GoodIn wsX5_leg (va_wsS RX5 141 yX5_has wsX5_has) := goodIn_app (goodIn_of _ (by decide +kernel)) ggX5_leg_X5_has
set_option maxRecDepth 20000 in
theorem ggX5_leg_X5_note : GoodIn wsX5_leg wsX5_note := goodIn_r _ [27, 28, 29, 2, 51, 52, 53, 54, 55, 56, 57, 58, 59, 60, 61, 62, 63, 64, 65, 66, 67, 68, 69, 70, 71, 72, 73, 74, 75, 76, 77, 78, 79, 80, 81, 82, 83, 84, 85, 86, 87] (by decide +kernel) (by decide +kernel)
set_option maxRecDepth 20000 in
theorem gX5_leg_X5_note : GoodIn wsX5_leg (wsV RX5 145 RX5 yX5_note wsX5_note) := goodIn_app (goodIn_of _ (by decide +kernel)) ggX5_leg_X5_note
set_option maxRecDepth 20000 in
theorem ggX5_leg_X5_goLeg : GoodIn wsX5_leg wsX5_goLeg := goodIn_r _ [33, 34, 35, 36, 37, 6, 38, 39, 40, 41, 42, 43, 44, 45, 46, 47, 48, 49, 50, 51, 52, 53, 54, 55, 56, 57, 58, 59, 60, 61, 62, 63, 64, 65, 66, 67, 68, 69, 70, 71, 72, 73, 74, 75, 76, 77, 78, 79, 80, 81, 82, 83, 84, 85, 86, 87] (by decide +kernel) (by decide +kernel)
set_option maxRecDepth 20000 in
theorem gX5_leg_X5_goLeg : GoodIn wsX5_leg (wsV RX5 148 RX5 yX5_goLeg wsX5_goLeg) := goodIn_app (goodIn_of _ (by decide +kernel)) ggX5_leg_X5_goLeg
theorem dX5_leg_0 : decode cX5_leg 0 = .ok (.aload_n 0, 1) := by decide +kernel
theorem dX5_leg_1 : decode cX5_leg 1 = .ok (.iconst 0, 1) := by decide +kernel
theorem dX5_leg_2 : decode cX5_leg 2 = .ok (.putfield 63, 3) := by decide +kernel
theorem dX5_leg_5 : decode cX5_leg 5 = .ok (.aload_n 0, 1) := by decide +kernel
theorem dX5_leg_6 : decode cX5_leg 6 = .ok (.iload_n 1, 1) := by decide +kernel
theorem dX5_leg_7 : decode cX5_leg 7 = .ok (.iload_n 2, 1) := by decide +kernel
theorem dX5_leg_8 : decode cX5_leg 8 = .ok (.iload_n 3, 1) := by decide +kernel
theorem dX5_leg_9 : decode cX5_leg 9 = .ok (.invokevirtual 137, 3) := by decide +kernel
theorem dX5_leg_12 : decode cX5_leg 12 = .ok (.istore 4, 2) := by decide +kernel
theorem dX5_leg_14 : decode cX5_leg 14 = .ok (.iload 4, 2) := by decide +kernel
theorem dX5_leg_16 : decode cX5_leg 16 = .ok (.ifCond .eq 6, 3) := by decide +kernel
theorem dX5_leg_19 : decode cX5_leg 19 = .ok (.iload 4, 2) := by decide +kernel
theorem dX5_leg_21 : decode cX5_leg 21 = .ok (.ireturn, 1) := by decide +kernel
theorem dX5_leg_22 : decode cX5_leg 22 = .ok (.aload_n 0, 1) := by decide +kernel
theorem dX5_leg_23 : decode cX5_leg 23 = .ok (.getfield 29, 3) := by decide +kernel
theorem dX5_leg_26 : decode cX5_leg 26 = .ok (.bipush 20, 2) := by decide +kernel
theorem dX5_leg_28 : decode cX5_leg 28 = .ok (.iaload, 1) := by decide +kernel
theorem dX5_leg_29 : decode cX5_leg 29 = .ok (.iload_n 1, 1) := by decide +kernel
theorem dX5_leg_30 : decode cX5_leg 30 = .ok (.invokestatic 141, 3) := by decide +kernel
theorem dX5_leg_33 : decode cX5_leg 33 = .ok (.ifCond .eq 6, 3) := by decide +kernel
theorem dX5_leg_36 : decode cX5_leg 36 = .ok (.bipush (-3), 2) := by decide +kernel
theorem dX5_leg_38 : decode cX5_leg 38 = .ok (.ireturn, 1) := by decide +kernel
theorem dX5_leg_39 : decode cX5_leg 39 = .ok (.aload_n 0, 1) := by decide +kernel
theorem dX5_leg_40 : decode cX5_leg 40 = .ok (.invokevirtual 145, 3) := by decide +kernel
theorem dX5_leg_43 : decode cX5_leg 43 = .ok (.aload_n 0, 1) := by decide +kernel
theorem dX5_leg_44 : decode cX5_leg 44 = .ok (.aload_n 0, 1) := by decide +kernel
theorem dX5_leg_45 : decode cX5_leg 45 = .ok (.getfield 29, 3) := by decide +kernel
theorem dX5_leg_48 : decode cX5_leg 48 = .ok (.iload_n 1, 1) := by decide +kernel
theorem dX5_leg_49 : decode cX5_leg 49 = .ok (.iload_n 2, 1) := by decide +kernel
theorem dX5_leg_50 : decode cX5_leg 50 = .ok (.iload_n 3, 1) := by decide +kernel
theorem dX5_leg_51 : decode cX5_leg 51 = .ok (.invokevirtual 148, 3) := by decide +kernel
theorem dX5_leg_54 : decode cX5_leg 54 = .ok (.aload_n 0, 1) := by decide +kernel
theorem dX5_leg_55 : decode cX5_leg 55 = .ok (.getfield 29, 3) := by decide +kernel
theorem dX5_leg_58 : decode cX5_leg 58 = .ok (.bipush 21, 2) := by decide +kernel
theorem dX5_leg_60 : decode cX5_leg 60 = .ok (.iaload, 1) := by decide +kernel
theorem dX5_leg_61 : decode cX5_leg 61 = .ok (.ireturn, 1) := by decide +kernel
set_option maxRecDepth 20000 in
theorem ggX5_rest_X5_noLegger : GoodIn wsX5_rest wsX5_noLegger := goodIn_r _ [7, 8, 9, 10, 6, 11, 18, 19, 20, 21, 22, 23, 24, 25, 26, 27, 28, 29, 30, 31, 32, 33, 34, 35, 36, 37, 38, 39, 40, 41, 42, 43, 44, 45, 46, 47, 48, 49, 50, 51, 52, 53, 54] (by decide +kernel) (by decide +kernel)
set_option maxRecDepth 20000 in
theorem gX5_rest_X5_noLegger : GoodIn wsX5_rest (wsV RX5 124 RX5 yX5_noLegger wsX5_noLegger) := goodIn_app (goodIn_of _ (by decide +kernel)) ggX5_rest_X5_noLegger
set_option maxRecDepth 20000 in
theorem ggX5_rest_X5_note : GoodIn wsX5_rest wsX5_note := goodIn_r _ [15, 16, 17, 2, 18, 19, 20, 21, 22, 23, 24, 25, 26, 27, 28, 29, 30, 31, 32, 33, 34, 35, 36, 37, 38, 39, 40, 41, 42, 43, 44, 45, 46, 47, 48, 49, 50, 51, 52, 53, 54] (by decide +kernel) (by decide +kernel)
set_option maxRecDepth 20000 in
theorem gX5_rest_X5_note : GoodIn wsX5_rest (wsV RX5 145 RX5 yX5_note wsX5_note) := goodIn_app (goodIn_of _ (by decide +kernel)) ggX5_rest_X5_note
theorem dX5_rest_0 : decode cX5_rest 0 = .ok (.aload_n 0, 1) := by decide +kernel
theorem dX5_rest_1 : decode cX5_rest 1 = .ok (.iconst 0, 1) := by decide +kernel
theorem dX5_rest_2 : decode cX5_rest 2 = .ok (.putfield 63, 3) := by decide +kernel
theorem dX5_rest_5 : decode cX5_rest 5 = .ok (.aload_n 0, 1) := by decide +kernel
theorem dX5_rest_6 : decode cX5_rest 6 = .ok (.iload_n 1, 1) := by decide +kernel
theorem dX5_rest_7 : decode cX5_rest 7 = .ok (.invokevirtual 124, 3) := by decide +kernel
theorem dX5_rest_10 : decode cX5_rest 10 = .ok (.ifCond .eq 5, 3) := by decide +kernel
theorem dX5_rest_13 : decode cX5_rest 13 = .ok (.iconst (-1), 1) := by decide +kernel
theorem dX5_rest_14 : decode cX5_rest 14 = .ok (.ireturn, 1) := by decide +kernel
theorem dX5_rest_15 : decode cX5_rest 15 = .ok (.aload_n 0, 1) := by decide +kernel
theorem dX5_rest_16 : decode cX5_rest 16 = .ok (.getfield 29, 3) := by decide +kernel
theorem dX5_rest_19 : decode cX5_rest 19 = .ok (.bipush 16, 2) := by decide +kernel
theorem dX5_rest_21 : decode cX5_rest 21 = .ok (.iload_n 1, 1) := by decide +kernel
theorem dX5_rest_22 : decode cX5_rest 22 = .ok (.iadd, 1) := by decide +kernel
theorem dX5_rest_23 : decode cX5_rest 23 = .ok (.iaload, 1) := by decide +kernel
theorem dX5_rest_24 : decode cX5_rest 24 = .ok (.ifCond .ne 6, 3) := by decide +kernel
theorem dX5_rest_27 : decode cX5_rest 27 = .ok (.bipush (-3), 2) := by decide +kernel
theorem dX5_rest_29 : decode cX5_rest 29 = .ok (.ireturn, 1) := by decide +kernel
theorem dX5_rest_30 : decode cX5_rest 30 = .ok (.aload_n 0, 1) := by decide +kernel
theorem dX5_rest_31 : decode cX5_rest 31 = .ok (.invokevirtual 145, 3) := by decide +kernel
theorem dX5_rest_34 : decode cX5_rest 34 = .ok (.aload_n 0, 1) := by decide +kernel
theorem dX5_rest_35 : decode cX5_rest 35 = .ok (.getfield 29, 3) := by decide +kernel
theorem dX5_rest_38 : decode cX5_rest 38 = .ok (.bipush 16, 2) := by decide +kernel
theorem dX5_rest_40 : decode cX5_rest 40 = .ok (.iload_n 1, 1) := by decide +kernel
theorem dX5_rest_41 : decode cX5_rest 41 = .ok (.iadd, 1) := by decide +kernel
theorem dX5_rest_42 : decode cX5_rest 42 = .ok (.iconst 0, 1) := by decide +kernel
theorem dX5_rest_43 : decode cX5_rest 43 = .ok (.iastore, 1) := by decide +kernel
theorem dX5_rest_44 : decode cX5_rest 44 = .ok (.aload_n 0, 1) := by decide +kernel
theorem dX5_rest_45 : decode cX5_rest 45 = .ok (.getfield 29, 3) := by decide +kernel
theorem dX5_rest_48 : decode cX5_rest 48 = .ok (.bipush 21, 2) := by decide +kernel
theorem dX5_rest_50 : decode cX5_rest 50 = .ok (.dup2, 1) := by decide +kernel
theorem dX5_rest_51 : decode cX5_rest 51 = .ok (.iaload, 1) := by decide +kernel
theorem dX5_rest_52 : decode cX5_rest 52 = .ok (.iconst 5, 1) := by decide +kernel
theorem dX5_rest_53 : decode cX5_rest 53 = .ok (.iadd, 1) := by decide +kernel
theorem dX5_rest_54 : decode cX5_rest 54 = .ok (.iastore, 1) := by decide +kernel
theorem dX5_rest_55 : decode cX5_rest 55 = .ok (.aload_n 0, 1) := by decide +kernel
theorem dX5_rest_56 : decode cX5_rest 56 = .ok (.getfield 29, 3) := by decide +kernel
theorem dX5_rest_59 : decode cX5_rest 59 = .ok (.bipush 21, 2) := by decide +kernel
theorem dX5_rest_61 : decode cX5_rest 61 = .ok (.iaload, 1) := by decide +kernel
theorem dX5_rest_62 : decode cX5_rest 62 = .ok (.ireturn, 1) := by decide +kernel
set_option maxRecDepth 20000 in
theorem ggX5_wet_X5_noLegger : GoodIn wsX5_wet wsX5_noLegger := goodIn_r _ [8, 9, 10, 11, 7, 12, 19, 20, 21, 22, 23, 24, 25, 26, 27, 28, 29, 30, 31, 32, 33, 34, 35, 36, 37, 38, 39, 40, 41, 42, 43, 44, 45, 46, 47, 48, 49, 50, 51, 52, 53, 54, 55] (by decide +kernel) (by decide +kernel)
set_option maxRecDepth 20000 in
theorem gX5_wet_X5_noLegger : GoodIn wsX5_wet (wsV RX5 124 RX5 yX5_noLegger wsX5_noLegger) := goodIn_app (goodIn_of _ (by decide +kernel)) ggX5_wet_X5_noLegger
set_option maxRecDepth 20000 in
theorem ggX5_wet_X5_in : GoodIn wsX5_wet wsX5_in := goodIn_r _ [12] (by decide +kernel) (by decide +kernel)
set_option maxRecDepth 20000 in
theorem gX5_wet_X5_in : GoodIn wsX5_wet (va_wsS RX5 69 yX5_in wsX5_in) := goodIn_app (goodIn_of _ (by decide +kernel)) ggX5_wet_X5_in
set_option maxRecDepth 20000 in
theorem ggX5_wet_X5_note : GoodIn wsX5_wet wsX5_note := goodIn_r _ [16, 17, 18, 3, 19, 20, 21, 22, 23, 24, 25, 26, 27, 28, 29, 30, 31, 32, 33, 34, 35, 36, 37, 38, 39, 40, 41, 42, 43, 44, 45, 46, 47, 48, 49, 50, 51, 52, 53, 54, 55] (by decide +kernel) (by decide +kernel)
set_option maxRecDepth 20000 in
theorem gX5_wet_X5_note : GoodIn wsX5_wet (wsV RX5 145 RX5 yX5_note wsX5_note) := goodIn_app (goodIn_of _ (by decide +kernel)) ggX5_wet_X5_note
theorem dX5_wet_0 : decode cX5_wet 0 = .ok (.aload_n 0, 1) := by decide +kernel
theorem dX5_wet_1 : decode cX5_wet 1 = .ok (.iconst 0, 1) := by decide +kernel
theorem dX5_wet_2 : decode cX5_wet 2 = .ok (.putfield 63, 3) := by decide +kernel
theorem dX5_wet_5 : decode cX5_wet 5 = .ok (.aload_n 0, 1) := by decide +kernel
theorem dX5_wet_6 : decode cX5_wet 6 = .ok (.iload_n 1, 1) := by decide +kernel
theorem dX5_wet_7 : decode cX5_wet 7 = .ok (.invokevirtual 124, 3) := by decide +kernel
theorem dX5_wet_10 : decode cX5_wet 10 = .ok (.ifCond .eq 5, 3) := by decide +kernel
theorem dX5_wet_13 : decode cX5_wet 13 = .ok (.iconst (-1), 1) := by decide +kernel
theorem dX5_wet_14 : decode cX5_wet 14 = .ok (.ireturn, 1) := by decide +kernel
theorem dX5_wet_15 : decode cX5_wet 15 = .ok (.iload_n 2, 1) := by decide +kernel
theorem dX5_wet_16 : decode cX5_wet 16 = .ok (.i2l, 1) := by decide +kernel
theorem dX5_wet_17 : decode cX5_wet 17 = .ok (.lconst 0, 1) := by decide +kernel
theorem dX5_wet_18 : decode cX5_wet 18 = .ok (.ldc2_w 128, 3) := by decide +kernel
theorem dX5_wet_21 : decode cX5_wet 21 = .ok (.invokestatic 69, 3) := by decide +kernel
theorem dX5_wet_24 : decode cX5_wet 24 = .ok (.ifCond .ne 6, 3) := by decide +kernel
theorem dX5_wet_27 : decode cX5_wet 27 = .ok (.bipush (-2), 2) := by decide +kernel
theorem dX5_wet_29 : decode cX5_wet 29 = .ok (.ireturn, 1) := by decide +kernel
theorem dX5_wet_30 : decode cX5_wet 30 = .ok (.aload_n 0, 1) := by decide +kernel
theorem dX5_wet_31 : decode cX5_wet 31 = .ok (.getfield 29, 3) := by decide +kernel
theorem dX5_wet_34 : decode cX5_wet 34 = .ok (.iconst 0, 1) := by decide +kernel
theorem dX5_wet_35 : decode cX5_wet 35 = .ok (.iconst 4, 1) := by decide +kernel
theorem dX5_wet_36 : decode cX5_wet 36 = .ok (.iload_n 1, 1) := by decide +kernel
theorem dX5_wet_37 : decode cX5_wet 37 = .ok (.imul, 1) := by decide +kernel
theorem dX5_wet_38 : decode cX5_wet 38 = .ok (.iadd, 1) := by decide +kernel
theorem dX5_wet_39 : decode cX5_wet 39 = .ok (.iload_n 2, 1) := by decide +kernel
theorem dX5_wet_40 : decode cX5_wet 40 = .ok (.iadd, 1) := by decide +kernel
theorem dX5_wet_41 : decode cX5_wet 41 = .ok (.iaload, 1) := by decide +kernel
theorem dX5_wet_42 : decode cX5_wet 42 = .ok (.istore_n 3, 1) := by decide +kernel
theorem dX5_wet_43 : decode cX5_wet 43 = .ok (.iload_n 3, 1) := by decide +kernel
theorem dX5_wet_44 : decode cX5_wet 44 = .ok (.iconst 2, 1) := by decide +kernel
theorem dX5_wet_45 : decode cX5_wet 45 = .ok (.if_icmp .ne 6, 3) := by decide +kernel
theorem dX5_wet_48 : decode cX5_wet 48 = .ok (.bipush (-3), 2) := by decide +kernel
theorem dX5_wet_50 : decode cX5_wet 50 = .ok (.ireturn, 1) := by decide +kernel
theorem dX5_wet_51 : decode cX5_wet 51 = .ok (.aload_n 0, 1) := by decide +kernel
theorem dX5_wet_52 : decode cX5_wet 52 = .ok (.invokevirtual 145, 3) := by decide +kernel
theorem dX5_wet_55 : decode cX5_wet 55 = .ok (.aload_n 0, 1) := by decide +kernel
theorem dX5_wet_56 : decode cX5_wet 56 = .ok (.getfield 29, 3) := by decide +kernel
theorem dX5_wet_59 : decode cX5_wet 59 = .ok (.iconst 0, 1) := by decide +kernel
theorem dX5_wet_60 : decode cX5_wet 60 = .ok (.iconst 4, 1) := by decide +kernel
theorem dX5_wet_61 : decode cX5_wet 61 = .ok (.iload_n 1, 1) := by decide +kernel
theorem dX5_wet_62 : decode cX5_wet 62 = .ok (.imul, 1) := by decide +kernel
theorem dX5_wet_63 : decode cX5_wet 63 = .ok (.iadd, 1) := by decide +kernel
theorem dX5_wet_64 : decode cX5_wet 64 = .ok (.iload_n 2, 1) := by decide +kernel
theorem dX5_wet_65 : decode cX5_wet 65 = .ok (.iadd, 1) := by decide +kernel
theorem dX5_wet_66 : decode cX5_wet 66 = .ok (.iconst 2, 1) := by decide +kernel
theorem dX5_wet_67 : decode cX5_wet 67 = .ok (.iastore, 1) := by decide +kernel
theorem dX5_wet_68 : decode cX5_wet 68 = .ok (.iload_n 3, 1) := by decide +kernel
theorem dX5_wet_69 : decode cX5_wet 69 = .ok (.ireturn, 1) := by decide +kernel
set_option maxRecDepth 20000 in
theorem ggX5_dry_X5_noLegger : GoodIn wsX5_dry wsX5_noLegger := goodIn_r _ [8, 9, 10, 11, 7, 12, 19, 20, 21, 22, 23, 24, 25, 26, 27, 28, 29, 30, 31, 32, 33, 34, 35, 36, 37, 38, 39, 40, 41, 42, 43, 44, 45, 46, 47, 48, 49, 50, 51, 52, 53, 54, 55] (by decide +kernel) (by decide +kernel)
set_option maxRecDepth 20000 in
theorem gX5_dry_X5_noLegger : GoodIn wsX5_dry (wsV RX5 124 RX5 yX5_noLegger wsX5_noLegger) := goodIn_app (goodIn_of _ (by decide +kernel)) ggX5_dry_X5_noLegger
set_option maxRecDepth 20000 in
theorem ggX5_dry_X5_in : GoodIn wsX5_dry wsX5_in := goodIn_r _ [12] (by decide +kernel) (by decide +kernel)
set_option maxRecDepth 20000 in
theorem gX5_dry_X5_in : GoodIn wsX5_dry (va_wsS RX5 69 yX5_in wsX5_in) := goodIn_app (goodIn_of _ (by decide +kernel)) ggX5_dry_X5_in
set_option maxRecDepth 20000 in
theorem ggX5_dry_X5_note : GoodIn wsX5_dry wsX5_note := goodIn_r _ [16, 17, 18, 3, 19, 20, 21, 22, 23, 24, 25, 26, 27, 28, 29, 30, 31, 32, 33, 34, 35, 36, 37, 38, 39, 40, 41, 42, 43, 44, 45, 46, 47, 48, 49, 50, 51, 52, 53, 54, 55] (by decide +kernel) (by decide +kernel)
set_option maxRecDepth 20000 in
theorem gX5_dry_X5_note : GoodIn wsX5_dry (wsV RX5 145 RX5 yX5_note wsX5_note) := goodIn_app (goodIn_of _ (by decide +kernel)) ggX5_dry_X5_note
theorem dX5_dry_0 : decode cX5_dry 0 = .ok (.aload_n 0, 1) := by decide +kernel
theorem dX5_dry_1 : decode cX5_dry 1 = .ok (.iconst 0, 1) := by decide +kernel
theorem dX5_dry_2 : decode cX5_dry 2 = .ok (.putfield 63, 3) := by decide +kernel
theorem dX5_dry_5 : decode cX5_dry 5 = .ok (.aload_n 0, 1) := by decide +kernel
theorem dX5_dry_6 : decode cX5_dry 6 = .ok (.iload_n 1, 1) := by decide +kernel
theorem dX5_dry_7 : decode cX5_dry 7 = .ok (.invokevirtual 124, 3) := by decide +kernel
theorem dX5_dry_10 : decode cX5_dry 10 = .ok (.ifCond .eq 5, 3) := by decide +kernel
theorem dX5_dry_13 : decode cX5_dry 13 = .ok (.iconst (-1), 1) := by decide +kernel
theorem dX5_dry_14 : decode cX5_dry 14 = .ok (.ireturn, 1) := by decide +kernel
theorem dX5_dry_15 : decode cX5_dry 15 = .ok (.iload_n 2, 1) := by decide +kernel
theorem dX5_dry_16 : decode cX5_dry 16 = .ok (.i2l, 1) := by decide +kernel
theorem dX5_dry_17 : decode cX5_dry 17 = .ok (.lconst 0, 1) := by decide +kernel
theorem dX5_dry_18 : decode cX5_dry 18 = .ok (.ldc2_w 128, 3) := by decide +kernel
theorem dX5_dry_21 : decode cX5_dry 21 = .ok (.invokestatic 69, 3) := by decide +kernel
theorem dX5_dry_24 : decode cX5_dry 24 = .ok (.ifCond .ne 6, 3) := by decide +kernel
theorem dX5_dry_27 : decode cX5_dry 27 = .ok (.bipush (-2), 2) := by decide +kernel
theorem dX5_dry_29 : decode cX5_dry 29 = .ok (.ireturn, 1) := by decide +kernel
theorem dX5_dry_30 : decode cX5_dry 30 = .ok (.aload_n 0, 1) := by decide +kernel
theorem dX5_dry_31 : decode cX5_dry 31 = .ok (.getfield 29, 3) := by decide +kernel
theorem dX5_dry_34 : decode cX5_dry 34 = .ok (.iconst 0, 1) := by decide +kernel
theorem dX5_dry_35 : decode cX5_dry 35 = .ok (.iconst 4, 1) := by decide +kernel
theorem dX5_dry_36 : decode cX5_dry 36 = .ok (.iload_n 1, 1) := by decide +kernel
theorem dX5_dry_37 : decode cX5_dry 37 = .ok (.imul, 1) := by decide +kernel
theorem dX5_dry_38 : decode cX5_dry 38 = .ok (.iadd, 1) := by decide +kernel
theorem dX5_dry_39 : decode cX5_dry 39 = .ok (.iload_n 2, 1) := by decide +kernel
theorem dX5_dry_40 : decode cX5_dry 40 = .ok (.iadd, 1) := by decide +kernel
theorem dX5_dry_41 : decode cX5_dry 41 = .ok (.iaload, 1) := by decide +kernel
theorem dX5_dry_42 : decode cX5_dry 42 = .ok (.iconst 2, 1) := by decide +kernel
theorem dX5_dry_43 : decode cX5_dry 43 = .ok (.if_icmp .eq 6, 3) := by decide +kernel
theorem dX5_dry_46 : decode cX5_dry 46 = .ok (.bipush (-3), 2) := by decide +kernel
theorem dX5_dry_48 : decode cX5_dry 48 = .ok (.ireturn, 1) := by decide +kernel
theorem dX5_dry_49 : decode cX5_dry 49 = .ok (.aload_n 0, 1) := by decide +kernel
theorem dX5_dry_50 : decode cX5_dry 50 = .ok (.invokevirtual 145, 3) := by decide +kernel
theorem dX5_dry_53 : decode cX5_dry 53 = .ok (.aload_n 0, 1) := by decide +kernel
theorem dX5_dry_54 : decode cX5_dry 54 = .ok (.getfield 29, 3) := by decide +kernel
theorem dX5_dry_57 : decode cX5_dry 57 = .ok (.iconst 0, 1) := by decide +kernel
theorem dX5_dry_58 : decode cX5_dry 58 = .ok (.iconst 4, 1) := by decide +kernel
theorem dX5_dry_59 : decode cX5_dry 59 = .ok (.iload_n 1, 1) := by decide +kernel
theorem dX5_dry_60 : decode cX5_dry 60 = .ok (.imul, 1) := by decide +kernel
theorem dX5_dry_61 : decode cX5_dry 61 = .ok (.iadd, 1) := by decide +kernel
theorem dX5_dry_62 : decode cX5_dry 62 = .ok (.iload_n 2, 1) := by decide +kernel
theorem dX5_dry_63 : decode cX5_dry 63 = .ok (.iadd, 1) := by decide +kernel
theorem dX5_dry_64 : decode cX5_dry 64 = .ok (.iconst 0, 1) := by decide +kernel
theorem dX5_dry_65 : decode cX5_dry 65 = .ok (.iastore, 1) := by decide +kernel
theorem dX5_dry_66 : decode cX5_dry 66 = .ok (.iconst 0, 1) := by decide +kernel
theorem dX5_dry_67 : decode cX5_dry 67 = .ok (.istore_n 3, 1) := by decide +kernel
theorem dX5_dry_68 : decode cX5_dry 68 = .ok (.iconst 0, 1) := by decide +kernel
theorem dX5_dry_69 : decode cX5_dry 69 = .ok (.istore 4, 2) := by decide +kernel
theorem dX5_dry_71 : decode cX5_dry 71 = .ok (.iload 4, 2) := by decide +kernel
theorem dX5_dry_73 : decode cX5_dry 73 = .ok (.iconst 4, 1) := by decide +kernel
theorem dX5_dry_74 : decode cX5_dry 74 = .ok (.if_icmp .ge 34, 3) := by decide +kernel
theorem dX5_dry_77 : decode cX5_dry 77 = .ok (.iload_n 3, 1) := by decide +kernel
theorem dX5_dry_78 : decode cX5_dry 78 = .ok (.aload_n 0, 1) := by decide +kernel
theorem dX5_dry_79 : decode cX5_dry 79 = .ok (.getfield 29, 3) := by decide +kernel
theorem dX5_dry_82 : decode cX5_dry 82 = .ok (.iconst 0, 1) := by decide +kernel
theorem dX5_dry_83 : decode cX5_dry 83 = .ok (.iconst 4, 1) := by decide +kernel
theorem dX5_dry_84 : decode cX5_dry 84 = .ok (.iload_n 1, 1) := by decide +kernel
theorem dX5_dry_85 : decode cX5_dry 85 = .ok (.imul, 1) := by decide +kernel
theorem dX5_dry_86 : decode cX5_dry 86 = .ok (.iadd, 1) := by decide +kernel
theorem dX5_dry_87 : decode cX5_dry 87 = .ok (.iload 4, 2) := by decide +kernel
theorem dX5_dry_89 : decode cX5_dry 89 = .ok (.iadd, 1) := by decide +kernel
theorem dX5_dry_90 : decode cX5_dry 90 = .ok (.iaload, 1) := by decide +kernel
theorem dX5_dry_91 : decode cX5_dry 91 = .ok (.iconst 2, 1) := by decide +kernel
theorem dX5_dry_92 : decode cX5_dry 92 = .ok (.if_icmp .ne 7, 3) := by decide +kernel
theorem dX5_dry_95 : decode cX5_dry 95 = .ok (.iconst 1, 1) := by decide +kernel
theorem dX5_dry_96 : decode cX5_dry 96 = .ok (.goto 4, 3) := by decide +kernel
theorem dX5_dry_99 : decode cX5_dry 99 = .ok (.iconst 0, 1) := by decide +kernel
theorem dX5_dry_100 : decode cX5_dry 100 = .ok (.iadd, 1) := by decide +kernel
theorem dX5_dry_101 : decode cX5_dry 101 = .ok (.istore_n 3, 1) := by decide +kernel
theorem dX5_dry_102 : decode cX5_dry 102 = .ok (.iinc 4 1, 3) := by decide +kernel
theorem dX5_dry_105 : decode cX5_dry 105 = .ok (.goto (-34), 3) := by decide +kernel
theorem dX5_dry_108 : decode cX5_dry 108 = .ok (.iload_n 3, 1) := by decide +kernel
theorem dX5_dry_109 : decode cX5_dry 109 = .ok (.ireturn, 1) := by decide +kernel
theorem dX5_undo_0 : decode cX5_undo 0 = .ok (.aload_n 0, 1) := by decide +kernel
theorem dX5_undo_1 : decode cX5_undo 1 = .ok (.iconst 0, 1) := by decide +kernel
theorem dX5_undo_2 : decode cX5_undo 2 = .ok (.putfield 63, 3) := by decide +kernel
theorem dX5_undo_5 : decode cX5_undo 5 = .ok (.aload_n 0, 1) := by decide +kernel
theorem dX5_undo_6 : decode cX5_undo 6 = .ok (.getfield 107, 3) := by decide +kernel
theorem dX5_undo_9 : decode cX5_undo 9 = .ok (.ifCond .ne 6, 3) := by decide +kernel
theorem dX5_undo_12 : decode cX5_undo 12 = .ok (.bipush (-3), 2) := by decide +kernel
theorem dX5_undo_14 : decode cX5_undo 14 = .ok (.ireturn, 1) := by decide +kernel
theorem dX5_undo_15 : decode cX5_undo 15 = .ok (.aload_n 0, 1) := by decide +kernel
theorem dX5_undo_16 : decode cX5_undo 16 = .ok (.dup, 1) := by decide +kernel
theorem dX5_undo_17 : decode cX5_undo 17 = .ok (.getfield 107, 3) := by decide +kernel
theorem dX5_undo_20 : decode cX5_undo 20 = .ok (.iconst 1, 1) := by decide +kernel
theorem dX5_undo_21 : decode cX5_undo 21 = .ok (.isub, 1) := by decide +kernel
theorem dX5_undo_22 : decode cX5_undo 22 = .ok (.putfield 107, 3) := by decide +kernel
theorem dX5_undo_25 : decode cX5_undo 25 = .ok (.iconst 0, 1) := by decide +kernel
theorem dX5_undo_26 : decode cX5_undo 26 = .ok (.istore_n 1, 1) := by decide +kernel
theorem dX5_undo_27 : decode cX5_undo 27 = .ok (.iload_n 1, 1) := by decide +kernel
theorem dX5_undo_28 : decode cX5_undo 28 = .ok (.bipush 22, 2) := by decide +kernel
theorem dX5_undo_30 : decode cX5_undo 30 = .ok (.if_icmp .ge 29, 3) := by decide +kernel
theorem dX5_undo_33 : decode cX5_undo 33 = .ok (.aload_n 0, 1) := by decide +kernel
theorem dX5_undo_34 : decode cX5_undo 34 = .ok (.getfield 29, 3) := by decide +kernel
theorem dX5_undo_37 : decode cX5_undo 37 = .ok (.iload_n 1, 1) := by decide +kernel
theorem dX5_undo_38 : decode cX5_undo 38 = .ok (.aload_n 0, 1) := by decide +kernel
theorem dX5_undo_39 : decode cX5_undo 39 = .ok (.getfield 38, 3) := by decide +kernel
theorem dX5_undo_42 : decode cX5_undo 42 = .ok (.bipush 22, 2) := by decide +kernel
theorem dX5_undo_44 : decode cX5_undo 44 = .ok (.aload_n 0, 1) := by decide +kernel
theorem dX5_undo_45 : decode cX5_undo 45 = .ok (.getfield 107, 3) := by decide +kernel
theorem dX5_undo_48 : decode cX5_undo 48 = .ok (.imul, 1) := by decide +kernel
theorem dX5_undo_49 : decode cX5_undo 49 = .ok (.iload_n 1, 1) := by decide +kernel
theorem dX5_undo_50 : decode cX5_undo 50 = .ok (.iadd, 1) := by decide +kernel
theorem dX5_undo_51 : decode cX5_undo 51 = .ok (.iaload, 1) := by decide +kernel
theorem dX5_undo_52 : decode cX5_undo 52 = .ok (.iastore, 1) := by decide +kernel
theorem dX5_undo_53 : decode cX5_undo 53 = .ok (.iinc 1 1, 3) := by decide +kernel
theorem dX5_undo_56 : decode cX5_undo 56 = .ok (.goto (-29), 3) := by decide +kernel
theorem dX5_undo_59 : decode cX5_undo 59 = .ok (.aload_n 0, 1) := by decide +kernel
theorem dX5_undo_60 : decode cX5_undo 60 = .ok (.getfield 107, 3) := by decide +kernel
theorem dX5_undo_63 : decode cX5_undo 63 = .ok (.ireturn, 1) := by decide +kernel
theorem dX5_copy_0 : decode cX5_copy 0 = .ok (.iconst 0, 1) := by decide +kernel
theorem dX5_copy_1 : decode cX5_copy 1 = .ok (.istore_n 2, 1) := by decide +kernel
theorem dX5_copy_2 : decode cX5_copy 2 = .ok (.iload_n 2, 1) := by decide +kernel
theorem dX5_copy_3 : decode cX5_copy 3 = .ok (.bipush 22, 2) := by decide +kernel
theorem dX5_copy_5 : decode cX5_copy 5 = .ok (.if_icmp .ge 15, 3) := by decide +kernel
theorem dX5_copy_8 : decode cX5_copy 8 = .ok (.aload_n 1, 1) := by decide +kernel
theorem dX5_copy_9 : decode cX5_copy 9 = .ok (.iload_n 2, 1) := by decide +kernel
theorem dX5_copy_10 : decode cX5_copy 10 = .ok (.aload_n 0, 1) := by decide +kernel
theorem dX5_copy_11 : decode cX5_copy 11 = .ok (.iload_n 2, 1) := by decide +kernel
theorem dX5_copy_12 : decode cX5_copy 12 = .ok (.iaload, 1) := by decide +kernel
theorem dX5_copy_13 : decode cX5_copy 13 = .ok (.iastore, 1) := by decide +kernel
theorem dX5_copy_14 : decode cX5_copy 14 = .ok (.iinc 2 1, 3) := by decide +kernel
theorem dX5_copy_17 : decode cX5_copy 17 = .ok (.goto (-15), 3) := by decide +kernel
theorem dX5_copy_20 : decode cX5_copy 20 = .ok (.return_, 1) := by decide +kernel
set_option maxRecDepth 20000 in
theorem ggX5_alone_X5_noLegger : GoodIn wsX5_alone wsX5_noLegger := goodIn_r _ [9, 10, 11, 12, 8, 13, 25, 26, 27, 28, 29, 30, 31, 32, 33, 34, 35, 36, 37, 38, 39, 40, 41, 42, 43, 44, 45, 46, 47, 48, 49, 50, 51, 52, 53, 54, 55, 56, 57, 58, 59, 60, 61] (by decide +kernel) (by decide +kernel)
set_option maxRecDepth 20000 in
theorem gX5_alone_X5_noLegger : GoodIn wsX5_alone (wsV RX5 124 RX5 yX5_noLegger wsX5_noLegger) := goodIn_app (goodIn_of _ (by decide +kernel)) ggX5_alone_X5_noLegger
set_option maxRecDepth 20000 in
theorem ggX5_alone_X5_in : GoodIn wsX5_alone wsX5_in := goodIn_r _ [13] (by decide +kernel) (by decide +kernel)
set_option maxRecDepth 20000 in
theorem gX5_alone_X5_in : GoodIn wsX5_alone (va_wsS RX5 69 yX5_in wsX5_in) := goodIn_app (goodIn_of _ (by decide +kernel)) ggX5_alone_X5_in
set_option maxRecDepth 20000 in
theorem ggX5_alone_X5_takes : GoodIn wsX5_alone wsX5_takes := goodIn_r _ [17, 18, 3, 19, 20, 8, 21, 25, 26, 27, 28, 29, 30, 31, 32, 33, 34, 35, 36, 37, 38, 39, 40, 41, 42, 43, 44, 45, 46, 47, 48, 49, 50, 51, 52, 53, 54, 55, 56, 57, 58, 59, 60, 61] (by decide +kernel) (by decide +kernel)
set_option maxRecDepth 20000 in
theorem gX5_alone_X5_takes : GoodIn wsX5_alone (wsV RX5 114 RX5 yX5_takes wsX5_takes) := goodIn_app (goodIn_of _ (by decide +kernel)) ggX5_alone_X5_takes
set_option maxRecDepth 20000 in
theorem ggX5_alone_X5_next : GoodIn wsX5_alone wsX5_next := goodIn_r _ [24] (by decide +kernel) (by decide +kernel)
set_option maxRecDepth 20000 in
theorem gX5_alone_X5_next : GoodIn wsX5_alone (va_wsS RX5 118 yX5_next wsX5_next) := goodIn_app (goodIn_of _ (by decide +kernel)) ggX5_alone_X5_next
theorem dX5_alone_0 : decode cX5_alone 0 = .ok (.aload_n 0, 1) := by decide +kernel
theorem dX5_alone_1 : decode cX5_alone 1 = .ok (.iconst 0, 1) := by decide +kernel
theorem dX5_alone_2 : decode cX5_alone 2 = .ok (.putfield 63, 3) := by decide +kernel
theorem dX5_alone_5 : decode cX5_alone 5 = .ok (.aload_n 0, 1) := by decide +kernel
theorem dX5_alone_6 : decode cX5_alone 6 = .ok (.iload_n 1, 1) := by decide +kernel
theorem dX5_alone_7 : decode cX5_alone 7 = .ok (.invokevirtual 124, 3) := by decide +kernel
theorem dX5_alone_10 : decode cX5_alone 10 = .ok (.ifCond .eq 5, 3) := by decide +kernel
theorem dX5_alone_13 : decode cX5_alone 13 = .ok (.iconst (-1), 1) := by decide +kernel
theorem dX5_alone_14 : decode cX5_alone 14 = .ok (.ireturn, 1) := by decide +kernel
theorem dX5_alone_15 : decode cX5_alone 15 = .ok (.iload_n 2, 1) := by decide +kernel
theorem dX5_alone_16 : decode cX5_alone 16 = .ok (.i2l, 1) := by decide +kernel
theorem dX5_alone_17 : decode cX5_alone 17 = .ok (.lconst 0, 1) := by decide +kernel
theorem dX5_alone_18 : decode cX5_alone 18 = .ok (.ldc2_w 128, 3) := by decide +kernel
theorem dX5_alone_21 : decode cX5_alone 21 = .ok (.invokestatic 69, 3) := by decide +kernel
theorem dX5_alone_24 : decode cX5_alone 24 = .ok (.ifCond .ne 6, 3) := by decide +kernel
theorem dX5_alone_27 : decode cX5_alone 27 = .ok (.bipush (-2), 2) := by decide +kernel
theorem dX5_alone_29 : decode cX5_alone 29 = .ok (.ireturn, 1) := by decide +kernel
theorem dX5_alone_30 : decode cX5_alone 30 = .ok (.iload_n 2, 1) := by decide +kernel
theorem dX5_alone_31 : decode cX5_alone 31 = .ok (.istore_n 3, 1) := by decide +kernel
theorem dX5_alone_32 : decode cX5_alone 32 = .ok (.iconst 0, 1) := by decide +kernel
theorem dX5_alone_33 : decode cX5_alone 33 = .ok (.istore 4, 2) := by decide +kernel
theorem dX5_alone_35 : decode cX5_alone 35 = .ok (.iconst 0, 1) := by decide +kernel
theorem dX5_alone_36 : decode cX5_alone 36 = .ok (.istore 5, 2) := by decide +kernel
theorem dX5_alone_38 : decode cX5_alone 38 = .ok (.iload 5, 2) := by decide +kernel
theorem dX5_alone_40 : decode cX5_alone 40 = .ok (.aload_n 0, 1) := by decide +kernel
theorem dX5_alone_41 : decode cX5_alone 41 = .ok (.getfield 13, 3) := by decide +kernel
theorem dX5_alone_44 : decode cX5_alone 44 = .ok (.if_icmp .ge 43, 3) := by decide +kernel
theorem dX5_alone_47 : decode cX5_alone 47 = .ok (.iload 4, 2) := by decide +kernel
theorem dX5_alone_49 : decode cX5_alone 49 = .ok (.aload_n 0, 1) := by decide +kernel
theorem dX5_alone_50 : decode cX5_alone 50 = .ok (.aload_n 0, 1) := by decide +kernel
theorem dX5_alone_51 : decode cX5_alone 51 = .ok (.getfield 29, 3) := by decide +kernel
theorem dX5_alone_54 : decode cX5_alone 54 = .ok (.iload_n 1, 1) := by decide +kernel
theorem dX5_alone_55 : decode cX5_alone 55 = .ok (.iload 5, 2) := by decide +kernel
theorem dX5_alone_57 : decode cX5_alone 57 = .ok (.iload_n 3, 1) := by decide +kernel
theorem dX5_alone_58 : decode cX5_alone 58 = .ok (.invokevirtual 114, 3) := by decide +kernel
theorem dX5_alone_61 : decode cX5_alone 61 = .ok (.iadd, 1) := by decide +kernel
theorem dX5_alone_62 : decode cX5_alone 62 = .ok (.istore 4, 2) := by decide +kernel
theorem dX5_alone_64 : decode cX5_alone 64 = .ok (.iload_n 3, 1) := by decide +kernel
theorem dX5_alone_65 : decode cX5_alone 65 = .ok (.aload_n 0, 1) := by decide +kernel
theorem dX5_alone_66 : decode cX5_alone 66 = .ok (.getfield 29, 3) := by decide +kernel
theorem dX5_alone_69 : decode cX5_alone 69 = .ok (.iconst 0, 1) := by decide +kernel
theorem dX5_alone_70 : decode cX5_alone 70 = .ok (.iconst 4, 1) := by decide +kernel
theorem dX5_alone_71 : decode cX5_alone 71 = .ok (.iload_n 1, 1) := by decide +kernel
theorem dX5_alone_72 : decode cX5_alone 72 = .ok (.imul, 1) := by decide +kernel
theorem dX5_alone_73 : decode cX5_alone 73 = .ok (.iadd, 1) := by decide +kernel
theorem dX5_alone_74 : decode cX5_alone 74 = .ok (.iload_n 3, 1) := by decide +kernel
theorem dX5_alone_75 : decode cX5_alone 75 = .ok (.iadd, 1) := by decide +kernel
theorem dX5_alone_76 : decode cX5_alone 76 = .ok (.iaload, 1) := by decide +kernel
theorem dX5_alone_77 : decode cX5_alone 77 = .ok (.invokestatic 118, 3) := by decide +kernel
theorem dX5_alone_80 : decode cX5_alone 80 = .ok (.istore_n 3, 1) := by decide +kernel
theorem dX5_alone_81 : decode cX5_alone 81 = .ok (.iinc 5 1, 3) := by decide +kernel
theorem dX5_alone_84 : decode cX5_alone 84 = .ok (.goto (-46), 3) := by decide +kernel
theorem dX5_alone_87 : decode cX5_alone 87 = .ok (.iload 4, 2) := by decide +kernel
theorem dX5_alone_89 : decode cX5_alone 89 = .ok (.ireturn, 1) := by decide +kernel
set_option maxRecDepth 20000 in
theorem ggX5_time_X5_noPair : GoodIn wsX5_time wsX5_noPair := goodIn_r _ [9, 10, 11, 12, 8, 13, 14, 15, 16, 17, 18, 19, 20, 21, 22, 39, 40, 41, 42, 43, 44, 45, 46, 47, 48, 49, 50, 51, 52, 53, 54, 55, 56, 57, 58, 59, 60, 61, 62, 63, 64, 65, 66, 67, 68, 69, 70, 71, 72, 73, 74, 75] (by decide +kernel) (by decide +kernel)
set_option maxRecDepth 20000 in
theorem gX5_time_X5_noPair : GoodIn wsX5_time (wsV RX5 137 RX5 yX5_noPair wsX5_noPair) := goodIn_app (goodIn_of _ (by decide +kernel)) ggX5_time_X5_noPair
set_option maxRecDepth 20000 in
theorem ggX5_time_X5_in : GoodIn wsX5_time wsX5_in := goodIn_r _ [17] (by decide +kernel) (by decide +kernel)
set_option maxRecDepth 20000 in
theorem gX5_time_X5_in : GoodIn wsX5_time (va_wsS RX5 69 yX5_in wsX5_in) := goodIn_app (goodIn_of _ (by decide +kernel)) ggX5_time_X5_in
set_option maxRecDepth 20000 in
theorem ggX5_time_X5_timeOf : GoodIn wsX5_time wsX5_timeOf := goodIn_r _ [26, 27, 28, 29, 30, 8, 31, 32, 33, 34, 35, 36, 37, 38, 39, 40, 41, 42, 43, 44, 45, 46, 47, 48, 49, 50, 51, 52, 53, 54, 55, 56, 57, 58, 59, 60, 61, 62, 63, 64, 65, 66, 67, 68, 69, 70, 71, 72, 73, 74, 75] (by decide +kernel) (by decide +kernel)
set_option maxRecDepth 20000 in
theorem gX5_time_X5_timeOf : GoodIn wsX5_time (wsV RX5 133 RX5 yX5_timeOf wsX5_timeOf) := goodIn_app (goodIn_of _ (by decide +kernel)) ggX5_time_X5_timeOf
theorem dX5_time_0 : decode cX5_time 0 = .ok (.aload_n 0, 1) := by decide +kernel
theorem dX5_time_1 : decode cX5_time 1 = .ok (.iconst 0, 1) := by decide +kernel
theorem dX5_time_2 : decode cX5_time 2 = .ok (.putfield 63, 3) := by decide +kernel
theorem dX5_time_5 : decode cX5_time 5 = .ok (.aload_n 0, 1) := by decide +kernel
theorem dX5_time_6 : decode cX5_time 6 = .ok (.iload_n 1, 1) := by decide +kernel
theorem dX5_time_7 : decode cX5_time 7 = .ok (.iload_n 2, 1) := by decide +kernel
theorem dX5_time_8 : decode cX5_time 8 = .ok (.iload_n 3, 1) := by decide +kernel
theorem dX5_time_9 : decode cX5_time 9 = .ok (.invokevirtual 137, 3) := by decide +kernel
theorem dX5_time_12 : decode cX5_time 12 = .ok (.istore 6, 2) := by decide +kernel
theorem dX5_time_14 : decode cX5_time 14 = .ok (.iload 6, 2) := by decide +kernel
theorem dX5_time_16 : decode cX5_time 16 = .ok (.ifCond .eq 6, 3) := by decide +kernel
theorem dX5_time_19 : decode cX5_time 19 = .ok (.iload 6, 2) := by decide +kernel
theorem dX5_time_21 : decode cX5_time 21 = .ok (.ireturn, 1) := by decide +kernel
theorem dX5_time_22 : decode cX5_time 22 = .ok (.iload 4, 2) := by decide +kernel
theorem dX5_time_24 : decode cX5_time 24 = .ok (.i2l, 1) := by decide +kernel
theorem dX5_time_25 : decode cX5_time 25 = .ok (.lconst 0, 1) := by decide +kernel
theorem dX5_time_26 : decode cX5_time 26 = .ok (.ldc2_w 128, 3) := by decide +kernel
theorem dX5_time_29 : decode cX5_time 29 = .ok (.invokestatic 69, 3) := by decide +kernel
theorem dX5_time_32 : decode cX5_time 32 = .ok (.ifCond .eq 40, 3) := by decide +kernel
theorem dX5_time_35 : decode cX5_time 35 = .ok (.iload 5, 2) := by decide +kernel
theorem dX5_time_37 : decode cX5_time 37 = .ok (.i2l, 1) := by decide +kernel
theorem dX5_time_38 : decode cX5_time 38 = .ok (.lconst 0, 1) := by decide +kernel
theorem dX5_time_39 : decode cX5_time 39 = .ok (.ldc2_w 128, 3) := by decide +kernel
theorem dX5_time_42 : decode cX5_time 42 = .ok (.invokestatic 69, 3) := by decide +kernel
theorem dX5_time_45 : decode cX5_time 45 = .ok (.ifCond .eq 27, 3) := by decide +kernel
theorem dX5_time_48 : decode cX5_time 48 = .ok (.aload_n 0, 1) := by decide +kernel
theorem dX5_time_49 : decode cX5_time 49 = .ok (.aload_n 0, 1) := by decide +kernel
theorem dX5_time_50 : decode cX5_time 50 = .ok (.getfield 29, 3) := by decide +kernel
theorem dX5_time_53 : decode cX5_time 53 = .ok (.iload_n 2, 1) := by decide +kernel
theorem dX5_time_54 : decode cX5_time 54 = .ok (.iload_n 3, 1) := by decide +kernel
theorem dX5_time_55 : decode cX5_time 55 = .ok (.iload 4, 2) := by decide +kernel
theorem dX5_time_57 : decode cX5_time 57 = .ok (.iload 5, 2) := by decide +kernel
theorem dX5_time_59 : decode cX5_time 59 = .ok (.invokevirtual 133, 3) := by decide +kernel
theorem dX5_time_62 : decode cX5_time 62 = .ok (.aload_n 0, 1) := by decide +kernel
theorem dX5_time_63 : decode cX5_time 63 = .ok (.getfield 20, 3) := by decide +kernel
theorem dX5_time_66 : decode cX5_time 66 = .ok (.iload_n 1, 1) := by decide +kernel
theorem dX5_time_67 : decode cX5_time 67 = .ok (.iaload, 1) := by decide +kernel
theorem dX5_time_68 : decode cX5_time 68 = .ok (.iadd, 1) := by decide +kernel
theorem dX5_time_69 : decode cX5_time 69 = .ok (.goto 5, 3) := by decide +kernel
theorem dX5_time_72 : decode cX5_time 72 = .ok (.bipush (-2), 2) := by decide +kernel
theorem dX5_time_74 : decode cX5_time 74 = .ok (.ireturn, 1) := by decide +kernel
set_option maxRecDepth 20000 in
theorem ggX5_findBest_X5_timeOf : GoodIn wsX5_findBest wsX5_timeOf := goodIn_r _ [10, 11, 12, 13, 14, 9, 15, 16, 17, 18, 19, 20, 21, 22, 26, 27, 28, 29, 30, 31, 32, 33, 34, 35, 36, 37, 38, 39, 40, 41, 42, 43, 44, 45, 46, 47, 48, 49, 50, 51, 52, 53, 54, 55, 56, 57, 58, 59, 60, 61, 62] (by decide +kernel) (by decide +kernel)
set_option maxRecDepth 20000 in
theorem gX5_findBest_X5_timeOf : GoodIn wsX5_findBest (wsV RX5 133 RX5 yX5_timeOf wsX5_timeOf) := goodIn_app (goodIn_of _ (by decide +kernel)) ggX5_findBest_X5_timeOf
set_option maxRecDepth 20000 in
theorem ggX5_findBest_X5_has : GoodIn wsX5_findBest wsX5_has := goodIn_r _ [25] (by decide +kernel) (by decide +kernel)
set_option maxRecDepth 20000 in
theorem gX5_findBest_X5_has : GoodIn wsX5_findBest (va_wsS RX5 141 yX5_has wsX5_has) := goodIn_app (goodIn_of _ (by decide +kernel)) ggX5_findBest_X5_has
theorem dX5_findBest_0 : decode cX5_findBest 0 = .ok (.aload_n 0, 1) := by decide +kernel
theorem dX5_findBest_1 : decode cX5_findBest 1 = .ok (.bipush (-9), 2) := by decide +kernel
theorem dX5_findBest_3 : decode cX5_findBest 3 = .ok (.putfield 152, 3) := by decide +kernel
theorem dX5_findBest_6 : decode cX5_findBest 6 = .ok (.aload_n 0, 1) := by decide +kernel
theorem dX5_findBest_7 : decode cX5_findBest 7 = .ok (.bipush (-9), 2) := by decide +kernel
theorem dX5_findBest_9 : decode cX5_findBest 9 = .ok (.putfield 155, 3) := by decide +kernel
theorem dX5_findBest_12 : decode cX5_findBest 12 = .ok (.iconst 0, 1) := by decide +kernel
theorem dX5_findBest_13 : decode cX5_findBest 13 = .ok (.istore_n 3, 1) := by decide +kernel
theorem dX5_findBest_14 : decode cX5_findBest 14 = .ok (.iload_n 3, 1) := by decide +kernel
theorem dX5_findBest_15 : decode cX5_findBest 15 = .ok (.aload_n 0, 1) := by decide +kernel
theorem dX5_findBest_16 : decode cX5_findBest 16 = .ok (.getfield 66, 3) := by decide +kernel
theorem dX5_findBest_19 : decode cX5_findBest 19 = .ok (.if_icmp .ge 103, 3) := by decide +kernel
theorem dX5_findBest_22 : decode cX5_findBest 22 = .ok (.iload_n 3, 1) := by decide +kernel
theorem dX5_findBest_23 : decode cX5_findBest 23 = .ok (.iconst 1, 1) := by decide +kernel
theorem dX5_findBest_24 : decode cX5_findBest 24 = .ok (.iadd, 1) := by decide +kernel
theorem dX5_findBest_25 : decode cX5_findBest 25 = .ok (.istore 4, 2) := by decide +kernel
theorem dX5_findBest_27 : decode cX5_findBest 27 = .ok (.iload 4, 2) := by decide +kernel
theorem dX5_findBest_29 : decode cX5_findBest 29 = .ok (.aload_n 0, 1) := by decide +kernel
theorem dX5_findBest_30 : decode cX5_findBest 30 = .ok (.getfield 66, 3) := by decide +kernel
theorem dX5_findBest_33 : decode cX5_findBest 33 = .ok (.if_icmp .ge 83, 3) := by decide +kernel
theorem dX5_findBest_36 : decode cX5_findBest 36 = .ok (.aload_n 0, 1) := by decide +kernel
theorem dX5_findBest_37 : decode cX5_findBest 37 = .ok (.aload_n 0, 1) := by decide +kernel
theorem dX5_findBest_38 : decode cX5_findBest 38 = .ok (.getfield 29, 3) := by decide +kernel
theorem dX5_findBest_41 : decode cX5_findBest 41 = .ok (.iload_n 3, 1) := by decide +kernel
theorem dX5_findBest_42 : decode cX5_findBest 42 = .ok (.iload 4, 2) := by decide +kernel
theorem dX5_findBest_44 : decode cX5_findBest 44 = .ok (.iconst 0, 1) := by decide +kernel
theorem dX5_findBest_45 : decode cX5_findBest 45 = .ok (.iconst 0, 1) := by decide +kernel
theorem dX5_findBest_46 : decode cX5_findBest 46 = .ok (.invokevirtual 133, 3) := by decide +kernel
theorem dX5_findBest_49 : decode cX5_findBest 49 = .ok (.aload_n 0, 1) := by decide +kernel
theorem dX5_findBest_50 : decode cX5_findBest 50 = .ok (.getfield 20, 3) := by decide +kernel
theorem dX5_findBest_53 : decode cX5_findBest 53 = .ok (.iload_n 1, 1) := by decide +kernel
theorem dX5_findBest_54 : decode cX5_findBest 54 = .ok (.iaload, 1) := by decide +kernel
theorem dX5_findBest_55 : decode cX5_findBest 55 = .ok (.iadd, 1) := by decide +kernel
theorem dX5_findBest_56 : decode cX5_findBest 56 = .ok (.istore 5, 2) := by decide +kernel
theorem dX5_findBest_58 : decode cX5_findBest 58 = .ok (.iload_n 2, 1) := by decide +kernel
theorem dX5_findBest_59 : decode cX5_findBest 59 = .ok (.iload_n 3, 1) := by decide +kernel
theorem dX5_findBest_60 : decode cX5_findBest 60 = .ok (.invokestatic 141, 3) := by decide +kernel
theorem dX5_findBest_63 : decode cX5_findBest 63 = .ok (.ifCond .eq 47, 3) := by decide +kernel
theorem dX5_findBest_66 : decode cX5_findBest 66 = .ok (.iload_n 2, 1) := by decide +kernel
theorem dX5_findBest_67 : decode cX5_findBest 67 = .ok (.iload 4, 2) := by decide +kernel
theorem dX5_findBest_69 : decode cX5_findBest 69 = .ok (.invokestatic 141, 3) := by decide +kernel
theorem dX5_findBest_72 : decode cX5_findBest 72 = .ok (.ifCond .eq 38, 3) := by decide +kernel
theorem dX5_findBest_75 : decode cX5_findBest 75 = .ok (.aload_n 0, 1) := by decide +kernel
theorem dX5_findBest_76 : decode cX5_findBest 76 = .ok (.getfield 152, 3) := by decide +kernel
theorem dX5_findBest_79 : decode cX5_findBest 79 = .ok (.bipush (-9), 2) := by decide +kernel
theorem dX5_findBest_81 : decode cX5_findBest 81 = .ok (.if_icmp .eq 12, 3) := by decide +kernel
theorem dX5_findBest_84 : decode cX5_findBest 84 = .ok (.iload 5, 2) := by decide +kernel
theorem dX5_findBest_86 : decode cX5_findBest 86 = .ok (.aload_n 0, 1) := by decide +kernel
theorem dX5_findBest_87 : decode cX5_findBest 87 = .ok (.getfield 155, 3) := by decide +kernel
theorem dX5_findBest_90 : decode cX5_findBest 90 = .ok (.if_icmp .ge 20, 3) := by decide +kernel
theorem dX5_findBest_93 : decode cX5_findBest 93 = .ok (.aload_n 0, 1) := by decide +kernel
theorem dX5_findBest_94 : decode cX5_findBest 94 = .ok (.bipush 10, 2) := by decide +kernel
theorem dX5_findBest_96 : decode cX5_findBest 96 = .ok (.iload_n 3, 1) := by decide +kernel
theorem dX5_findBest_97 : decode cX5_findBest 97 = .ok (.imul, 1) := by decide +kernel
theorem dX5_findBest_98 : decode cX5_findBest 98 = .ok (.iload 4, 2) := by decide +kernel
theorem dX5_findBest_100 : decode cX5_findBest 100 = .ok (.iadd, 1) := by decide +kernel
theorem dX5_findBest_101 : decode cX5_findBest 101 = .ok (.putfield 152, 3) := by decide +kernel
theorem dX5_findBest_104 : decode cX5_findBest 104 = .ok (.aload_n 0, 1) := by decide +kernel
theorem dX5_findBest_105 : decode cX5_findBest 105 = .ok (.iload 5, 2) := by decide +kernel
theorem dX5_findBest_107 : decode cX5_findBest 107 = .ok (.putfield 155, 3) := by decide +kernel
theorem dX5_findBest_110 : decode cX5_findBest 110 = .ok (.iinc 4 1, 3) := by decide +kernel
theorem dX5_findBest_113 : decode cX5_findBest 113 = .ok (.goto (-86), 3) := by decide +kernel
theorem dX5_findBest_116 : decode cX5_findBest 116 = .ok (.iinc 3 1, 3) := by decide +kernel
theorem dX5_findBest_119 : decode cX5_findBest 119 = .ok (.goto (-105), 3) := by decide +kernel
theorem dX5_findBest_122 : decode cX5_findBest 122 = .ok (.return_, 1) := by decide +kernel
set_option maxRecDepth 20000 in
theorem ggX5_best_X5_noBoat : GoodIn wsX5_best wsX5_noBoat := goodIn_r _ [8, 9, 10, 11, 7, 12, 39, 40, 41, 42, 43, 44, 45, 46, 47, 48, 49, 50, 51, 52, 53, 54, 55, 56, 57, 58, 59, 60, 61, 62, 63, 64, 65, 66, 67, 68, 69, 70, 71, 72, 73, 74, 75] (by decide +kernel) (by decide +kernel)
set_option maxRecDepth 20000 in
theorem gX5_best_X5_noBoat : GoodIn wsX5_best (wsV RX5 130 RX5 yX5_noBoat wsX5_noBoat) := goodIn_app (goodIn_of _ (by decide +kernel)) ggX5_best_X5_noBoat
set_option maxRecDepth 20000 in
theorem ggX5_best_X5_in : GoodIn wsX5_best wsX5_in := goodIn_r _ [12] (by decide +kernel) (by decide +kernel)
set_option maxRecDepth 20000 in
theorem gX5_best_X5_in : GoodIn wsX5_best (va_wsS RX5 69 yX5_in wsX5_in) := goodIn_app (goodIn_of _ (by decide +kernel)) ggX5_best_X5_in
set_option maxRecDepth 20000 in
theorem ggX5_best_X5_findBest : GoodIn wsX5_best wsX5_findBest := goodIn_r _ [16, 2, 3, 17, 18, 19, 20, 21, 22, 7, 23, 24, 25, 26, 27, 28, 29, 30, 31, 32, 33, 34, 35, 36, 37, 38, 39, 40, 41, 42, 43, 44, 45, 46, 47, 48, 49, 50, 51, 52, 53, 54, 55, 56, 57, 58, 59, 60, 61, 62, 63, 64, 65, 66, 67, 68, 69, 70, 71, 72, 73, 74, 75] (by decide +kernel) (by decide +kernel)
set_option maxRecDepth 20000 in
theorem gX5_best_X5_findBest : GoodIn wsX5_best (wsV RX5 158 RX5 yX5_findBest wsX5_findBest) := goodIn_app (goodIn_of _ (by decide +kernel)) ggX5_best_X5_findBest
theorem dX5_best_0 : decode cX5_best 0 = .ok (.aload_n 0, 1) := by decide +kernel
theorem dX5_best_1 : decode cX5_best 1 = .ok (.iconst 0, 1) := by decide +kernel
theorem dX5_best_2 : decode cX5_best 2 = .ok (.putfield 63, 3) := by decide +kernel
theorem dX5_best_5 : decode cX5_best 5 = .ok (.aload_n 0, 1) := by decide +kernel
theorem dX5_best_6 : decode cX5_best 6 = .ok (.iload_n 1, 1) := by decide +kernel
theorem dX5_best_7 : decode cX5_best 7 = .ok (.invokevirtual 130, 3) := by decide +kernel
theorem dX5_best_10 : decode cX5_best 10 = .ok (.ifCond .eq 5, 3) := by decide +kernel
theorem dX5_best_13 : decode cX5_best 13 = .ok (.iconst (-1), 1) := by decide +kernel
theorem dX5_best_14 : decode cX5_best 14 = .ok (.ireturn, 1) := by decide +kernel
theorem dX5_best_15 : decode cX5_best 15 = .ok (.iload_n 2, 1) := by decide +kernel
theorem dX5_best_16 : decode cX5_best 16 = .ok (.i2l, 1) := by decide +kernel
theorem dX5_best_17 : decode cX5_best 17 = .ok (.lconst 0, 1) := by decide +kernel
theorem dX5_best_18 : decode cX5_best 18 = .ok (.lconst 1, 1) := by decide +kernel
theorem dX5_best_19 : decode cX5_best 19 = .ok (.invokestatic 69, 3) := by decide +kernel
theorem dX5_best_22 : decode cX5_best 22 = .ok (.ifCond .ne 6, 3) := by decide +kernel
theorem dX5_best_25 : decode cX5_best 25 = .ok (.bipush (-2), 2) := by decide +kernel
theorem dX5_best_27 : decode cX5_best 27 = .ok (.ireturn, 1) := by decide +kernel
theorem dX5_best_28 : decode cX5_best 28 = .ok (.aload_n 0, 1) := by decide +kernel
theorem dX5_best_29 : decode cX5_best 29 = .ok (.iload_n 1, 1) := by decide +kernel
theorem dX5_best_30 : decode cX5_best 30 = .ok (.bipush 15, 2) := by decide +kernel
theorem dX5_best_32 : decode cX5_best 32 = .ok (.invokevirtual 158, 3) := by decide +kernel
theorem dX5_best_35 : decode cX5_best 35 = .ok (.iload_n 2, 1) := by decide +kernel
theorem dX5_best_36 : decode cX5_best 36 = .ok (.ifCond .ne 10, 3) := by decide +kernel
theorem dX5_best_39 : decode cX5_best 39 = .ok (.aload_n 0, 1) := by decide +kernel
theorem dX5_best_40 : decode cX5_best 40 = .ok (.getfield 152, 3) := by decide +kernel
theorem dX5_best_43 : decode cX5_best 43 = .ok (.goto 7, 3) := by decide +kernel
theorem dX5_best_46 : decode cX5_best 46 = .ok (.aload_n 0, 1) := by decide +kernel
theorem dX5_best_47 : decode cX5_best 47 = .ok (.getfield 155, 3) := by decide +kernel
theorem dX5_best_50 : decode cX5_best 50 = .ok (.ireturn, 1) := by decide +kernel
set_option maxRecDepth 20000 in
theorem ggX5_findBegin_X5_timeOf : GoodIn wsX5_findBegin wsX5_timeOf := goodIn_r _ [9, 10, 11, 12, 13, 8, 14, 15, 16, 17, 18, 19, 20, 21, 22, 23, 24, 25, 26, 27, 28, 29, 30, 31, 32, 33, 34, 35, 36, 37, 38, 39, 40, 41, 42, 43, 44, 45, 46, 47, 48, 49, 50, 51, 52, 53, 54, 55, 56, 57, 58] (by decide +kernel) (by decide +kernel)
set_option maxRecDepth 20000 in
theorem gX5_findBegin_X5_timeOf : GoodIn wsX5_findBegin (wsV RX5 133 RX5 yX5_timeOf wsX5_timeOf) := goodIn_app (goodIn_of _ (by decide +kernel)) ggX5_findBegin_X5_timeOf
theorem dX5_findBegin_0 : decode cX5_findBegin 0 = .ok (.aload_n 0, 1) := by decide +kernel
theorem dX5_findBegin_1 : decode cX5_findBegin 1 = .ok (.bipush (-9), 2) := by decide +kernel
theorem dX5_findBegin_3 : decode cX5_findBegin 3 = .ok (.putfield 162, 3) := by decide +kernel
theorem dX5_findBegin_6 : decode cX5_findBegin 6 = .ok (.aload_n 0, 1) := by decide +kernel
theorem dX5_findBegin_7 : decode cX5_findBegin 7 = .ok (.bipush (-9), 2) := by decide +kernel
theorem dX5_findBegin_9 : decode cX5_findBegin 9 = .ok (.putfield 165, 3) := by decide +kernel
theorem dX5_findBegin_12 : decode cX5_findBegin 12 = .ok (.iconst 0, 1) := by decide +kernel
theorem dX5_findBegin_13 : decode cX5_findBegin 13 = .ok (.istore 4, 2) := by decide +kernel
theorem dX5_findBegin_15 : decode cX5_findBegin 15 = .ok (.iload 4, 2) := by decide +kernel
theorem dX5_findBegin_17 : decode cX5_findBegin 17 = .ok (.bipush 16, 2) := by decide +kernel
theorem dX5_findBegin_19 : decode cX5_findBegin 19 = .ok (.if_icmp .ge 76, 3) := by decide +kernel
theorem dX5_findBegin_22 : decode cX5_findBegin 22 = .ok (.aload_n 0, 1) := by decide +kernel
theorem dX5_findBegin_23 : decode cX5_findBegin 23 = .ok (.aload_n 0, 1) := by decide +kernel
theorem dX5_findBegin_24 : decode cX5_findBegin 24 = .ok (.getfield 29, 3) := by decide +kernel
theorem dX5_findBegin_27 : decode cX5_findBegin 27 = .ok (.iload_n 2, 1) := by decide +kernel
theorem dX5_findBegin_28 : decode cX5_findBegin 28 = .ok (.iload_n 3, 1) := by decide +kernel
theorem dX5_findBegin_29 : decode cX5_findBegin 29 = .ok (.iload 4, 2) := by decide +kernel
theorem dX5_findBegin_31 : decode cX5_findBegin 31 = .ok (.iconst 4, 1) := by decide +kernel
theorem dX5_findBegin_32 : decode cX5_findBegin 32 = .ok (.idiv, 1) := by decide +kernel
theorem dX5_findBegin_33 : decode cX5_findBegin 33 = .ok (.iload 4, 2) := by decide +kernel
theorem dX5_findBegin_35 : decode cX5_findBegin 35 = .ok (.iconst 4, 1) := by decide +kernel
theorem dX5_findBegin_36 : decode cX5_findBegin 36 = .ok (.irem, 1) := by decide +kernel
theorem dX5_findBegin_37 : decode cX5_findBegin 37 = .ok (.invokevirtual 133, 3) := by decide +kernel
theorem dX5_findBegin_40 : decode cX5_findBegin 40 = .ok (.aload_n 0, 1) := by decide +kernel
theorem dX5_findBegin_41 : decode cX5_findBegin 41 = .ok (.getfield 20, 3) := by decide +kernel
theorem dX5_findBegin_44 : decode cX5_findBegin 44 = .ok (.iload_n 1, 1) := by decide +kernel
theorem dX5_findBegin_45 : decode cX5_findBegin 45 = .ok (.iaload, 1) := by decide +kernel
theorem dX5_findBegin_46 : decode cX5_findBegin 46 = .ok (.iadd, 1) := by decide +kernel
theorem dX5_findBegin_47 : decode cX5_findBegin 47 = .ok (.istore 5, 2) := by decide +kernel
theorem dX5_findBegin_49 : decode cX5_findBegin 49 = .ok (.aload_n 0, 1) := by decide +kernel
theorem dX5_findBegin_50 : decode cX5_findBegin 50 = .ok (.getfield 162, 3) := by decide +kernel
theorem dX5_findBegin_53 : decode cX5_findBegin 53 = .ok (.bipush (-9), 2) := by decide +kernel
theorem dX5_findBegin_55 : decode cX5_findBegin 55 = .ok (.if_icmp .eq 12, 3) := by decide +kernel
theorem dX5_findBegin_58 : decode cX5_findBegin 58 = .ok (.iload 5, 2) := by decide +kernel
theorem dX5_findBegin_60 : decode cX5_findBegin 60 = .ok (.aload_n 0, 1) := by decide +kernel
theorem dX5_findBegin_61 : decode cX5_findBegin 61 = .ok (.getfield 165, 3) := by decide +kernel
theorem dX5_findBegin_64 : decode cX5_findBegin 64 = .ok (.if_icmp .ge 25, 3) := by decide +kernel
theorem dX5_findBegin_67 : decode cX5_findBegin 67 = .ok (.aload_n 0, 1) := by decide +kernel
theorem dX5_findBegin_68 : decode cX5_findBegin 68 = .ok (.bipush 10, 2) := by decide +kernel
theorem dX5_findBegin_70 : decode cX5_findBegin 70 = .ok (.iload 4, 2) := by decide +kernel
theorem dX5_findBegin_72 : decode cX5_findBegin 72 = .ok (.iconst 4, 1) := by decide +kernel
theorem dX5_findBegin_73 : decode cX5_findBegin 73 = .ok (.idiv, 1) := by decide +kernel
theorem dX5_findBegin_74 : decode cX5_findBegin 74 = .ok (.imul, 1) := by decide +kernel
theorem dX5_findBegin_75 : decode cX5_findBegin 75 = .ok (.iload 4, 2) := by decide +kernel
theorem dX5_findBegin_77 : decode cX5_findBegin 77 = .ok (.iconst 4, 1) := by decide +kernel
theorem dX5_findBegin_78 : decode cX5_findBegin 78 = .ok (.irem, 1) := by decide +kernel
theorem dX5_findBegin_79 : decode cX5_findBegin 79 = .ok (.iadd, 1) := by decide +kernel
theorem dX5_findBegin_80 : decode cX5_findBegin 80 = .ok (.putfield 162, 3) := by decide +kernel
theorem dX5_findBegin_83 : decode cX5_findBegin 83 = .ok (.aload_n 0, 1) := by decide +kernel
theorem dX5_findBegin_84 : decode cX5_findBegin 84 = .ok (.iload 5, 2) := by decide +kernel
theorem dX5_findBegin_86 : decode cX5_findBegin 86 = .ok (.putfield 165, 3) := by decide +kernel
theorem dX5_findBegin_89 : decode cX5_findBegin 89 = .ok (.iinc 4 1, 3) := by decide +kernel
theorem dX5_findBegin_92 : decode cX5_findBegin 92 = .ok (.goto (-77), 3) := by decide +kernel
theorem dX5_findBegin_95 : decode cX5_findBegin 95 = .ok (.return_, 1) := by decide +kernel
set_option maxRecDepth 20000 in
theorem ggX5_begin_X5_noPair : GoodIn wsX5_begin wsX5_noPair := goodIn_r _ [8, 9, 10, 11, 7, 12, 13, 14, 15, 16, 17, 18, 19, 20, 21, 44, 45, 46, 47, 48, 49, 50, 51, 52, 53, 54, 55, 56, 57, 58, 59, 60, 61, 62, 63, 64, 65, 66, 67, 68, 69, 70, 71, 72, 73, 74, 75, 76, 77, 78, 79, 80] (by decide +kernel) (by decide +kernel)
set_option maxRecDepth 20000 in
theorem gX5_begin_X5_noPair : GoodIn wsX5_begin (wsV RX5 137 RX5 yX5_noPair wsX5_noPair) := goodIn_app (goodIn_of _ (by decide +kernel)) ggX5_begin_X5_noPair
set_option maxRecDepth 20000 in
theorem ggX5_begin_X5_in : GoodIn wsX5_begin wsX5_in := goodIn_r _ [16] (by decide +kernel) (by decide +kernel)
set_option maxRecDepth 20000 in
theorem gX5_begin_X5_in : GoodIn wsX5_begin (va_wsS RX5 69 yX5_in wsX5_in) := goodIn_app (goodIn_of _ (by decide +kernel)) ggX5_begin_X5_in
set_option maxRecDepth 20000 in
theorem ggX5_begin_X5_findBegin : GoodIn wsX5_begin wsX5_findBegin := goodIn_r _ [25, 2, 3, 26, 27, 28, 29, 30, 7, 31, 32, 33, 34, 35, 36, 37, 38, 39, 40, 41, 42, 43, 44, 45, 46, 47, 48, 49, 50, 51, 52, 53, 54, 55, 56, 57, 58, 59, 60, 61, 62, 63, 64, 65, 66, 67, 68, 69, 70, 71, 72, 73, 74, 75, 76, 77, 78, 79, 80] (by decide +kernel) (by decide +kernel)
set_option maxRecDepth 20000 in
theorem gX5_begin_X5_findBegin : GoodIn wsX5_begin (wsV RX5 168 RX5 yX5_findBegin wsX5_findBegin) := goodIn_app (goodIn_of _ (by decide +kernel)) ggX5_begin_X5_findBegin
theorem dX5_begin_0 : decode cX5_begin 0 = .ok (.aload_n 0, 1) := by decide +kernel
theorem dX5_begin_1 : decode cX5_begin 1 = .ok (.iconst 0, 1) := by decide +kernel
theorem dX5_begin_2 : decode cX5_begin 2 = .ok (.putfield 63, 3) := by decide +kernel
theorem dX5_begin_5 : decode cX5_begin 5 = .ok (.aload_n 0, 1) := by decide +kernel
theorem dX5_begin_6 : decode cX5_begin 6 = .ok (.iload_n 1, 1) := by decide +kernel
theorem dX5_begin_7 : decode cX5_begin 7 = .ok (.iload_n 2, 1) := by decide +kernel
theorem dX5_begin_8 : decode cX5_begin 8 = .ok (.iload_n 3, 1) := by decide +kernel
theorem dX5_begin_9 : decode cX5_begin 9 = .ok (.invokevirtual 137, 3) := by decide +kernel
theorem dX5_begin_12 : decode cX5_begin 12 = .ok (.istore 5, 2) := by decide +kernel
theorem dX5_begin_14 : decode cX5_begin 14 = .ok (.iload 5, 2) := by decide +kernel
theorem dX5_begin_16 : decode cX5_begin 16 = .ok (.ifCond .eq 6, 3) := by decide +kernel
theorem dX5_begin_19 : decode cX5_begin 19 = .ok (.iload 5, 2) := by decide +kernel
theorem dX5_begin_21 : decode cX5_begin 21 = .ok (.ireturn, 1) := by decide +kernel
theorem dX5_begin_22 : decode cX5_begin 22 = .ok (.iload 4, 2) := by decide +kernel
theorem dX5_begin_24 : decode cX5_begin 24 = .ok (.i2l, 1) := by decide +kernel
theorem dX5_begin_25 : decode cX5_begin 25 = .ok (.lconst 0, 1) := by decide +kernel
theorem dX5_begin_26 : decode cX5_begin 26 = .ok (.lconst 1, 1) := by decide +kernel
theorem dX5_begin_27 : decode cX5_begin 27 = .ok (.invokestatic 69, 3) := by decide +kernel
theorem dX5_begin_30 : decode cX5_begin 30 = .ok (.ifCond .ne 6, 3) := by decide +kernel
theorem dX5_begin_33 : decode cX5_begin 33 = .ok (.bipush (-2), 2) := by decide +kernel
theorem dX5_begin_35 : decode cX5_begin 35 = .ok (.ireturn, 1) := by decide +kernel
theorem dX5_begin_36 : decode cX5_begin 36 = .ok (.aload_n 0, 1) := by decide +kernel
theorem dX5_begin_37 : decode cX5_begin 37 = .ok (.iload_n 1, 1) := by decide +kernel
theorem dX5_begin_38 : decode cX5_begin 38 = .ok (.iload_n 2, 1) := by decide +kernel
theorem dX5_begin_39 : decode cX5_begin 39 = .ok (.iload_n 3, 1) := by decide +kernel
theorem dX5_begin_40 : decode cX5_begin 40 = .ok (.invokevirtual 168, 3) := by decide +kernel
theorem dX5_begin_43 : decode cX5_begin 43 = .ok (.iload 4, 2) := by decide +kernel
theorem dX5_begin_45 : decode cX5_begin 45 = .ok (.ifCond .ne 10, 3) := by decide +kernel
theorem dX5_begin_48 : decode cX5_begin 48 = .ok (.aload_n 0, 1) := by decide +kernel
theorem dX5_begin_49 : decode cX5_begin 49 = .ok (.getfield 162, 3) := by decide +kernel
theorem dX5_begin_52 : decode cX5_begin 52 = .ok (.goto 7, 3) := by decide +kernel
theorem dX5_begin_55 : decode cX5_begin 55 = .ok (.aload_n 0, 1) := by decide +kernel
theorem dX5_begin_56 : decode cX5_begin 56 = .ok (.getfield 165, 3) := by decide +kernel
theorem dX5_begin_59 : decode cX5_begin 59 = .ok (.ireturn, 1) := by decide +kernel
theorem dX5_power_0 : decode cX5_power 0 = .ok (.iconst 1, 1) := by decide +kernel
theorem dX5_power_1 : decode cX5_power 1 = .ok (.istore_n 2, 1) := by decide +kernel
theorem dX5_power_2 : decode cX5_power 2 = .ok (.iconst 0, 1) := by decide +kernel
theorem dX5_power_3 : decode cX5_power 3 = .ok (.istore_n 3, 1) := by decide +kernel
theorem dX5_power_4 : decode cX5_power 4 = .ok (.iload_n 3, 1) := by decide +kernel
theorem dX5_power_5 : decode cX5_power 5 = .ok (.iload_n 1, 1) := by decide +kernel
theorem dX5_power_6 : decode cX5_power 6 = .ok (.if_icmp .ge 13, 3) := by decide +kernel
theorem dX5_power_9 : decode cX5_power 9 = .ok (.iload_n 2, 1) := by decide +kernel
theorem dX5_power_10 : decode cX5_power 10 = .ok (.iload_n 0, 1) := by decide +kernel
theorem dX5_power_11 : decode cX5_power 11 = .ok (.imul, 1) := by decide +kernel
theorem dX5_power_12 : decode cX5_power 12 = .ok (.istore_n 2, 1) := by decide +kernel
theorem dX5_power_13 : decode cX5_power 13 = .ok (.iinc 3 1, 3) := by decide +kernel
theorem dX5_power_16 : decode cX5_power 16 = .ok (.goto (-12), 3) := by decide +kernel
theorem dX5_power_19 : decode cX5_power 19 = .ok (.iload_n 2, 1) := by decide +kernel
theorem dX5_power_20 : decode cX5_power 20 = .ok (.ireturn, 1) := by decide +kernel
theorem dX5_layPairs_0 : decode cX5_layPairs 0 = .ok (.aload_n 0, 1) := by decide +kernel
theorem dX5_layPairs_1 : decode cX5_layPairs 1 = .ok (.iconst 0, 1) := by decide +kernel
theorem dX5_layPairs_2 : decode cX5_layPairs 2 = .ok (.putfield 172, 3) := by decide +kernel
theorem dX5_layPairs_5 : decode cX5_layPairs 5 = .ok (.iconst 0, 1) := by decide +kernel
theorem dX5_layPairs_6 : decode cX5_layPairs 6 = .ok (.istore_n 1, 1) := by decide +kernel
theorem dX5_layPairs_7 : decode cX5_layPairs 7 = .ok (.iload_n 1, 1) := by decide +kernel
theorem dX5_layPairs_8 : decode cX5_layPairs 8 = .ok (.aload_n 0, 1) := by decide +kernel
theorem dX5_layPairs_9 : decode cX5_layPairs 9 = .ok (.getfield 66, 3) := by decide +kernel
theorem dX5_layPairs_12 : decode cX5_layPairs 12 = .ok (.if_icmp .ge 57, 3) := by decide +kernel
theorem dX5_layPairs_15 : decode cX5_layPairs 15 = .ok (.iload_n 1, 1) := by decide +kernel
theorem dX5_layPairs_16 : decode cX5_layPairs 16 = .ok (.iconst 1, 1) := by decide +kernel
theorem dX5_layPairs_17 : decode cX5_layPairs 17 = .ok (.iadd, 1) := by decide +kernel
theorem dX5_layPairs_18 : decode cX5_layPairs 18 = .ok (.istore_n 2, 1) := by decide +kernel
theorem dX5_layPairs_19 : decode cX5_layPairs 19 = .ok (.iload_n 2, 1) := by decide +kernel
theorem dX5_layPairs_20 : decode cX5_layPairs 20 = .ok (.aload_n 0, 1) := by decide +kernel
theorem dX5_layPairs_21 : decode cX5_layPairs 21 = .ok (.getfield 66, 3) := by decide +kernel
theorem dX5_layPairs_24 : decode cX5_layPairs 24 = .ok (.if_icmp .ge 39, 3) := by decide +kernel
theorem dX5_layPairs_27 : decode cX5_layPairs 27 = .ok (.aload_n 0, 1) := by decide +kernel
theorem dX5_layPairs_28 : decode cX5_layPairs 28 = .ok (.getfield 57, 3) := by decide +kernel
theorem dX5_layPairs_31 : decode cX5_layPairs 31 = .ok (.aload_n 0, 1) := by decide +kernel
theorem dX5_layPairs_32 : decode cX5_layPairs 32 = .ok (.getfield 172, 3) := by decide +kernel
theorem dX5_layPairs_35 : decode cX5_layPairs 35 = .ok (.iload_n 1, 1) := by decide +kernel
theorem dX5_layPairs_36 : decode cX5_layPairs 36 = .ok (.iastore, 1) := by decide +kernel
theorem dX5_layPairs_37 : decode cX5_layPairs 37 = .ok (.aload_n 0, 1) := by decide +kernel
theorem dX5_layPairs_38 : decode cX5_layPairs 38 = .ok (.getfield 60, 3) := by decide +kernel
theorem dX5_layPairs_41 : decode cX5_layPairs 41 = .ok (.aload_n 0, 1) := by decide +kernel
theorem dX5_layPairs_42 : decode cX5_layPairs 42 = .ok (.getfield 172, 3) := by decide +kernel
theorem dX5_layPairs_45 : decode cX5_layPairs 45 = .ok (.iload_n 2, 1) := by decide +kernel
theorem dX5_layPairs_46 : decode cX5_layPairs 46 = .ok (.iastore, 1) := by decide +kernel
theorem dX5_layPairs_47 : decode cX5_layPairs 47 = .ok (.aload_n 0, 1) := by decide +kernel
theorem dX5_layPairs_48 : decode cX5_layPairs 48 = .ok (.dup, 1) := by decide +kernel
theorem dX5_layPairs_49 : decode cX5_layPairs 49 = .ok (.getfield 172, 3) := by decide +kernel
theorem dX5_layPairs_52 : decode cX5_layPairs 52 = .ok (.iconst 1, 1) := by decide +kernel
theorem dX5_layPairs_53 : decode cX5_layPairs 53 = .ok (.iadd, 1) := by decide +kernel
theorem dX5_layPairs_54 : decode cX5_layPairs 54 = .ok (.putfield 172, 3) := by decide +kernel
theorem dX5_layPairs_57 : decode cX5_layPairs 57 = .ok (.iinc 2 1, 3) := by decide +kernel
theorem dX5_layPairs_60 : decode cX5_layPairs 60 = .ok (.goto (-41), 3) := by decide +kernel
theorem dX5_layPairs_63 : decode cX5_layPairs 63 = .ok (.iinc 1 1, 3) := by decide +kernel
theorem dX5_layPairs_66 : decode cX5_layPairs 66 = .ok (.goto (-59), 3) := by decide +kernel
theorem dX5_layPairs_69 : decode cX5_layPairs 69 = .ok (.return_, 1) := by decide +kernel
set_option maxRecDepth 20000 in
theorem ggX5_findSoonest_X5_layPairs : GoodIn wsX5_findSoonest wsX5_layPairs := goodIn_r _ [13, 3, 14, 7, 8, 48, 49, 50, 51, 52, 53, 54, 55, 56, 57, 58, 59, 60, 61, 62, 63, 64, 65, 66, 67, 68, 69, 70, 71, 72, 73, 74, 75, 76, 77, 78, 79, 80, 81, 82, 83, 84] (by decide +kernel) (by decide +kernel)
set_option maxRecDepth 20000 in
theorem gX5_findSoonest_X5_layPairs : GoodIn wsX5_findSoonest (wsV RX5 175 RX5 yX5_layPairs wsX5_layPairs) := goodIn_app (goodIn_of _ (by decide +kernel)) ggX5_findSoonest_X5_layPairs
set_option maxRecDepth 20000 in
theorem ggX5_findSoonest_X5_many : GoodIn wsX5_findSoonest wsX5_many := goodIn_r _ [17] (by decide +kernel) (by decide +kernel)
set_option maxRecDepth 20000 in
theorem gX5_findSoonest_X5_many : GoodIn wsX5_findSoonest (va_wsS RX5 178 yX5_many wsX5_many) := goodIn_app (goodIn_of _ (by decide +kernel)) ggX5_findSoonest_X5_many
set_option maxRecDepth 20000 in
theorem ggX5_findSoonest_X5_power : GoodIn wsX5_findSoonest wsX5_power := goodIn_r _ [20] (by decide +kernel) (by decide +kernel)
set_option maxRecDepth 20000 in
theorem gX5_findSoonest_X5_power : GoodIn wsX5_findSoonest (va_wsS RX5 187 yX5_power wsX5_power) := goodIn_app (goodIn_of _ (by decide +kernel)) ggX5_findSoonest_X5_power
set_option maxRecDepth 20000 in
theorem ggX5_findSoonest_X5_copy : GoodIn wsX5_findSoonest wsX5_copy := goodIn_r _ [23] (by decide +kernel) (by decide +kernel)
set_option maxRecDepth 20000 in
theorem gX5_findSoonest_X5_copy : GoodIn wsX5_findSoonest (va_wsS RX5 190 yX5_copy wsX5_copy) := goodIn_app (goodIn_of _ (by decide +kernel)) ggX5_findSoonest_X5_copy
set_option maxRecDepth 20000 in
theorem ggX5_findSoonest_X5_has : GoodIn wsX5_findSoonest wsX5_has := goodIn_r _ [26] (by decide +kernel) (by decide +kernel)
set_option maxRecDepth 20000 in
theorem gX5_findSoonest_X5_has : GoodIn wsX5_findSoonest (va_wsS RX5 141 yX5_has wsX5_has) := goodIn_app (goodIn_of _ (by decide +kernel)) ggX5_findSoonest_X5_has
set_option maxRecDepth 20000 in
theorem ggX5_findSoonest_X5_goLeg : GoodIn wsX5_findSoonest wsX5_goLeg := goodIn_r _ [30, 31, 32, 33, 34, 12, 35, 36, 37, 38, 39, 40, 41, 42, 43, 44, 45, 46, 47, 48, 49, 50, 51, 52, 53, 54, 55, 56, 57, 58, 59, 60, 61, 62, 63, 64, 65, 66, 67, 68, 69, 70, 71, 72, 73, 74, 75, 76, 77, 78, 79, 80, 81, 82, 83, 84] (by decide +kernel) (by decide +kernel)
set_option maxRecDepth 20000 in
theorem gX5_findSoonest_X5_goLeg : GoodIn wsX5_findSoonest (wsV RX5 148 RX5 yX5_goLeg wsX5_goLeg) := goodIn_app (goodIn_of _ (by decide +kernel)) ggX5_findSoonest_X5_goLeg
theorem dX5_findSoonest_0 : decode cX5_findSoonest 0 = .ok (.aload_n 0, 1) := by decide +kernel
theorem dX5_findSoonest_1 : decode cX5_findSoonest 1 = .ok (.invokevirtual 175, 3) := by decide +kernel
theorem dX5_findSoonest_4 : decode cX5_findSoonest 4 = .ok (.iconst 1, 1) := by decide +kernel
theorem dX5_findSoonest_5 : decode cX5_findSoonest 5 = .ok (.aload_n 0, 1) := by decide +kernel
theorem dX5_findSoonest_6 : decode cX5_findSoonest 6 = .ok (.getfield 73, 3) := by decide +kernel
theorem dX5_findSoonest_9 : decode cX5_findSoonest 9 = .ok (.ishl, 1) := by decide +kernel
theorem dX5_findSoonest_10 : decode cX5_findSoonest 10 = .ok (.iconst 1, 1) := by decide +kernel
theorem dX5_findSoonest_11 : decode cX5_findSoonest 11 = .ok (.isub, 1) := by decide +kernel
theorem dX5_findSoonest_12 : decode cX5_findSoonest 12 = .ok (.aload_n 0, 1) := by decide +kernel
theorem dX5_findSoonest_13 : decode cX5_findSoonest 13 = .ok (.getfield 35, 3) := by decide +kernel
theorem dX5_findSoonest_16 : decode cX5_findSoonest 16 = .ok (.bipush 20, 2) := by decide +kernel
theorem dX5_findSoonest_18 : decode cX5_findSoonest 18 = .ok (.iaload, 1) := by decide +kernel
theorem dX5_findSoonest_19 : decode cX5_findSoonest 19 = .ok (.iconst (-1), 1) := by decide +kernel
theorem dX5_findSoonest_20 : decode cX5_findSoonest 20 = .ok (.ixor, 1) := by decide +kernel
theorem dX5_findSoonest_21 : decode cX5_findSoonest 21 = .ok (.iand, 1) := by decide +kernel
theorem dX5_findSoonest_22 : decode cX5_findSoonest 22 = .ok (.istore_n 1, 1) := by decide +kernel
theorem dX5_findSoonest_23 : decode cX5_findSoonest 23 = .ok (.iload_n 1, 1) := by decide +kernel
theorem dX5_findSoonest_24 : decode cX5_findSoonest 24 = .ok (.invokestatic 178, 3) := by decide +kernel
theorem dX5_findSoonest_27 : decode cX5_findSoonest 27 = .ok (.istore_n 2, 1) := by decide +kernel
theorem dX5_findSoonest_28 : decode cX5_findSoonest 28 = .ok (.aload_n 0, 1) := by decide +kernel
theorem dX5_findSoonest_29 : decode cX5_findSoonest 29 = .ok (.getfield 73, 3) := by decide +kernel
theorem dX5_findSoonest_32 : decode cX5_findSoonest 32 = .ok (.aload_n 0, 1) := by decide +kernel
theorem dX5_findSoonest_33 : decode cX5_findSoonest 33 = .ok (.getfield 172, 3) := by decide +kernel
theorem dX5_findSoonest_36 : decode cX5_findSoonest 36 = .ok (.imul, 1) := by decide +kernel
theorem dX5_findSoonest_37 : decode cX5_findSoonest 37 = .ok (.istore_n 3, 1) := by decide +kernel
theorem dX5_findSoonest_38 : decode cX5_findSoonest 38 = .ok (.aload_n 0, 1) := by decide +kernel
theorem dX5_findSoonest_39 : decode cX5_findSoonest 39 = .ok (.iload_n 2, 1) := by decide +kernel
theorem dX5_findSoonest_40 : decode cX5_findSoonest 40 = .ok (.ifCond .ne 7, 3) := by decide +kernel
theorem dX5_findSoonest_43 : decode cX5_findSoonest 43 = .ok (.iconst 0, 1) := by decide +kernel
theorem dX5_findSoonest_44 : decode cX5_findSoonest 44 = .ok (.goto 5, 3) := by decide +kernel
theorem dX5_findSoonest_47 : decode cX5_findSoonest 47 = .ok (.bipush (-9), 2) := by decide +kernel
theorem dX5_findSoonest_49 : decode cX5_findSoonest 49 = .ok (.putfield 181, 3) := by decide +kernel
theorem dX5_findSoonest_52 : decode cX5_findSoonest 52 = .ok (.aload_n 0, 1) := by decide +kernel
theorem dX5_findSoonest_53 : decode cX5_findSoonest 53 = .ok (.iload_n 2, 1) := by decide +kernel
theorem dX5_findSoonest_54 : decode cX5_findSoonest 54 = .ok (.ifCond .ne 7, 3) := by decide +kernel
theorem dX5_findSoonest_57 : decode cX5_findSoonest 57 = .ok (.iconst 0, 1) := by decide +kernel
theorem dX5_findSoonest_58 : decode cX5_findSoonest 58 = .ok (.goto 5, 3) := by decide +kernel
theorem dX5_findSoonest_61 : decode cX5_findSoonest 61 = .ok (.bipush (-9), 2) := by decide +kernel
theorem dX5_findSoonest_63 : decode cX5_findSoonest 63 = .ok (.putfield 184, 3) := by decide +kernel
theorem dX5_findSoonest_66 : decode cX5_findSoonest 66 = .ok (.iconst 0, 1) := by decide +kernel
theorem dX5_findSoonest_67 : decode cX5_findSoonest 67 = .ok (.istore 4, 2) := by decide +kernel
theorem dX5_findSoonest_69 : decode cX5_findSoonest 69 = .ok (.iload 4, 2) := by decide +kernel
theorem dX5_findSoonest_71 : decode cX5_findSoonest 71 = .ok (.iload_n 3, 1) := by decide +kernel
theorem dX5_findSoonest_72 : decode cX5_findSoonest 72 = .ok (.iload_n 2, 1) := by decide +kernel
theorem dX5_findSoonest_73 : decode cX5_findSoonest 73 = .ok (.invokestatic 187, 3) := by decide +kernel
theorem dX5_findSoonest_76 : decode cX5_findSoonest 76 = .ok (.if_icmp .ge 218, 3) := by decide +kernel
theorem dX5_findSoonest_79 : decode cX5_findSoonest 79 = .ok (.iload_n 2, 1) := by decide +kernel
theorem dX5_findSoonest_80 : decode cX5_findSoonest 80 = .ok (.ifCond .le 214, 3) := by decide +kernel
theorem dX5_findSoonest_83 : decode cX5_findSoonest 83 = .ok (.aload_n 0, 1) := by decide +kernel
theorem dX5_findSoonest_84 : decode cX5_findSoonest 84 = .ok (.getfield 35, 3) := by decide +kernel
theorem dX5_findSoonest_87 : decode cX5_findSoonest 87 = .ok (.aload_n 0, 1) := by decide +kernel
theorem dX5_findSoonest_88 : decode cX5_findSoonest 88 = .ok (.getfield 32, 3) := by decide +kernel
theorem dX5_findSoonest_91 : decode cX5_findSoonest 91 = .ok (.invokestatic 190, 3) := by decide +kernel
theorem dX5_findSoonest_94 : decode cX5_findSoonest 94 = .ok (.iconst 0, 1) := by decide +kernel
theorem dX5_findSoonest_95 : decode cX5_findSoonest 95 = .ok (.istore 5, 2) := by decide +kernel
theorem dX5_findSoonest_97 : decode cX5_findSoonest 97 = .ok (.iconst 1, 1) := by decide +kernel
theorem dX5_findSoonest_98 : decode cX5_findSoonest 98 = .ok (.istore 6, 2) := by decide +kernel
theorem dX5_findSoonest_100 : decode cX5_findSoonest 100 = .ok (.iload_n 2, 1) := by decide +kernel
theorem dX5_findSoonest_101 : decode cX5_findSoonest 101 = .ok (.iconst 1, 1) := by decide +kernel
theorem dX5_findSoonest_102 : decode cX5_findSoonest 102 = .ok (.isub, 1) := by decide +kernel
theorem dX5_findSoonest_103 : decode cX5_findSoonest 103 = .ok (.istore 7, 2) := by decide +kernel
theorem dX5_findSoonest_105 : decode cX5_findSoonest 105 = .ok (.iload 7, 2) := by decide +kernel
theorem dX5_findSoonest_107 : decode cX5_findSoonest 107 = .ok (.ifCond .lt 129, 3) := by decide +kernel
theorem dX5_findSoonest_110 : decode cX5_findSoonest 110 = .ok (.iload 6, 2) := by decide +kernel
theorem dX5_findSoonest_112 : decode cX5_findSoonest 112 = .ok (.ifCond .eq 124, 3) := by decide +kernel
theorem dX5_findSoonest_115 : decode cX5_findSoonest 115 = .ok (.iload 4, 2) := by decide +kernel
theorem dX5_findSoonest_117 : decode cX5_findSoonest 117 = .ok (.iload_n 3, 1) := by decide +kernel
theorem dX5_findSoonest_118 : decode cX5_findSoonest 118 = .ok (.iload 7, 2) := by decide +kernel
theorem dX5_findSoonest_120 : decode cX5_findSoonest 120 = .ok (.invokestatic 187, 3) := by decide +kernel
theorem dX5_findSoonest_123 : decode cX5_findSoonest 123 = .ok (.idiv, 1) := by decide +kernel
theorem dX5_findSoonest_124 : decode cX5_findSoonest 124 = .ok (.iload_n 3, 1) := by decide +kernel
theorem dX5_findSoonest_125 : decode cX5_findSoonest 125 = .ok (.irem, 1) := by decide +kernel
theorem dX5_findSoonest_126 : decode cX5_findSoonest 126 = .ok (.istore 8, 2) := by decide +kernel
theorem dX5_findSoonest_128 : decode cX5_findSoonest 128 = .ok (.iload 8, 2) := by decide +kernel
theorem dX5_findSoonest_130 : decode cX5_findSoonest 130 = .ok (.aload_n 0, 1) := by decide +kernel
theorem dX5_findSoonest_131 : decode cX5_findSoonest 131 = .ok (.getfield 172, 3) := by decide +kernel
theorem dX5_findSoonest_134 : decode cX5_findSoonest 134 = .ok (.idiv, 1) := by decide +kernel
theorem dX5_findSoonest_135 : decode cX5_findSoonest 135 = .ok (.istore 9, 2) := by decide +kernel
theorem dX5_findSoonest_137 : decode cX5_findSoonest 137 = .ok (.iload 8, 2) := by decide +kernel
theorem dX5_findSoonest_139 : decode cX5_findSoonest 139 = .ok (.aload_n 0, 1) := by decide +kernel
theorem dX5_findSoonest_140 : decode cX5_findSoonest 140 = .ok (.getfield 172, 3) := by decide +kernel
theorem dX5_findSoonest_143 : decode cX5_findSoonest 143 = .ok (.irem, 1) := by decide +kernel
theorem dX5_findSoonest_144 : decode cX5_findSoonest 144 = .ok (.istore 10, 2) := by decide +kernel
theorem dX5_findSoonest_146 : decode cX5_findSoonest 146 = .ok (.aload_n 0, 1) := by decide +kernel
theorem dX5_findSoonest_147 : decode cX5_findSoonest 147 = .ok (.getfield 32, 3) := by decide +kernel
theorem dX5_findSoonest_150 : decode cX5_findSoonest 150 = .ok (.bipush 20, 2) := by decide +kernel
theorem dX5_findSoonest_152 : decode cX5_findSoonest 152 = .ok (.iaload, 1) := by decide +kernel
theorem dX5_findSoonest_153 : decode cX5_findSoonest 153 = .ok (.iload 9, 2) := by decide +kernel
theorem dX5_findSoonest_155 : decode cX5_findSoonest 155 = .ok (.invokestatic 141, 3) := by decide +kernel
theorem dX5_findSoonest_158 : decode cX5_findSoonest 158 = .ok (.ifCond .ne 7, 3) := by decide +kernel
theorem dX5_findSoonest_161 : decode cX5_findSoonest 161 = .ok (.iconst 1, 1) := by decide +kernel
theorem dX5_findSoonest_162 : decode cX5_findSoonest 162 = .ok (.goto 4, 3) := by decide +kernel
theorem dX5_findSoonest_165 : decode cX5_findSoonest 165 = .ok (.iconst 0, 1) := by decide +kernel
theorem dX5_findSoonest_166 : decode cX5_findSoonest 166 = .ok (.istore 6, 2) := by decide +kernel
theorem dX5_findSoonest_168 : decode cX5_findSoonest 168 = .ok (.sipush 1000, 3) := by decide +kernel
theorem dX5_findSoonest_171 : decode cX5_findSoonest 171 = .ok (.iload 5, 2) := by decide +kernel
theorem dX5_findSoonest_173 : decode cX5_findSoonest 173 = .ok (.imul, 1) := by decide +kernel
theorem dX5_findSoonest_174 : decode cX5_findSoonest 174 = .ok (.bipush 100, 2) := by decide +kernel
theorem dX5_findSoonest_176 : decode cX5_findSoonest 176 = .ok (.iload 9, 2) := by decide +kernel
theorem dX5_findSoonest_178 : decode cX5_findSoonest 178 = .ok (.imul, 1) := by decide +kernel
theorem dX5_findSoonest_179 : decode cX5_findSoonest 179 = .ok (.iadd, 1) := by decide +kernel
theorem dX5_findSoonest_180 : decode cX5_findSoonest 180 = .ok (.bipush 10, 2) := by decide +kernel
theorem dX5_findSoonest_182 : decode cX5_findSoonest 182 = .ok (.aload_n 0, 1) := by decide +kernel
theorem dX5_findSoonest_183 : decode cX5_findSoonest 183 = .ok (.getfield 57, 3) := by decide +kernel
theorem dX5_findSoonest_186 : decode cX5_findSoonest 186 = .ok (.iload 10, 2) := by decide +kernel
theorem dX5_findSoonest_188 : decode cX5_findSoonest 188 = .ok (.iaload, 1) := by decide +kernel
theorem dX5_findSoonest_189 : decode cX5_findSoonest 189 = .ok (.imul, 1) := by decide +kernel
theorem dX5_findSoonest_190 : decode cX5_findSoonest 190 = .ok (.iadd, 1) := by decide +kernel
theorem dX5_findSoonest_191 : decode cX5_findSoonest 191 = .ok (.aload_n 0, 1) := by decide +kernel
theorem dX5_findSoonest_192 : decode cX5_findSoonest 192 = .ok (.getfield 60, 3) := by decide +kernel
theorem dX5_findSoonest_195 : decode cX5_findSoonest 195 = .ok (.iload 10, 2) := by decide +kernel
theorem dX5_findSoonest_197 : decode cX5_findSoonest 197 = .ok (.iaload, 1) := by decide +kernel
theorem dX5_findSoonest_198 : decode cX5_findSoonest 198 = .ok (.iadd, 1) := by decide +kernel
theorem dX5_findSoonest_199 : decode cX5_findSoonest 199 = .ok (.istore 5, 2) := by decide +kernel
theorem dX5_findSoonest_201 : decode cX5_findSoonest 201 = .ok (.iload 6, 2) := by decide +kernel
theorem dX5_findSoonest_203 : decode cX5_findSoonest 203 = .ok (.ifCond .eq 27, 3) := by decide +kernel
theorem dX5_findSoonest_206 : decode cX5_findSoonest 206 = .ok (.aload_n 0, 1) := by decide +kernel
theorem dX5_findSoonest_207 : decode cX5_findSoonest 207 = .ok (.aload_n 0, 1) := by decide +kernel
theorem dX5_findSoonest_208 : decode cX5_findSoonest 208 = .ok (.getfield 32, 3) := by decide +kernel
theorem dX5_findSoonest_211 : decode cX5_findSoonest 211 = .ok (.iload 9, 2) := by decide +kernel
theorem dX5_findSoonest_213 : decode cX5_findSoonest 213 = .ok (.aload_n 0, 1) := by decide +kernel
theorem dX5_findSoonest_214 : decode cX5_findSoonest 214 = .ok (.getfield 57, 3) := by decide +kernel
theorem dX5_findSoonest_217 : decode cX5_findSoonest 217 = .ok (.iload 10, 2) := by decide +kernel
theorem dX5_findSoonest_219 : decode cX5_findSoonest 219 = .ok (.iaload, 1) := by decide +kernel
theorem dX5_findSoonest_220 : decode cX5_findSoonest 220 = .ok (.aload_n 0, 1) := by decide +kernel
theorem dX5_findSoonest_221 : decode cX5_findSoonest 221 = .ok (.getfield 60, 3) := by decide +kernel
theorem dX5_findSoonest_224 : decode cX5_findSoonest 224 = .ok (.iload 10, 2) := by decide +kernel
theorem dX5_findSoonest_226 : decode cX5_findSoonest 226 = .ok (.iaload, 1) := by decide +kernel
theorem dX5_findSoonest_227 : decode cX5_findSoonest 227 = .ok (.invokevirtual 148, 3) := by decide +kernel
theorem dX5_findSoonest_230 : decode cX5_findSoonest 230 = .ok (.iinc 7 (-1), 3) := by decide +kernel
theorem dX5_findSoonest_233 : decode cX5_findSoonest 233 = .ok (.goto (-128), 3) := by decide +kernel
theorem dX5_findSoonest_236 : decode cX5_findSoonest 236 = .ok (.aload_n 0, 1) := by decide +kernel
theorem dX5_findSoonest_237 : decode cX5_findSoonest 237 = .ok (.getfield 32, 3) := by decide +kernel
theorem dX5_findSoonest_240 : decode cX5_findSoonest 240 = .ok (.bipush 21, 2) := by decide +kernel
theorem dX5_findSoonest_242 : decode cX5_findSoonest 242 = .ok (.iaload, 1) := by decide +kernel
theorem dX5_findSoonest_243 : decode cX5_findSoonest 243 = .ok (.aload_n 0, 1) := by decide +kernel
theorem dX5_findSoonest_244 : decode cX5_findSoonest 244 = .ok (.getfield 35, 3) := by decide +kernel
theorem dX5_findSoonest_247 : decode cX5_findSoonest 247 = .ok (.bipush 21, 2) := by decide +kernel
theorem dX5_findSoonest_249 : decode cX5_findSoonest 249 = .ok (.iaload, 1) := by decide +kernel
theorem dX5_findSoonest_250 : decode cX5_findSoonest 250 = .ok (.isub, 1) := by decide +kernel
theorem dX5_findSoonest_251 : decode cX5_findSoonest 251 = .ok (.istore 7, 2) := by decide +kernel
theorem dX5_findSoonest_253 : decode cX5_findSoonest 253 = .ok (.iload 6, 2) := by decide +kernel
theorem dX5_findSoonest_255 : decode cX5_findSoonest 255 = .ok (.ifCond .eq 33, 3) := by decide +kernel
theorem dX5_findSoonest_258 : decode cX5_findSoonest 258 = .ok (.aload_n 0, 1) := by decide +kernel
theorem dX5_findSoonest_259 : decode cX5_findSoonest 259 = .ok (.getfield 181, 3) := by decide +kernel
theorem dX5_findSoonest_262 : decode cX5_findSoonest 262 = .ok (.bipush (-9), 2) := by decide +kernel
theorem dX5_findSoonest_264 : decode cX5_findSoonest 264 = .ok (.if_icmp .eq 12, 3) := by decide +kernel
theorem dX5_findSoonest_267 : decode cX5_findSoonest 267 = .ok (.iload 7, 2) := by decide +kernel
theorem dX5_findSoonest_269 : decode cX5_findSoonest 269 = .ok (.aload_n 0, 1) := by decide +kernel
theorem dX5_findSoonest_270 : decode cX5_findSoonest 270 = .ok (.getfield 181, 3) := by decide +kernel
theorem dX5_findSoonest_273 : decode cX5_findSoonest 273 = .ok (.if_icmp .ge 15, 3) := by decide +kernel
theorem dX5_findSoonest_276 : decode cX5_findSoonest 276 = .ok (.aload_n 0, 1) := by decide +kernel
theorem dX5_findSoonest_277 : decode cX5_findSoonest 277 = .ok (.iload 7, 2) := by decide +kernel
theorem dX5_findSoonest_279 : decode cX5_findSoonest 279 = .ok (.putfield 181, 3) := by decide +kernel
theorem dX5_findSoonest_282 : decode cX5_findSoonest 282 = .ok (.aload_n 0, 1) := by decide +kernel
theorem dX5_findSoonest_283 : decode cX5_findSoonest 283 = .ok (.iload 5, 2) := by decide +kernel
theorem dX5_findSoonest_285 : decode cX5_findSoonest 285 = .ok (.putfield 184, 3) := by decide +kernel
theorem dX5_findSoonest_288 : decode cX5_findSoonest 288 = .ok (.iinc 4 1, 3) := by decide +kernel
theorem dX5_findSoonest_291 : decode cX5_findSoonest 291 = .ok (.goto (-222), 3) := by decide +kernel
theorem dX5_findSoonest_294 : decode cX5_findSoonest 294 = .ok (.return_, 1) := by decide +kernel
set_option maxRecDepth 20000 in
theorem ggX5_soonest_X5_copy : GoodIn wsX5_soonest wsX5_copy := goodIn_r _ [9] (by decide +kernel) (by decide +kernel)
set_option maxRecDepth 20000 in
theorem gX5_soonest_X5_copy : GoodIn wsX5_soonest (va_wsS RX5 190 yX5_copy wsX5_copy) := goodIn_app (goodIn_of _ (by decide +kernel)) ggX5_soonest_X5_copy
set_option maxRecDepth 20000 in
theorem ggX5_soonest_X5_findSoonest : GoodIn wsX5_soonest wsX5_findSoonest := goodIn_r _ [13, 14, 3, 15, 5, 4, 16, 17, 18, 19, 20, 21, 8, 22, 23, 24, 25, 26, 27, 28, 29, 6, 7, 9, 30, 31, 32, 33, 34, 35, 36, 37, 38, 39, 40, 41, 42, 43, 44, 45, 46, 47, 48, 49, 50, 51, 52, 53, 54, 55, 56, 57, 58, 59, 60, 61, 62, 63, 64, 65, 66, 67, 68, 69, 70, 71, 72, 73, 74, 75, 76, 77, 78, 79, 80, 81, 82, 83, 84, 85, 86, 87, 88, 89, 90] (by decide +kernel) (by decide +kernel)
set_option maxRecDepth 20000 in
theorem gX5_soonest_X5_findSoonest : GoodIn wsX5_soonest (wsV RX5 194 RX5 yX5_findSoonest wsX5_findSoonest) := goodIn_app (goodIn_of _ (by decide +kernel)) ggX5_soonest_X5_findSoonest
theorem dX5_soonest_0 : decode cX5_soonest 0 = .ok (.aload_n 0, 1) := by decide +kernel
theorem dX5_soonest_1 : decode cX5_soonest 1 = .ok (.iconst 0, 1) := by decide +kernel
theorem dX5_soonest_2 : decode cX5_soonest 2 = .ok (.putfield 63, 3) := by decide +kernel
theorem dX5_soonest_5 : decode cX5_soonest 5 = .ok (.aload_n 0, 1) := by decide +kernel
theorem dX5_soonest_6 : decode cX5_soonest 6 = .ok (.getfield 29, 3) := by decide +kernel
theorem dX5_soonest_9 : decode cX5_soonest 9 = .ok (.aload_n 0, 1) := by decide +kernel
theorem dX5_soonest_10 : decode cX5_soonest 10 = .ok (.getfield 35, 3) := by decide +kernel
theorem dX5_soonest_13 : decode cX5_soonest 13 = .ok (.invokestatic 190, 3) := by decide +kernel
theorem dX5_soonest_16 : decode cX5_soonest 16 = .ok (.aload_n 0, 1) := by decide +kernel
theorem dX5_soonest_17 : decode cX5_soonest 17 = .ok (.invokevirtual 194, 3) := by decide +kernel
theorem dX5_soonest_20 : decode cX5_soonest 20 = .ok (.iload_n 1, 1) := by decide +kernel
theorem dX5_soonest_21 : decode cX5_soonest 21 = .ok (.ifCond .eq 10, 3) := by decide +kernel
theorem dX5_soonest_24 : decode cX5_soonest 24 = .ok (.aload_n 0, 1) := by decide +kernel
theorem dX5_soonest_25 : decode cX5_soonest 25 = .ok (.getfield 184, 3) := by decide +kernel
theorem dX5_soonest_28 : decode cX5_soonest 28 = .ok (.goto 7, 3) := by decide +kernel
theorem dX5_soonest_31 : decode cX5_soonest 31 = .ok (.aload_n 0, 1) := by decide +kernel
theorem dX5_soonest_32 : decode cX5_soonest 32 = .ok (.getfield 181, 3) := by decide +kernel
theorem dX5_soonest_35 : decode cX5_soonest 35 = .ok (.ireturn, 1) := by decide +kernel
set_option maxRecDepth 20000 in
theorem ggX5_judge_X5_in : GoodIn wsX5_judge wsX5_in := goodIn_r _ [7] (by decide +kernel) (by decide +kernel)
set_option maxRecDepth 20000 in
theorem gX5_judge_X5_in : GoodIn wsX5_judge (va_wsS RX5 69 yX5_in wsX5_in) := goodIn_app (goodIn_of _ (by decide +kernel)) ggX5_judge_X5_in
set_option maxRecDepth 20000 in
theorem ggX5_judge_X5_power : GoodIn wsX5_judge wsX5_power := goodIn_r _ [10] (by decide +kernel) (by decide +kernel)
set_option maxRecDepth 20000 in
theorem gX5_judge_X5_power : GoodIn wsX5_judge (va_wsS RX5 187 yX5_power wsX5_power) := goodIn_app (goodIn_of _ (by decide +kernel)) ggX5_judge_X5_power
set_option maxRecDepth 20000 in
theorem ggX5_judge_X5_noPair : GoodIn wsX5_judge wsX5_noPair := goodIn_r _ [14, 15, 16, 17, 6, 18, 19, 4, 5, 7, 20, 21, 22, 23, 24, 28, 29, 30, 31, 32, 33, 34, 35, 36, 37, 38, 39, 40, 41, 42, 43, 44, 45, 46, 47, 48, 49, 50, 51, 52, 53, 54, 55, 56, 57, 58, 59, 60, 61, 62, 63, 64] (by decide +kernel) (by decide +kernel)
set_option maxRecDepth 20000 in
theorem gX5_judge_X5_noPair : GoodIn wsX5_judge (wsV RX5 137 RX5 yX5_noPair wsX5_noPair) := goodIn_app (goodIn_of _ (by decide +kernel)) ggX5_judge_X5_noPair
set_option maxRecDepth 20000 in
theorem ggX5_judge_X5_has : GoodIn wsX5_judge wsX5_has := goodIn_r _ [27] (by decide +kernel) (by decide +kernel)
set_option maxRecDepth 20000 in
theorem gX5_judge_X5_has : GoodIn wsX5_judge (va_wsS RX5 141 yX5_has wsX5_has) := goodIn_app (goodIn_of _ (by decide +kernel)) ggX5_judge_X5_has
theorem dX5_judge_0 : decode cX5_judge 0 = .ok (.aload_n 0, 1) := by decide +kernel
theorem dX5_judge_1 : decode cX5_judge 1 = .ok (.iconst 0, 1) := by decide +kernel
theorem dX5_judge_2 : decode cX5_judge 2 = .ok (.putfield 63, 3) := by decide +kernel
theorem dX5_judge_5 : decode cX5_judge 5 = .ok (.iload_n 1, 1) := by decide +kernel
theorem dX5_judge_6 : decode cX5_judge 6 = .ok (.i2l, 1) := by decide +kernel
theorem dX5_judge_7 : decode cX5_judge 7 = .ok (.lconst 1, 1) := by decide +kernel
theorem dX5_judge_8 : decode cX5_judge 8 = .ok (.ldc2_w 128, 3) := by decide +kernel
theorem dX5_judge_11 : decode cX5_judge 11 = .ok (.invokestatic 69, 3) := by decide +kernel
theorem dX5_judge_14 : decode cX5_judge 14 = .ok (.ifCond .eq 22, 3) := by decide +kernel
theorem dX5_judge_17 : decode cX5_judge 17 = .ok (.iload_n 2, 1) := by decide +kernel
theorem dX5_judge_18 : decode cX5_judge 18 = .ok (.i2l, 1) := by decide +kernel
theorem dX5_judge_19 : decode cX5_judge 19 = .ok (.lconst 0, 1) := by decide +kernel
theorem dX5_judge_20 : decode cX5_judge 20 = .ok (.sipush 1000, 3) := by decide +kernel
theorem dX5_judge_23 : decode cX5_judge 23 = .ok (.iload_n 1, 1) := by decide +kernel
theorem dX5_judge_24 : decode cX5_judge 24 = .ok (.invokestatic 187, 3) := by decide +kernel
theorem dX5_judge_27 : decode cX5_judge 27 = .ok (.iconst 1, 1) := by decide +kernel
theorem dX5_judge_28 : decode cX5_judge 28 = .ok (.isub, 1) := by decide +kernel
theorem dX5_judge_29 : decode cX5_judge 29 = .ok (.i2l, 1) := by decide +kernel
theorem dX5_judge_30 : decode cX5_judge 30 = .ok (.invokestatic 69, 3) := by decide +kernel
theorem dX5_judge_33 : decode cX5_judge 33 = .ok (.ifCond .ne 6, 3) := by decide +kernel
theorem dX5_judge_36 : decode cX5_judge 36 = .ok (.bipush (-2), 2) := by decide +kernel
theorem dX5_judge_38 : decode cX5_judge 38 = .ok (.ireturn, 1) := by decide +kernel
theorem dX5_judge_39 : decode cX5_judge 39 = .ok (.aload_n 0, 1) := by decide +kernel
theorem dX5_judge_40 : decode cX5_judge 40 = .ok (.getfield 29, 3) := by decide +kernel
theorem dX5_judge_43 : decode cX5_judge 43 = .ok (.bipush 20, 2) := by decide +kernel
theorem dX5_judge_45 : decode cX5_judge 45 = .ok (.iaload, 1) := by decide +kernel
theorem dX5_judge_46 : decode cX5_judge 46 = .ok (.istore_n 3, 1) := by decide +kernel
theorem dX5_judge_47 : decode cX5_judge 47 = .ok (.iconst 0, 1) := by decide +kernel
theorem dX5_judge_48 : decode cX5_judge 48 = .ok (.istore 4, 2) := by decide +kernel
theorem dX5_judge_50 : decode cX5_judge 50 = .ok (.iload 4, 2) := by decide +kernel
theorem dX5_judge_52 : decode cX5_judge 52 = .ok (.iload_n 1, 1) := by decide +kernel
theorem dX5_judge_53 : decode cX5_judge 53 = .ok (.if_icmp .ge 77, 3) := by decide +kernel
theorem dX5_judge_56 : decode cX5_judge 56 = .ok (.iload_n 2, 1) := by decide +kernel
theorem dX5_judge_57 : decode cX5_judge 57 = .ok (.sipush 1000, 3) := by decide +kernel
theorem dX5_judge_60 : decode cX5_judge 60 = .ok (.iload_n 1, 1) := by decide +kernel
theorem dX5_judge_61 : decode cX5_judge 61 = .ok (.iconst 1, 1) := by decide +kernel
theorem dX5_judge_62 : decode cX5_judge 62 = .ok (.isub, 1) := by decide +kernel
theorem dX5_judge_63 : decode cX5_judge 63 = .ok (.iload 4, 2) := by decide +kernel
theorem dX5_judge_65 : decode cX5_judge 65 = .ok (.isub, 1) := by decide +kernel
theorem dX5_judge_66 : decode cX5_judge 66 = .ok (.invokestatic 187, 3) := by decide +kernel
theorem dX5_judge_69 : decode cX5_judge 69 = .ok (.idiv, 1) := by decide +kernel
theorem dX5_judge_70 : decode cX5_judge 70 = .ok (.sipush 1000, 3) := by decide +kernel
theorem dX5_judge_73 : decode cX5_judge 73 = .ok (.irem, 1) := by decide +kernel
theorem dX5_judge_74 : decode cX5_judge 74 = .ok (.istore 5, 2) := by decide +kernel
theorem dX5_judge_76 : decode cX5_judge 76 = .ok (.iload 5, 2) := by decide +kernel
theorem dX5_judge_78 : decode cX5_judge 78 = .ok (.bipush 100, 2) := by decide +kernel
theorem dX5_judge_80 : decode cX5_judge 80 = .ok (.idiv, 1) := by decide +kernel
theorem dX5_judge_81 : decode cX5_judge 81 = .ok (.istore 6, 2) := by decide +kernel
theorem dX5_judge_83 : decode cX5_judge 83 = .ok (.aload_n 0, 1) := by decide +kernel
theorem dX5_judge_84 : decode cX5_judge 84 = .ok (.iload 6, 2) := by decide +kernel
theorem dX5_judge_86 : decode cX5_judge 86 = .ok (.iload 5, 2) := by decide +kernel
theorem dX5_judge_88 : decode cX5_judge 88 = .ok (.bipush 10, 2) := by decide +kernel
theorem dX5_judge_90 : decode cX5_judge 90 = .ok (.idiv, 1) := by decide +kernel
theorem dX5_judge_91 : decode cX5_judge 91 = .ok (.bipush 10, 2) := by decide +kernel
theorem dX5_judge_93 : decode cX5_judge 93 = .ok (.irem, 1) := by decide +kernel
theorem dX5_judge_94 : decode cX5_judge 94 = .ok (.iload 5, 2) := by decide +kernel
theorem dX5_judge_96 : decode cX5_judge 96 = .ok (.bipush 10, 2) := by decide +kernel
theorem dX5_judge_98 : decode cX5_judge 98 = .ok (.irem, 1) := by decide +kernel
theorem dX5_judge_99 : decode cX5_judge 99 = .ok (.invokevirtual 137, 3) := by decide +kernel
theorem dX5_judge_102 : decode cX5_judge 102 = .ok (.ifCond .ne 12, 3) := by decide +kernel
theorem dX5_judge_105 : decode cX5_judge 105 = .ok (.iload_n 3, 1) := by decide +kernel
theorem dX5_judge_106 : decode cX5_judge 106 = .ok (.iload 6, 2) := by decide +kernel
theorem dX5_judge_108 : decode cX5_judge 108 = .ok (.invokestatic 141, 3) := by decide +kernel
theorem dX5_judge_111 : decode cX5_judge 111 = .ok (.ifCond .eq 6, 3) := by decide +kernel
theorem dX5_judge_114 : decode cX5_judge 114 = .ok (.iload 4, 2) := by decide +kernel
theorem dX5_judge_116 : decode cX5_judge 116 = .ok (.ireturn, 1) := by decide +kernel
theorem dX5_judge_117 : decode cX5_judge 117 = .ok (.iload_n 3, 1) := by decide +kernel
theorem dX5_judge_118 : decode cX5_judge 118 = .ok (.iconst 1, 1) := by decide +kernel
theorem dX5_judge_119 : decode cX5_judge 119 = .ok (.iload 6, 2) := by decide +kernel
theorem dX5_judge_121 : decode cX5_judge 121 = .ok (.ishl, 1) := by decide +kernel
theorem dX5_judge_122 : decode cX5_judge 122 = .ok (.ior, 1) := by decide +kernel
theorem dX5_judge_123 : decode cX5_judge 123 = .ok (.istore_n 3, 1) := by decide +kernel
theorem dX5_judge_124 : decode cX5_judge 124 = .ok (.iinc 4 1, 3) := by decide +kernel
theorem dX5_judge_127 : decode cX5_judge 127 = .ok (.goto (-77), 3) := by decide +kernel
theorem dX5_judge_130 : decode cX5_judge 130 = .ok (.bipush (-9), 2) := by decide +kernel
theorem dX5_judge_132 : decode cX5_judge 132 = .ok (.ireturn, 1) := by decide +kernel
theorem dX5_ways_0 : decode cX5_ways 0 = .ok (.iconst 1, 1) := by decide +kernel
theorem dX5_ways_1 : decode cX5_ways 1 = .ok (.istore_n 1, 1) := by decide +kernel
theorem dX5_ways_2 : decode cX5_ways 2 = .ok (.iconst 2, 1) := by decide +kernel
theorem dX5_ways_3 : decode cX5_ways 3 = .ok (.istore_n 2, 1) := by decide +kernel
theorem dX5_ways_4 : decode cX5_ways 4 = .ok (.iload_n 2, 1) := by decide +kernel
theorem dX5_ways_5 : decode cX5_ways 5 = .ok (.iload_n 0, 1) := by decide +kernel
theorem dX5_ways_6 : decode cX5_ways 6 = .ok (.if_icmp .gt 13, 3) := by decide +kernel
theorem dX5_ways_9 : decode cX5_ways 9 = .ok (.iload_n 1, 1) := by decide +kernel
theorem dX5_ways_10 : decode cX5_ways 10 = .ok (.iload_n 2, 1) := by decide +kernel
theorem dX5_ways_11 : decode cX5_ways 11 = .ok (.imul, 1) := by decide +kernel
theorem dX5_ways_12 : decode cX5_ways 12 = .ok (.istore_n 1, 1) := by decide +kernel
theorem dX5_ways_13 : decode cX5_ways 13 = .ok (.iinc 2 1, 3) := by decide +kernel
theorem dX5_ways_16 : decode cX5_ways 16 = .ok (.goto (-12), 3) := by decide +kernel
theorem dX5_ways_19 : decode cX5_ways 19 = .ok (.iload_n 1, 1) := by decide +kernel
theorem dX5_ways_20 : decode cX5_ways 20 = .ok (.ireturn, 1) := by decide +kernel
theorem dX5_divisor_0 : decode cX5_divisor 0 = .ok (.iload_n 0, 1) := by decide +kernel
theorem dX5_divisor_1 : decode cX5_divisor 1 = .ok (.ifCond .ge 8, 3) := by decide +kernel
theorem dX5_divisor_4 : decode cX5_divisor 4 = .ok (.iload_n 0, 1) := by decide +kernel
theorem dX5_divisor_5 : decode cX5_divisor 5 = .ok (.ineg, 1) := by decide +kernel
theorem dX5_divisor_6 : decode cX5_divisor 6 = .ok (.goto 4, 3) := by decide +kernel
theorem dX5_divisor_9 : decode cX5_divisor 9 = .ok (.iload_n 0, 1) := by decide +kernel
theorem dX5_divisor_10 : decode cX5_divisor 10 = .ok (.istore_n 2, 1) := by decide +kernel
theorem dX5_divisor_11 : decode cX5_divisor 11 = .ok (.iload_n 1, 1) := by decide +kernel
theorem dX5_divisor_12 : decode cX5_divisor 12 = .ok (.istore_n 3, 1) := by decide +kernel
theorem dX5_divisor_13 : decode cX5_divisor 13 = .ok (.iload_n 3, 1) := by decide +kernel
theorem dX5_divisor_14 : decode cX5_divisor 14 = .ok (.ifCond .eq 16, 3) := by decide +kernel
theorem dX5_divisor_17 : decode cX5_divisor 17 = .ok (.iload_n 2, 1) := by decide +kernel
theorem dX5_divisor_18 : decode cX5_divisor 18 = .ok (.iload_n 3, 1) := by decide +kernel
theorem dX5_divisor_19 : decode cX5_divisor 19 = .ok (.irem, 1) := by decide +kernel
theorem dX5_divisor_20 : decode cX5_divisor 20 = .ok (.istore 4, 2) := by decide +kernel
theorem dX5_divisor_22 : decode cX5_divisor 22 = .ok (.iload_n 3, 1) := by decide +kernel
