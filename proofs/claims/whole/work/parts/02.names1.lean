theorem dX0_init_0 : decode cX0_init 0 = .ok (.aload_n 0, 1) := by decide +kernel
theorem dX0_init_1 : decode cX0_init 1 = .ok (.invokespecial 3, 3) := by decide +kernel
theorem dX0_init_4 : decode cX0_init 4 = .ok (.aload_n 0, 1) := by decide +kernel
theorem dX0_init_5 : decode cX0_init 5 = .ok (.bipush 56, 2) := by decide +kernel
theorem dX0_init_7 : decode cX0_init 7 = .ok (.newarray .int, 2) := by decide +kernel
theorem dX0_init_9 : decode cX0_init 9 = .ok (.putfield 11, 3) := by decide +kernel
theorem dX0_init_12 : decode cX0_init 12 = .ok (.return_, 1) := by decide +kernel
theorem dX0_forgetAll_0 : decode cX0_forgetAll 0 = .ok (.aload_n 0, 1) := by decide +kernel
theorem dX0_forgetAll_1 : decode cX0_forgetAll 1 = .ok (.iconst 0, 1) := by decide +kernel
theorem dX0_forgetAll_2 : decode cX0_forgetAll 2 = .ok (.putfield 17, 3) := by decide +kernel
theorem dX0_forgetAll_5 : decode cX0_forgetAll 5 = .ok (.return_, 1) := by decide +kernel
set_option maxRecDepth 20000 in
theorem ggX0_remember_X2_storeIn : GoodIn wsX0_remember wsX2_storeIn := goodIn_r _ [8, 9, 10, 11, 12, 16, 17, 18, 19] (by decide +kernel) (by decide +kernel)
set_option maxRecDepth 20000 in
theorem gX0_remember_X2_storeIn : GoodIn wsX0_remember (wsV RX0 24 RX2 yX2_storeIn wsX2_storeIn) := goodIn_app (goodIn_of _ (by decide +kernel)) ggX0_remember_X2_storeIn
theorem dX0_remember_0 : decode cX0_remember 0 = .ok (.aload_n 0, 1) := by decide +kernel
theorem dX0_remember_1 : decode cX0_remember 1 = .ok (.getfield 17, 3) := by decide +kernel
theorem dX0_remember_4 : decode cX0_remember 4 = .ok (.bipush 14, 2) := by decide +kernel
theorem dX0_remember_6 : decode cX0_remember 6 = .ok (.if_icmp .lt 26, 3) := by decide +kernel
theorem dX0_remember_9 : decode cX0_remember 9 = .ok (.aload_n 0, 1) := by decide +kernel
theorem dX0_remember_10 : decode cX0_remember 10 = .ok (.aload_n 0, 1) := by decide +kernel
theorem dX0_remember_11 : decode cX0_remember 11 = .ok (.getfield 21, 3) := by decide +kernel
theorem dX0_remember_14 : decode cX0_remember 14 = .ok (.iconst 1, 1) := by decide +kernel
theorem dX0_remember_15 : decode cX0_remember 15 = .ok (.iadd, 1) := by decide +kernel
theorem dX0_remember_16 : decode cX0_remember 16 = .ok (.bipush 14, 2) := by decide +kernel
theorem dX0_remember_18 : decode cX0_remember 18 = .ok (.irem, 1) := by decide +kernel
theorem dX0_remember_19 : decode cX0_remember 19 = .ok (.putfield 21, 3) := by decide +kernel
theorem dX0_remember_22 : decode cX0_remember 22 = .ok (.aload_n 0, 1) := by decide +kernel
theorem dX0_remember_23 : decode cX0_remember 23 = .ok (.dup, 1) := by decide +kernel
theorem dX0_remember_24 : decode cX0_remember 24 = .ok (.getfield 17, 3) := by decide +kernel
theorem dX0_remember_27 : decode cX0_remember 27 = .ok (.iconst 1, 1) := by decide +kernel
theorem dX0_remember_28 : decode cX0_remember 28 = .ok (.isub, 1) := by decide +kernel
theorem dX0_remember_29 : decode cX0_remember 29 = .ok (.putfield 17, 3) := by decide +kernel
theorem dX0_remember_32 : decode cX0_remember 32 = .ok (.aload_n 1, 1) := by decide +kernel
theorem dX0_remember_33 : decode cX0_remember 33 = .ok (.aload_n 0, 1) := by decide +kernel
theorem dX0_remember_34 : decode cX0_remember 34 = .ok (.getfield 11, 3) := by decide +kernel
theorem dX0_remember_37 : decode cX0_remember 37 = .ok (.aload_n 0, 1) := by decide +kernel
theorem dX0_remember_38 : decode cX0_remember 38 = .ok (.getfield 21, 3) := by decide +kernel
theorem dX0_remember_41 : decode cX0_remember 41 = .ok (.aload_n 0, 1) := by decide +kernel
theorem dX0_remember_42 : decode cX0_remember 42 = .ok (.getfield 17, 3) := by decide +kernel
theorem dX0_remember_45 : decode cX0_remember 45 = .ok (.iadd, 1) := by decide +kernel
theorem dX0_remember_46 : decode cX0_remember 46 = .ok (.bipush 14, 2) := by decide +kernel
theorem dX0_remember_48 : decode cX0_remember 48 = .ok (.irem, 1) := by decide +kernel
theorem dX0_remember_49 : decode cX0_remember 49 = .ok (.invokevirtual 24, 3) := by decide +kernel
theorem dX0_remember_52 : decode cX0_remember 52 = .ok (.aload_n 0, 1) := by decide +kernel
theorem dX0_remember_53 : decode cX0_remember 53 = .ok (.dup, 1) := by decide +kernel
theorem dX0_remember_54 : decode cX0_remember 54 = .ok (.getfield 17, 3) := by decide +kernel
theorem dX0_remember_57 : decode cX0_remember 57 = .ok (.iconst 1, 1) := by decide +kernel
theorem dX0_remember_58 : decode cX0_remember 58 = .ok (.iadd, 1) := by decide +kernel
theorem dX0_remember_59 : decode cX0_remember 59 = .ok (.putfield 17, 3) := by decide +kernel
theorem dX0_remember_62 : decode cX0_remember 62 = .ok (.return_, 1) := by decide +kernel
set_option maxRecDepth 20000 in
theorem ggX0_takeBack_X2_fetchFrom : GoodIn wsX0_takeBack wsX2_fetchFrom := goodIn_r _ [8, 9, 10, 11, 12, 16, 17, 18, 19] (by decide +kernel) (by decide +kernel)
set_option maxRecDepth 20000 in
theorem gX0_takeBack_X2_fetchFrom : GoodIn wsX0_takeBack (wsV RX0 28 RX2 yX2_fetchFrom wsX2_fetchFrom) := goodIn_app (goodIn_of _ (by decide +kernel)) ggX0_takeBack_X2_fetchFrom
theorem dX0_takeBack_0 : decode cX0_takeBack 0 = .ok (.aload_n 0, 1) := by decide +kernel
theorem dX0_takeBack_1 : decode cX0_takeBack 1 = .ok (.dup, 1) := by decide +kernel
theorem dX0_takeBack_2 : decode cX0_takeBack 2 = .ok (.getfield 17, 3) := by decide +kernel
theorem dX0_takeBack_5 : decode cX0_takeBack 5 = .ok (.iconst 1, 1) := by decide +kernel
theorem dX0_takeBack_6 : decode cX0_takeBack 6 = .ok (.isub, 1) := by decide +kernel
theorem dX0_takeBack_7 : decode cX0_takeBack 7 = .ok (.putfield 17, 3) := by decide +kernel
theorem dX0_takeBack_10 : decode cX0_takeBack 10 = .ok (.aload_n 1, 1) := by decide +kernel
theorem dX0_takeBack_11 : decode cX0_takeBack 11 = .ok (.aload_n 0, 1) := by decide +kernel
theorem dX0_takeBack_12 : decode cX0_takeBack 12 = .ok (.getfield 11, 3) := by decide +kernel
theorem dX0_takeBack_15 : decode cX0_takeBack 15 = .ok (.aload_n 0, 1) := by decide +kernel
theorem dX0_takeBack_16 : decode cX0_takeBack 16 = .ok (.getfield 21, 3) := by decide +kernel
theorem dX0_takeBack_19 : decode cX0_takeBack 19 = .ok (.aload_n 0, 1) := by decide +kernel
theorem dX0_takeBack_20 : decode cX0_takeBack 20 = .ok (.getfield 17, 3) := by decide +kernel
theorem dX0_takeBack_23 : decode cX0_takeBack 23 = .ok (.iadd, 1) := by decide +kernel
theorem dX0_takeBack_24 : decode cX0_takeBack 24 = .ok (.bipush 14, 2) := by decide +kernel
theorem dX0_takeBack_26 : decode cX0_takeBack 26 = .ok (.irem, 1) := by decide +kernel
theorem dX0_takeBack_27 : decode cX0_takeBack 27 = .ok (.invokevirtual 28, 3) := by decide +kernel
theorem dX0_takeBack_30 : decode cX0_takeBack 30 = .ok (.return_, 1) := by decide +kernel
theorem dX1_init_0 : decode cX1_init 0 = .ok (.aload_n 0, 1) := by decide +kernel
theorem dX1_init_1 : decode cX1_init 1 = .ok (.invokespecial 1, 3) := by decide +kernel
theorem dX1_init_4 : decode cX1_init 4 = .ok (.aload_n 0, 1) := by decide +kernel
theorem dX1_init_5 : decode cX1_init 5 = .ok (.iconst 1, 1) := by decide +kernel
theorem dX1_init_6 : decode cX1_init 6 = .ok (.putfield 7, 3) := by decide +kernel
theorem dX1_init_9 : decode cX1_init 9 = .ok (.return_, 1) := by decide +kernel
theorem dX1_layOut_0 : decode cX1_layOut 0 = .ok (.aload_n 0, 1) := by decide +kernel
theorem dX1_layOut_1 : decode cX1_layOut 1 = .ok (.iload_n 1, 1) := by decide +kernel
theorem dX1_layOut_2 : decode cX1_layOut 2 = .ok (.putfield 7, 3) := by decide +kernel
theorem dX1_layOut_5 : decode cX1_layOut 5 = .ok (.aload_n 0, 1) := by decide +kernel
theorem dX1_layOut_6 : decode cX1_layOut 6 = .ok (.iconst 0, 1) := by decide +kernel
theorem dX1_layOut_7 : decode cX1_layOut 7 = .ok (.putfield 13, 3) := by decide +kernel
theorem dX1_layOut_10 : decode cX1_layOut 10 = .ok (.aload_n 0, 1) := by decide +kernel
theorem dX1_layOut_11 : decode cX1_layOut 11 = .ok (.iconst 0, 1) := by decide +kernel
theorem dX1_layOut_12 : decode cX1_layOut 12 = .ok (.putfield 16, 3) := by decide +kernel
theorem dX1_layOut_15 : decode cX1_layOut 15 = .ok (.aload_n 0, 1) := by decide +kernel
theorem dX1_layOut_16 : decode cX1_layOut 16 = .ok (.iconst 0, 1) := by decide +kernel
theorem dX1_layOut_17 : decode cX1_layOut 17 = .ok (.putfield 19, 3) := by decide +kernel
theorem dX1_layOut_20 : decode cX1_layOut 20 = .ok (.aload_n 0, 1) := by decide +kernel
theorem dX1_layOut_21 : decode cX1_layOut 21 = .ok (.iconst 0, 1) := by decide +kernel
theorem dX1_layOut_22 : decode cX1_layOut 22 = .ok (.putfield 22, 3) := by decide +kernel
theorem dX1_layOut_25 : decode cX1_layOut 25 = .ok (.return_, 1) := by decide +kernel
theorem dX1_addLegger_0 : decode cX1_addLegger 0 = .ok (.aload_n 0, 1) := by decide +kernel
theorem dX1_addLegger_1 : decode cX1_addLegger 1 = .ok (.dup, 1) := by decide +kernel
theorem dX1_addLegger_2 : decode cX1_addLegger 2 = .ok (.getfield 19, 3) := by decide +kernel
theorem dX1_addLegger_5 : decode cX1_addLegger 5 = .ok (.iload_n 1, 1) := by decide +kernel
theorem dX1_addLegger_6 : decode cX1_addLegger 6 = .ok (.iconst 2, 1) := by decide +kernel
theorem dX1_addLegger_7 : decode cX1_addLegger 7 = .ok (.aload_n 0, 1) := by decide +kernel
theorem dX1_addLegger_8 : decode cX1_addLegger 8 = .ok (.getfield 13, 3) := by decide +kernel
theorem dX1_addLegger_11 : decode cX1_addLegger 11 = .ok (.imul, 1) := by decide +kernel
theorem dX1_addLegger_12 : decode cX1_addLegger 12 = .ok (.ishl, 1) := by decide +kernel
theorem dX1_addLegger_13 : decode cX1_addLegger 13 = .ok (.ior, 1) := by decide +kernel
theorem dX1_addLegger_14 : decode cX1_addLegger 14 = .ok (.putfield 19, 3) := by decide +kernel
theorem dX1_addLegger_17 : decode cX1_addLegger 17 = .ok (.aload_n 0, 1) := by decide +kernel
theorem dX1_addLegger_18 : decode cX1_addLegger 18 = .ok (.dup, 1) := by decide +kernel
theorem dX1_addLegger_19 : decode cX1_addLegger 19 = .ok (.getfield 13, 3) := by decide +kernel
theorem dX1_addLegger_22 : decode cX1_addLegger 22 = .ok (.iconst 1, 1) := by decide +kernel
theorem dX1_addLegger_23 : decode cX1_addLegger 23 = .ok (.iadd, 1) := by decide +kernel
theorem dX1_addLegger_24 : decode cX1_addLegger 24 = .ok (.putfield 13, 3) := by decide +kernel
theorem dX1_addLegger_27 : decode cX1_addLegger 27 = .ok (.return_, 1) := by decide +kernel
theorem dX1_addBoat_0 : decode cX1_addBoat 0 = .ok (.aload_n 0, 1) := by decide +kernel
theorem dX1_addBoat_1 : decode cX1_addBoat 1 = .ok (.dup, 1) := by decide +kernel
theorem dX1_addBoat_2 : decode cX1_addBoat 2 = .ok (.getfield 22, 3) := by decide +kernel
theorem dX1_addBoat_5 : decode cX1_addBoat 5 = .ok (.iload_n 1, 1) := by decide +kernel
theorem dX1_addBoat_6 : decode cX1_addBoat 6 = .ok (.iconst 4, 1) := by decide +kernel
theorem dX1_addBoat_7 : decode cX1_addBoat 7 = .ok (.aload_n 0, 1) := by decide +kernel
theorem dX1_addBoat_8 : decode cX1_addBoat 8 = .ok (.getfield 16, 3) := by decide +kernel
theorem dX1_addBoat_11 : decode cX1_addBoat 11 = .ok (.imul, 1) := by decide +kernel
theorem dX1_addBoat_12 : decode cX1_addBoat 12 = .ok (.ishl, 1) := by decide +kernel
theorem dX1_addBoat_13 : decode cX1_addBoat 13 = .ok (.ior, 1) := by decide +kernel
theorem dX1_addBoat_14 : decode cX1_addBoat 14 = .ok (.putfield 22, 3) := by decide +kernel
theorem dX1_addBoat_17 : decode cX1_addBoat 17 = .ok (.aload_n 0, 1) := by decide +kernel
theorem dX1_addBoat_18 : decode cX1_addBoat 18 = .ok (.dup, 1) := by decide +kernel
theorem dX1_addBoat_19 : decode cX1_addBoat 19 = .ok (.getfield 16, 3) := by decide +kernel
theorem dX1_addBoat_22 : decode cX1_addBoat 22 = .ok (.iconst 1, 1) := by decide +kernel
theorem dX1_addBoat_23 : decode cX1_addBoat 23 = .ok (.iadd, 1) := by decide +kernel
theorem dX1_addBoat_24 : decode cX1_addBoat 24 = .ok (.putfield 16, 3) := by decide +kernel
theorem dX1_addBoat_27 : decode cX1_addBoat 27 = .ok (.return_, 1) := by decide +kernel
theorem dX1_hasLegger_0 : decode cX1_hasLegger 0 = .ok (.iload_n 1, 1) := by decide +kernel
theorem dX1_hasLegger_1 : decode cX1_hasLegger 1 = .ok (.ifCond .lt 15, 3) := by decide +kernel
theorem dX1_hasLegger_4 : decode cX1_hasLegger 4 = .ok (.iload_n 1, 1) := by decide +kernel
theorem dX1_hasLegger_5 : decode cX1_hasLegger 5 = .ok (.aload_n 0, 1) := by decide +kernel
theorem dX1_hasLegger_6 : decode cX1_hasLegger 6 = .ok (.getfield 13, 3) := by decide +kernel
theorem dX1_hasLegger_9 : decode cX1_hasLegger 9 = .ok (.if_icmp .ge 7, 3) := by decide +kernel
theorem dX1_hasLegger_12 : decode cX1_hasLegger 12 = .ok (.iconst 1, 1) := by decide +kernel
theorem dX1_hasLegger_13 : decode cX1_hasLegger 13 = .ok (.goto 4, 3) := by decide +kernel
theorem dX1_hasLegger_16 : decode cX1_hasLegger 16 = .ok (.iconst 0, 1) := by decide +kernel
theorem dX1_hasLegger_17 : decode cX1_hasLegger 17 = .ok (.ireturn, 1) := by decide +kernel
theorem dX1_hasBoat_0 : decode cX1_hasBoat 0 = .ok (.iload_n 1, 1) := by decide +kernel
theorem dX1_hasBoat_1 : decode cX1_hasBoat 1 = .ok (.ifCond .lt 15, 3) := by decide +kernel
theorem dX1_hasBoat_4 : decode cX1_hasBoat 4 = .ok (.iload_n 1, 1) := by decide +kernel
theorem dX1_hasBoat_5 : decode cX1_hasBoat 5 = .ok (.aload_n 0, 1) := by decide +kernel
theorem dX1_hasBoat_6 : decode cX1_hasBoat 6 = .ok (.getfield 16, 3) := by decide +kernel
theorem dX1_hasBoat_9 : decode cX1_hasBoat 9 = .ok (.if_icmp .ge 7, 3) := by decide +kernel
theorem dX1_hasBoat_12 : decode cX1_hasBoat 12 = .ok (.iconst 1, 1) := by decide +kernel
theorem dX1_hasBoat_13 : decode cX1_hasBoat 13 = .ok (.goto 4, 3) := by decide +kernel
theorem dX1_hasBoat_16 : decode cX1_hasBoat 16 = .ok (.iconst 0, 1) := by decide +kernel
theorem dX1_hasBoat_17 : decode cX1_hasBoat 17 = .ok (.ireturn, 1) := by decide +kernel
theorem dX1_allLeggers_0 : decode cX1_allLeggers 0 = .ok (.iconst 1, 1) := by decide +kernel
theorem dX1_allLeggers_1 : decode cX1_allLeggers 1 = .ok (.aload_n 0, 1) := by decide +kernel
theorem dX1_allLeggers_2 : decode cX1_allLeggers 2 = .ok (.getfield 13, 3) := by decide +kernel
theorem dX1_allLeggers_5 : decode cX1_allLeggers 5 = .ok (.ishl, 1) := by decide +kernel
theorem dX1_allLeggers_6 : decode cX1_allLeggers 6 = .ok (.iconst 1, 1) := by decide +kernel
theorem dX1_allLeggers_7 : decode cX1_allLeggers 7 = .ok (.isub, 1) := by decide +kernel
theorem dX1_allLeggers_8 : decode cX1_allLeggers 8 = .ok (.ireturn, 1) := by decide +kernel
theorem dX1_allBoats_0 : decode cX1_allBoats 0 = .ok (.iconst 1, 1) := by decide +kernel
theorem dX1_allBoats_1 : decode cX1_allBoats 1 = .ok (.aload_n 0, 1) := by decide +kernel
theorem dX1_allBoats_2 : decode cX1_allBoats 2 = .ok (.getfield 16, 3) := by decide +kernel
theorem dX1_allBoats_5 : decode cX1_allBoats 5 = .ok (.ishl, 1) := by decide +kernel
theorem dX1_allBoats_6 : decode cX1_allBoats 6 = .ok (.iconst 1, 1) := by decide +kernel
theorem dX1_allBoats_7 : decode cX1_allBoats 7 = .ok (.isub, 1) := by decide +kernel
theorem dX1_allBoats_8 : decode cX1_allBoats 8 = .ok (.ireturn, 1) := by decide +kernel
theorem dX1_kindOf_0 : decode cX1_kindOf 0 = .ok (.aload_n 0, 1) := by decide +kernel
theorem dX1_kindOf_1 : decode cX1_kindOf 1 = .ok (.getfield 19, 3) := by decide +kernel
theorem dX1_kindOf_4 : decode cX1_kindOf 4 = .ok (.iconst 2, 1) := by decide +kernel
theorem dX1_kindOf_5 : decode cX1_kindOf 5 = .ok (.iload_n 1, 1) := by decide +kernel
theorem dX1_kindOf_6 : decode cX1_kindOf 6 = .ok (.imul, 1) := by decide +kernel
theorem dX1_kindOf_7 : decode cX1_kindOf 7 = .ok (.iushr, 1) := by decide +kernel
theorem dX1_kindOf_8 : decode cX1_kindOf 8 = .ok (.iconst 3, 1) := by decide +kernel
theorem dX1_kindOf_9 : decode cX1_kindOf 9 = .ok (.iand, 1) := by decide +kernel
theorem dX1_kindOf_10 : decode cX1_kindOf 10 = .ok (.ireturn, 1) := by decide +kernel
theorem dX1_loadOf_0 : decode cX1_loadOf 0 = .ok (.aload_n 0, 1) := by decide +kernel
theorem dX1_loadOf_1 : decode cX1_loadOf 1 = .ok (.getfield 22, 3) := by decide +kernel
theorem dX1_loadOf_4 : decode cX1_loadOf 4 = .ok (.iconst 4, 1) := by decide +kernel
theorem dX1_loadOf_5 : decode cX1_loadOf 5 = .ok (.iload_n 1, 1) := by decide +kernel
theorem dX1_loadOf_6 : decode cX1_loadOf 6 = .ok (.imul, 1) := by decide +kernel
theorem dX1_loadOf_7 : decode cX1_loadOf 7 = .ok (.iushr, 1) := by decide +kernel
theorem dX1_loadOf_8 : decode cX1_loadOf 8 = .ok (.bipush 15, 2) := by decide +kernel
theorem dX1_loadOf_10 : decode cX1_loadOf 10 = .ok (.iand, 1) := by decide +kernel
theorem dX1_loadOf_11 : decode cX1_loadOf 11 = .ok (.ireturn, 1) := by decide +kernel
theorem dX2_init_0 : decode cX2_init 0 = .ok (.aload_n 0, 1) := by decide +kernel
theorem dX2_init_1 : decode cX2_init 1 = .ok (.invokespecial 3, 3) := by decide +kernel
theorem dX2_init_4 : decode cX2_init 4 = .ok (.return_, 1) := by decide +kernel
theorem dX2_clear_0 : decode cX2_clear 0 = .ok (.aload_n 0, 1) := by decide +kernel
theorem dX2_clear_1 : decode cX2_clear 1 = .ok (.iconst 0, 1) := by decide +kernel
theorem dX2_clear_2 : decode cX2_clear 2 = .ok (.putfield 9, 3) := by decide +kernel
theorem dX2_clear_5 : decode cX2_clear 5 = .ok (.aload_n 0, 1) := by decide +kernel
theorem dX2_clear_6 : decode cX2_clear 6 = .ok (.iconst 0, 1) := by decide +kernel
theorem dX2_clear_7 : decode cX2_clear 7 = .ok (.putfield 15, 3) := by decide +kernel
theorem dX2_clear_10 : decode cX2_clear 10 = .ok (.aload_n 0, 1) := by decide +kernel
theorem dX2_clear_11 : decode cX2_clear 11 = .ok (.iconst 0, 1) := by decide +kernel
theorem dX2_clear_12 : decode cX2_clear 12 = .ok (.putfield 18, 3) := by decide +kernel
theorem dX2_clear_15 : decode cX2_clear 15 = .ok (.aload_n 0, 1) := by decide +kernel
theorem dX2_clear_16 : decode cX2_clear 16 = .ok (.iconst 0, 1) := by decide +kernel
theorem dX2_clear_17 : decode cX2_clear 17 = .ok (.putfield 21, 3) := by decide +kernel
theorem dX2_clear_20 : decode cX2_clear 20 = .ok (.return_, 1) := by decide +kernel
set_option maxRecDepth 20000 in
theorem ggX2_groundAt_X4_groundIn : GoodIn wsX2_groundAt wsX4_groundIn := goodIn_r _ [4] (by decide +kernel) (by decide +kernel)
set_option maxRecDepth 20000 in
theorem gX2_groundAt_X4_groundIn_n24 : GoodIn wsX2_groundAt (wsX4_groundIn) := ggX2_groundAt_X4_groundIn
theorem dX2_groundAt_0 : decode cX2_groundAt 0 = .ok (.aload_n 0, 1) := by decide +kernel
theorem dX2_groundAt_1 : decode cX2_groundAt 1 = .ok (.getfield 9, 3) := by decide +kernel
theorem dX2_groundAt_4 : decode cX2_groundAt 4 = .ok (.bipush 8, 2) := by decide +kernel
theorem dX2_groundAt_6 : decode cX2_groundAt 6 = .ok (.iload_n 1, 1) := by decide +kernel
theorem dX2_groundAt_7 : decode cX2_groundAt 7 = .ok (.imul, 1) := by decide +kernel
theorem dX2_groundAt_8 : decode cX2_groundAt 8 = .ok (.iushr, 1) := by decide +kernel
theorem dX2_groundAt_9 : decode cX2_groundAt 9 = .ok (.iload_n 2, 1) := by decide +kernel
theorem dX2_groundAt_10 : decode cX2_groundAt 10 = .ok (.invokestatic 24, 3) := by decide +kernel
theorem dX2_groundAt_13 : decode cX2_groundAt 13 = .ok (.ireturn, 1) := by decide +kernel
theorem dX2_cover_0 : decode cX2_cover 0 = .ok (.bipush 8, 2) := by decide +kernel
theorem dX2_cover_2 : decode cX2_cover 2 = .ok (.iload_n 1, 1) := by decide +kernel
theorem dX2_cover_3 : decode cX2_cover 3 = .ok (.imul, 1) := by decide +kernel
theorem dX2_cover_4 : decode cX2_cover 4 = .ok (.iconst 2, 1) := by decide +kernel
theorem dX2_cover_5 : decode cX2_cover 5 = .ok (.iload_n 2, 1) := by decide +kernel
theorem dX2_cover_6 : decode cX2_cover 6 = .ok (.imul, 1) := by decide +kernel
theorem dX2_cover_7 : decode cX2_cover 7 = .ok (.iadd, 1) := by decide +kernel
theorem dX2_cover_8 : decode cX2_cover 8 = .ok (.istore 4, 2) := by decide +kernel
theorem dX2_cover_10 : decode cX2_cover 10 = .ok (.aload_n 0, 1) := by decide +kernel
theorem dX2_cover_11 : decode cX2_cover 11 = .ok (.aload_n 0, 1) := by decide +kernel
theorem dX2_cover_12 : decode cX2_cover 12 = .ok (.getfield 9, 3) := by decide +kernel
theorem dX2_cover_15 : decode cX2_cover 15 = .ok (.iconst 3, 1) := by decide +kernel
theorem dX2_cover_16 : decode cX2_cover 16 = .ok (.iload 4, 2) := by decide +kernel
theorem dX2_cover_18 : decode cX2_cover 18 = .ok (.ishl, 1) := by decide +kernel
theorem dX2_cover_19 : decode cX2_cover 19 = .ok (.iconst (-1), 1) := by decide +kernel
theorem dX2_cover_20 : decode cX2_cover 20 = .ok (.ixor, 1) := by decide +kernel
theorem dX2_cover_21 : decode cX2_cover 21 = .ok (.iand, 1) := by decide +kernel
theorem dX2_cover_22 : decode cX2_cover 22 = .ok (.iload_n 3, 1) := by decide +kernel
theorem dX2_cover_23 : decode cX2_cover 23 = .ok (.iload 4, 2) := by decide +kernel
theorem dX2_cover_25 : decode cX2_cover 25 = .ok (.ishl, 1) := by decide +kernel
theorem dX2_cover_26 : decode cX2_cover 26 = .ok (.ior, 1) := by decide +kernel
theorem dX2_cover_27 : decode cX2_cover 27 = .ok (.putfield 9, 3) := by decide +kernel
theorem dX2_cover_30 : decode cX2_cover 30 = .ok (.return_, 1) := by decide +kernel
set_option maxRecDepth 20000 in
theorem ggX2_wetPlaces_X2_groundAt : GoodIn wsX2_wetPlaces wsX2_groundAt := goodIn_r _ [5, 6, 7, 8, 9, 10, 11, 12, 13] (by decide +kernel) (by decide +kernel)
set_option maxRecDepth 20000 in
theorem gX2_wetPlaces_X2_groundAt : GoodIn wsX2_wetPlaces (wsV RX2 28 RX2 yX2_groundAt wsX2_groundAt) := goodIn_app (goodIn_of _ (by decide +kernel)) ggX2_wetPlaces_X2_groundAt
theorem dX2_wetPlaces_0 : decode cX2_wetPlaces 0 = .ok (.iconst 0, 1) := by decide +kernel
theorem dX2_wetPlaces_1 : decode cX2_wetPlaces 1 = .ok (.istore_n 2, 1) := by decide +kernel
theorem dX2_wetPlaces_2 : decode cX2_wetPlaces 2 = .ok (.iconst 0, 1) := by decide +kernel
theorem dX2_wetPlaces_3 : decode cX2_wetPlaces 3 = .ok (.istore_n 3, 1) := by decide +kernel
theorem dX2_wetPlaces_4 : decode cX2_wetPlaces 4 = .ok (.iload_n 3, 1) := by decide +kernel
theorem dX2_wetPlaces_5 : decode cX2_wetPlaces 5 = .ok (.iconst 4, 1) := by decide +kernel
theorem dX2_wetPlaces_6 : decode cX2_wetPlaces 6 = .ok (.if_icmp .ge 27, 3) := by decide +kernel
theorem dX2_wetPlaces_9 : decode cX2_wetPlaces 9 = .ok (.iload_n 2, 1) := by decide +kernel
theorem dX2_wetPlaces_10 : decode cX2_wetPlaces 10 = .ok (.aload_n 0, 1) := by decide +kernel
theorem dX2_wetPlaces_11 : decode cX2_wetPlaces 11 = .ok (.iload_n 1, 1) := by decide +kernel
theorem dX2_wetPlaces_12 : decode cX2_wetPlaces 12 = .ok (.iload_n 3, 1) := by decide +kernel
theorem dX2_wetPlaces_13 : decode cX2_wetPlaces 13 = .ok (.invokevirtual 28, 3) := by decide +kernel
theorem dX2_wetPlaces_16 : decode cX2_wetPlaces 16 = .ok (.iconst 2, 1) := by decide +kernel
theorem dX2_wetPlaces_17 : decode cX2_wetPlaces 17 = .ok (.if_icmp .ne 7, 3) := by decide +kernel
theorem dX2_wetPlaces_20 : decode cX2_wetPlaces 20 = .ok (.iconst 1, 1) := by decide +kernel
theorem dX2_wetPlaces_21 : decode cX2_wetPlaces 21 = .ok (.goto 4, 3) := by decide +kernel
theorem dX2_wetPlaces_24 : decode cX2_wetPlaces 24 = .ok (.iconst 0, 1) := by decide +kernel
theorem dX2_wetPlaces_25 : decode cX2_wetPlaces 25 = .ok (.iadd, 1) := by decide +kernel
theorem dX2_wetPlaces_26 : decode cX2_wetPlaces 26 = .ok (.istore_n 2, 1) := by decide +kernel
theorem dX2_wetPlaces_27 : decode cX2_wetPlaces 27 = .ok (.iinc 3 1, 3) := by decide +kernel
theorem dX2_wetPlaces_30 : decode cX2_wetPlaces 30 = .ok (.goto (-26), 3) := by decide +kernel
theorem dX2_wetPlaces_33 : decode cX2_wetPlaces 33 = .ok (.iload_n 2, 1) := by decide +kernel
theorem dX2_wetPlaces_34 : decode cX2_wetPlaces 34 = .ok (.ireturn, 1) := by decide +kernel
theorem dX2_storeIn_0 : decode cX2_storeIn 0 = .ok (.iload_n 2, 1) := by decide +kernel
theorem dX2_storeIn_1 : decode cX2_storeIn 1 = .ok (.iconst 4, 1) := by decide +kernel
theorem dX2_storeIn_2 : decode cX2_storeIn 2 = .ok (.imul, 1) := by decide +kernel
theorem dX2_storeIn_3 : decode cX2_storeIn 3 = .ok (.istore_n 3, 1) := by decide +kernel
theorem dX2_storeIn_4 : decode cX2_storeIn 4 = .ok (.iload_n 3, 1) := by decide +kernel
theorem dX2_storeIn_5 : decode cX2_storeIn 5 = .ok (.ifCond .lt 45, 3) := by decide +kernel
theorem dX2_storeIn_8 : decode cX2_storeIn 8 = .ok (.iload_n 3, 1) := by decide +kernel
theorem dX2_storeIn_9 : decode cX2_storeIn 9 = .ok (.aload_n 1, 1) := by decide +kernel
theorem dX2_storeIn_10 : decode cX2_storeIn 10 = .ok (.arraylength, 1) := by decide +kernel
theorem dX2_storeIn_11 : decode cX2_storeIn 11 = .ok (.iconst 4, 1) := by decide +kernel
theorem dX2_storeIn_12 : decode cX2_storeIn 12 = .ok (.isub, 1) := by decide +kernel
theorem dX2_storeIn_13 : decode cX2_storeIn 13 = .ok (.if_icmp .gt 37, 3) := by decide +kernel
theorem dX2_storeIn_16 : decode cX2_storeIn 16 = .ok (.aload_n 1, 1) := by decide +kernel
theorem dX2_storeIn_17 : decode cX2_storeIn 17 = .ok (.iload_n 3, 1) := by decide +kernel
theorem dX2_storeIn_18 : decode cX2_storeIn 18 = .ok (.aload_n 0, 1) := by decide +kernel
theorem dX2_storeIn_19 : decode cX2_storeIn 19 = .ok (.getfield 9, 3) := by decide +kernel
theorem dX2_storeIn_22 : decode cX2_storeIn 22 = .ok (.iastore, 1) := by decide +kernel
theorem dX2_storeIn_23 : decode cX2_storeIn 23 = .ok (.aload_n 1, 1) := by decide +kernel
theorem dX2_storeIn_24 : decode cX2_storeIn 24 = .ok (.iload_n 3, 1) := by decide +kernel
theorem dX2_storeIn_25 : decode cX2_storeIn 25 = .ok (.iconst 1, 1) := by decide +kernel
theorem dX2_storeIn_26 : decode cX2_storeIn 26 = .ok (.iadd, 1) := by decide +kernel
theorem dX2_storeIn_27 : decode cX2_storeIn 27 = .ok (.aload_n 0, 1) := by decide +kernel
theorem dX2_storeIn_28 : decode cX2_storeIn 28 = .ok (.getfield 15, 3) := by decide +kernel
theorem dX2_storeIn_31 : decode cX2_storeIn 31 = .ok (.iastore, 1) := by decide +kernel
theorem dX2_storeIn_32 : decode cX2_storeIn 32 = .ok (.aload_n 1, 1) := by decide +kernel
theorem dX2_storeIn_33 : decode cX2_storeIn 33 = .ok (.iload_n 3, 1) := by decide +kernel
theorem dX2_storeIn_34 : decode cX2_storeIn 34 = .ok (.iconst 2, 1) := by decide +kernel
theorem dX2_storeIn_35 : decode cX2_storeIn 35 = .ok (.iadd, 1) := by decide +kernel
theorem dX2_storeIn_36 : decode cX2_storeIn 36 = .ok (.aload_n 0, 1) := by decide +kernel
theorem dX2_storeIn_37 : decode cX2_storeIn 37 = .ok (.getfield 18, 3) := by decide +kernel
theorem dX2_storeIn_40 : decode cX2_storeIn 40 = .ok (.iastore, 1) := by decide +kernel
theorem dX2_storeIn_41 : decode cX2_storeIn 41 = .ok (.aload_n 1, 1) := by decide +kernel
theorem dX2_storeIn_42 : decode cX2_storeIn 42 = .ok (.iload_n 3, 1) := by decide +kernel
theorem dX2_storeIn_43 : decode cX2_storeIn 43 = .ok (.iconst 3, 1) := by decide +kernel
theorem dX2_storeIn_44 : decode cX2_storeIn 44 = .ok (.iadd, 1) := by decide +kernel
theorem dX2_storeIn_45 : decode cX2_storeIn 45 = .ok (.aload_n 0, 1) := by decide +kernel
theorem dX2_storeIn_46 : decode cX2_storeIn 46 = .ok (.getfield 21, 3) := by decide +kernel
theorem dX2_storeIn_49 : decode cX2_storeIn 49 = .ok (.iastore, 1) := by decide +kernel
theorem dX2_storeIn_50 : decode cX2_storeIn 50 = .ok (.return_, 1) := by decide +kernel
theorem dX2_fetchFrom_0 : decode cX2_fetchFrom 0 = .ok (.iload_n 2, 1) := by decide +kernel
theorem dX2_fetchFrom_1 : decode cX2_fetchFrom 1 = .ok (.iconst 4, 1) := by decide +kernel
theorem dX2_fetchFrom_2 : decode cX2_fetchFrom 2 = .ok (.imul, 1) := by decide +kernel
theorem dX2_fetchFrom_3 : decode cX2_fetchFrom 3 = .ok (.istore_n 3, 1) := by decide +kernel
theorem dX2_fetchFrom_4 : decode cX2_fetchFrom 4 = .ok (.iload_n 3, 1) := by decide +kernel
theorem dX2_fetchFrom_5 : decode cX2_fetchFrom 5 = .ok (.ifCond .lt 45, 3) := by decide +kernel
theorem dX2_fetchFrom_8 : decode cX2_fetchFrom 8 = .ok (.iload_n 3, 1) := by decide +kernel
theorem dX2_fetchFrom_9 : decode cX2_fetchFrom 9 = .ok (.aload_n 1, 1) := by decide +kernel
theorem dX2_fetchFrom_10 : decode cX2_fetchFrom 10 = .ok (.arraylength, 1) := by decide +kernel
theorem dX2_fetchFrom_11 : decode cX2_fetchFrom 11 = .ok (.iconst 4, 1) := by decide +kernel
theorem dX2_fetchFrom_12 : decode cX2_fetchFrom 12 = .ok (.isub, 1) := by decide +kernel
theorem dX2_fetchFrom_13 : decode cX2_fetchFrom 13 = .ok (.if_icmp .gt 37, 3) := by decide +kernel
theorem dX2_fetchFrom_16 : decode cX2_fetchFrom 16 = .ok (.aload_n 0, 1) := by decide +kernel
theorem dX2_fetchFrom_17 : decode cX2_fetchFrom 17 = .ok (.aload_n 1, 1) := by decide +kernel
theorem dX2_fetchFrom_18 : decode cX2_fetchFrom 18 = .ok (.iload_n 3, 1) := by decide +kernel
theorem dX2_fetchFrom_19 : decode cX2_fetchFrom 19 = .ok (.iaload, 1) := by decide +kernel
theorem dX2_fetchFrom_20 : decode cX2_fetchFrom 20 = .ok (.putfield 9, 3) := by decide +kernel
theorem dX2_fetchFrom_23 : decode cX2_fetchFrom 23 = .ok (.aload_n 0, 1) := by decide +kernel
theorem dX2_fetchFrom_24 : decode cX2_fetchFrom 24 = .ok (.aload_n 1, 1) := by decide +kernel
theorem dX2_fetchFrom_25 : decode cX2_fetchFrom 25 = .ok (.iload_n 3, 1) := by decide +kernel
theorem dX2_fetchFrom_26 : decode cX2_fetchFrom 26 = .ok (.iconst 1, 1) := by decide +kernel
theorem dX2_fetchFrom_27 : decode cX2_fetchFrom 27 = .ok (.iadd, 1) := by decide +kernel
theorem dX2_fetchFrom_28 : decode cX2_fetchFrom 28 = .ok (.iaload, 1) := by decide +kernel
theorem dX2_fetchFrom_29 : decode cX2_fetchFrom 29 = .ok (.putfield 15, 3) := by decide +kernel
theorem dX2_fetchFrom_32 : decode cX2_fetchFrom 32 = .ok (.aload_n 0, 1) := by decide +kernel
theorem dX2_fetchFrom_33 : decode cX2_fetchFrom 33 = .ok (.aload_n 1, 1) := by decide +kernel
theorem dX2_fetchFrom_34 : decode cX2_fetchFrom 34 = .ok (.iload_n 3, 1) := by decide +kernel
theorem dX2_fetchFrom_35 : decode cX2_fetchFrom 35 = .ok (.iconst 2, 1) := by decide +kernel
theorem dX2_fetchFrom_36 : decode cX2_fetchFrom 36 = .ok (.iadd, 1) := by decide +kernel
theorem dX2_fetchFrom_37 : decode cX2_fetchFrom 37 = .ok (.iaload, 1) := by decide +kernel
theorem dX2_fetchFrom_38 : decode cX2_fetchFrom 38 = .ok (.putfield 18, 3) := by decide +kernel
theorem dX2_fetchFrom_41 : decode cX2_fetchFrom 41 = .ok (.aload_n 0, 1) := by decide +kernel
theorem dX2_fetchFrom_42 : decode cX2_fetchFrom 42 = .ok (.aload_n 1, 1) := by decide +kernel
theorem dX2_fetchFrom_43 : decode cX2_fetchFrom 43 = .ok (.iload_n 3, 1) := by decide +kernel
theorem dX2_fetchFrom_44 : decode cX2_fetchFrom 44 = .ok (.iconst 3, 1) := by decide +kernel
theorem dX2_fetchFrom_45 : decode cX2_fetchFrom 45 = .ok (.iadd, 1) := by decide +kernel
theorem dX2_fetchFrom_46 : decode cX2_fetchFrom 46 = .ok (.iaload, 1) := by decide +kernel
theorem dX2_fetchFrom_47 : decode cX2_fetchFrom 47 = .ok (.putfield 21, 3) := by decide +kernel
theorem dX2_fetchFrom_50 : decode cX2_fetchFrom 50 = .ok (.return_, 1) := by decide +kernel
theorem dX3_init_0 : decode cX3_init 0 = .ok (.aload_n 0, 1) := by decide +kernel
theorem dX3_init_1 : decode cX3_init 1 = .ok (.invokespecial 3, 3) := by decide +kernel
theorem dX3_init_4 : decode cX3_init 4 = .ok (.aload_n 0, 1) := by decide +kernel
theorem dX3_init_5 : decode cX3_init 5 = .ok (.bipush 40, 2) := by decide +kernel
theorem dX3_init_7 : decode cX3_init 7 = .ok (.newarray .int, 2) := by decide +kernel
theorem dX3_init_9 : decode cX3_init 9 = .ok (.putfield 9, 3) := by decide +kernel
theorem dX3_init_12 : decode cX3_init 12 = .ok (.return_, 1) := by decide +kernel
theorem dX3_append_0 : decode cX3_append 0 = .ok (.aload_n 0, 1) := by decide +kernel
theorem dX3_append_1 : decode cX3_append 1 = .ok (.getfield 15, 3) := by decide +kernel
theorem dX3_append_4 : decode cX3_append 4 = .ok (.ifCond .lt 15, 3) := by decide +kernel
theorem dX3_append_7 : decode cX3_append 7 = .ok (.aload_n 0, 1) := by decide +kernel
theorem dX3_append_8 : decode cX3_append 8 = .ok (.getfield 15, 3) := by decide +kernel
theorem dX3_append_11 : decode cX3_append 11 = .ok (.aload_n 0, 1) := by decide +kernel
theorem dX3_append_12 : decode cX3_append 12 = .ok (.getfield 9, 3) := by decide +kernel
theorem dX3_append_15 : decode cX3_append 15 = .ok (.arraylength, 1) := by decide +kernel
theorem dX3_append_16 : decode cX3_append 16 = .ok (.if_icmp .lt 5, 3) := by decide +kernel
theorem dX3_append_19 : decode cX3_append 19 = .ok (.iconst 0, 1) := by decide +kernel
theorem dX3_append_20 : decode cX3_append 20 = .ok (.ireturn, 1) := by decide +kernel
theorem dX3_append_21 : decode cX3_append 21 = .ok (.aload_n 0, 1) := by decide +kernel
theorem dX3_append_22 : decode cX3_append 22 = .ok (.getfield 9, 3) := by decide +kernel
theorem dX3_append_25 : decode cX3_append 25 = .ok (.aload_n 0, 1) := by decide +kernel
theorem dX3_append_26 : decode cX3_append 26 = .ok (.getfield 15, 3) := by decide +kernel
theorem dX3_append_29 : decode cX3_append 29 = .ok (.iload_n 1, 1) := by decide +kernel
theorem dX3_append_30 : decode cX3_append 30 = .ok (.iastore, 1) := by decide +kernel
theorem dX3_append_31 : decode cX3_append 31 = .ok (.aload_n 0, 1) := by decide +kernel
theorem dX3_append_32 : decode cX3_append 32 = .ok (.dup, 1) := by decide +kernel
theorem dX3_append_33 : decode cX3_append 33 = .ok (.getfield 15, 3) := by decide +kernel
theorem dX3_append_36 : decode cX3_append 36 = .ok (.iconst 1, 1) := by decide +kernel
theorem dX3_append_37 : decode cX3_append 37 = .ok (.iadd, 1) := by decide +kernel
theorem dX3_append_38 : decode cX3_append 38 = .ok (.putfield 15, 3) := by decide +kernel
theorem dX3_append_41 : decode cX3_append 41 = .ok (.iconst 1, 1) := by decide +kernel
theorem dX3_append_42 : decode cX3_append 42 = .ok (.ireturn, 1) := by decide +kernel
theorem dX3_letterAt_0 : decode cX3_letterAt 0 = .ok (.iload_n 1, 1) := by decide +kernel
theorem dX3_letterAt_1 : decode cX3_letterAt 1 = .ok (.ifCond .lt 29, 3) := by decide +kernel
theorem dX3_letterAt_4 : decode cX3_letterAt 4 = .ok (.iload_n 1, 1) := by decide +kernel
theorem dX3_letterAt_5 : decode cX3_letterAt 5 = .ok (.aload_n 0, 1) := by decide +kernel
theorem dX3_letterAt_6 : decode cX3_letterAt 6 = .ok (.getfield 15, 3) := by decide +kernel
theorem dX3_letterAt_9 : decode cX3_letterAt 9 = .ok (.if_icmp .ge 21, 3) := by decide +kernel
theorem dX3_letterAt_12 : decode cX3_letterAt 12 = .ok (.iload_n 1, 1) := by decide +kernel
theorem dX3_letterAt_13 : decode cX3_letterAt 13 = .ok (.aload_n 0, 1) := by decide +kernel
theorem dX3_letterAt_14 : decode cX3_letterAt 14 = .ok (.getfield 9, 3) := by decide +kernel
theorem dX3_letterAt_17 : decode cX3_letterAt 17 = .ok (.arraylength, 1) := by decide +kernel
theorem dX3_letterAt_18 : decode cX3_letterAt 18 = .ok (.if_icmp .ge 12, 3) := by decide +kernel
theorem dX3_letterAt_21 : decode cX3_letterAt 21 = .ok (.aload_n 0, 1) := by decide +kernel
theorem dX3_letterAt_22 : decode cX3_letterAt 22 = .ok (.getfield 9, 3) := by decide +kernel
theorem dX3_letterAt_25 : decode cX3_letterAt 25 = .ok (.iload_n 1, 1) := by decide +kernel
theorem dX3_letterAt_26 : decode cX3_letterAt 26 = .ok (.iaload, 1) := by decide +kernel
theorem dX3_letterAt_27 : decode cX3_letterAt 27 = .ok (.goto 4, 3) := by decide +kernel
theorem dX3_letterAt_30 : decode cX3_letterAt 30 = .ok (.iconst (-1), 1) := by decide +kernel
theorem dX3_letterAt_31 : decode cX3_letterAt 31 = .ok (.ireturn, 1) := by decide +kernel
set_option maxRecDepth 20000 in
theorem ggX3_figureAt_X3_letterAt : GoodIn wsX3_figureAt wsX3_letterAt := goodIn_r _ [5, 6, 7, 8, 9] (by decide +kernel) (by decide +kernel)
set_option maxRecDepth 20000 in
theorem gX3_figureAt_X3_letterAt : GoodIn wsX3_figureAt (wsV RX3 19 RX3 yX3_letterAt wsX3_letterAt) := goodIn_app (goodIn_of _ (by decide +kernel)) ggX3_figureAt_X3_letterAt
theorem dX3_figureAt_0 : decode cX3_figureAt 0 = .ok (.aload_n 0, 1) := by decide +kernel
theorem dX3_figureAt_1 : decode cX3_figureAt 1 = .ok (.iload_n 1, 1) := by decide +kernel
theorem dX3_figureAt_2 : decode cX3_figureAt 2 = .ok (.invokevirtual 19, 3) := by decide +kernel
theorem dX3_figureAt_5 : decode cX3_figureAt 5 = .ok (.bipush 48, 2) := by decide +kernel
theorem dX3_figureAt_7 : decode cX3_figureAt 7 = .ok (.isub, 1) := by decide +kernel
theorem dX3_figureAt_8 : decode cX3_figureAt 8 = .ok (.ireturn, 1) := by decide +kernel
set_option maxRecDepth 20000 in
theorem ggX3_firstFault_X3_letterAt : GoodIn wsX3_firstFault wsX3_letterAt := goodIn_r _ [6, 1, 7, 8, 9] (by decide +kernel) (by decide +kernel)
set_option maxRecDepth 20000 in
theorem gX3_firstFault_X3_letterAt : GoodIn wsX3_firstFault (wsV RX3 19 RX3 yX3_letterAt wsX3_letterAt) := goodIn_app (goodIn_of _ (by decide +kernel)) ggX3_firstFault_X3_letterAt
theorem dX3_firstFault_0 : decode cX3_firstFault 0 = .ok (.iconst 0, 1) := by decide +kernel
theorem dX3_firstFault_1 : decode cX3_firstFault 1 = .ok (.istore_n 1, 1) := by decide +kernel
theorem dX3_firstFault_2 : decode cX3_firstFault 2 = .ok (.iconst 0, 1) := by decide +kernel
theorem dX3_firstFault_3 : decode cX3_firstFault 3 = .ok (.istore_n 2, 1) := by decide +kernel
theorem dX3_firstFault_4 : decode cX3_firstFault 4 = .ok (.iconst 0, 1) := by decide +kernel
theorem dX3_firstFault_5 : decode cX3_firstFault 5 = .ok (.istore_n 3, 1) := by decide +kernel
theorem dX3_firstFault_6 : decode cX3_firstFault 6 = .ok (.bipush 48, 2) := by decide +kernel
theorem dX3_firstFault_8 : decode cX3_firstFault 8 = .ok (.istore 4, 2) := by decide +kernel
theorem dX3_firstFault_10 : decode cX3_firstFault 10 = .ok (.bipush 48, 2) := by decide +kernel
theorem dX3_firstFault_12 : decode cX3_firstFault 12 = .ok (.istore 5, 2) := by decide +kernel
theorem dX3_firstFault_14 : decode cX3_firstFault 14 = .ok (.iconst 0, 1) := by decide +kernel
theorem dX3_firstFault_15 : decode cX3_firstFault 15 = .ok (.istore 6, 2) := by decide +kernel
theorem dX3_firstFault_17 : decode cX3_firstFault 17 = .ok (.iload 6, 2) := by decide +kernel
theorem dX3_firstFault_19 : decode cX3_firstFault 19 = .ok (.aload_n 0, 1) := by decide +kernel
theorem dX3_firstFault_20 : decode cX3_firstFault 20 = .ok (.getfield 15, 3) := by decide +kernel
theorem dX3_firstFault_23 : decode cX3_firstFault 23 = .ok (.if_icmp .ge 138, 3) := by decide +kernel
theorem dX3_firstFault_26 : decode cX3_firstFault 26 = .ok (.aload_n 0, 1) := by decide +kernel
theorem dX3_firstFault_27 : decode cX3_firstFault 27 = .ok (.iload 6, 2) := by decide +kernel
theorem dX3_firstFault_29 : decode cX3_firstFault 29 = .ok (.invokevirtual 19, 3) := by decide +kernel
theorem dX3_firstFault_32 : decode cX3_firstFault 32 = .ok (.istore 7, 2) := by decide +kernel
theorem dX3_firstFault_34 : decode cX3_firstFault 34 = .ok (.iload_n 3, 1) := by decide +kernel
theorem dX3_firstFault_35 : decode cX3_firstFault 35 = .ok (.ifCond .le 26, 3) := by decide +kernel
theorem dX3_firstFault_38 : decode cX3_firstFault 38 = .ok (.iload 7, 2) := by decide +kernel
theorem dX3_firstFault_40 : decode cX3_firstFault 40 = .ok (.iload 4, 2) := by decide +kernel
theorem dX3_firstFault_42 : decode cX3_firstFault 42 = .ok (.if_icmp .lt 10, 3) := by decide +kernel
theorem dX3_firstFault_45 : decode cX3_firstFault 45 = .ok (.iload 7, 2) := by decide +kernel
theorem dX3_firstFault_47 : decode cX3_firstFault 47 = .ok (.iload 5, 2) := by decide +kernel
theorem dX3_firstFault_49 : decode cX3_firstFault 49 = .ok (.if_icmp .le 6, 3) := by decide +kernel
theorem dX3_firstFault_52 : decode cX3_firstFault 52 = .ok (.iload 6, 2) := by decide +kernel
theorem dX3_firstFault_54 : decode cX3_firstFault 54 = .ok (.ireturn, 1) := by decide +kernel
theorem dX3_firstFault_55 : decode cX3_firstFault 55 = .ok (.iinc 3 (-1), 3) := by decide +kernel
theorem dX3_firstFault_58 : decode cX3_firstFault 58 = .ok (.goto 97, 3) := by decide +kernel
theorem dX3_firstFault_61 : decode cX3_firstFault 61 = .ok (.iload 6, 2) := by decide +kernel
theorem dX3_firstFault_63 : decode cX3_firstFault 63 = .ok (.ifCond .ne 23, 3) := by decide +kernel
theorem dX3_firstFault_66 : decode cX3_firstFault 66 = .ok (.iload 7, 2) := by decide +kernel
theorem dX3_firstFault_68 : decode cX3_firstFault 68 = .ok (.bipush 76, 2) := by decide +kernel
theorem dX3_firstFault_70 : decode cX3_firstFault 70 = .ok (.if_icmp .ne 16, 3) := by decide +kernel
theorem dX3_firstFault_73 : decode cX3_firstFault 73 = .ok (.iconst 1, 1) := by decide +kernel
theorem dX3_firstFault_74 : decode cX3_firstFault 74 = .ok (.istore_n 3, 1) := by decide +kernel
theorem dX3_firstFault_75 : decode cX3_firstFault 75 = .ok (.bipush 49, 2) := by decide +kernel
theorem dX3_firstFault_77 : decode cX3_firstFault 77 = .ok (.istore 4, 2) := by decide +kernel
theorem dX3_firstFault_79 : decode cX3_firstFault 79 = .ok (.bipush 54, 2) := by decide +kernel
theorem dX3_firstFault_81 : decode cX3_firstFault 81 = .ok (.istore 5, 2) := by decide +kernel
theorem dX3_firstFault_83 : decode cX3_firstFault 83 = .ok (.goto 72, 3) := by decide +kernel
theorem dX3_firstFault_86 : decode cX3_firstFault 86 = .ok (.iload 6, 2) := by decide +kernel
theorem dX3_firstFault_88 : decode cX3_firstFault 88 = .ok (.ifCond .le 31, 3) := by decide +kernel
theorem dX3_firstFault_91 : decode cX3_firstFault 91 = .ok (.iload 7, 2) := by decide +kernel
theorem dX3_firstFault_93 : decode cX3_firstFault 93 = .ok (.bipush 71, 2) := by decide +kernel
theorem dX3_firstFault_95 : decode cX3_firstFault 95 = .ok (.if_icmp .ne 24, 3) := by decide +kernel
theorem dX3_firstFault_98 : decode cX3_firstFault 98 = .ok (.iload_n 1, 1) := by decide +kernel
theorem dX3_firstFault_99 : decode cX3_firstFault 99 = .ok (.iconst 4, 1) := by decide +kernel
theorem dX3_firstFault_100 : decode cX3_firstFault 100 = .ok (.if_icmp .ge 19, 3) := by decide +kernel
theorem dX3_firstFault_103 : decode cX3_firstFault 103 = .ok (.iinc 1 1, 3) := by decide +kernel
theorem dX3_firstFault_106 : decode cX3_firstFault 106 = .ok (.iconst 5, 1) := by decide +kernel
theorem dX3_firstFault_107 : decode cX3_firstFault 107 = .ok (.istore_n 3, 1) := by decide +kernel
theorem dX3_firstFault_108 : decode cX3_firstFault 108 = .ok (.bipush 48, 2) := by decide +kernel
theorem dX3_firstFault_110 : decode cX3_firstFault 110 = .ok (.istore 4, 2) := by decide +kernel
theorem dX3_firstFault_112 : decode cX3_firstFault 112 = .ok (.bipush 51, 2) := by decide +kernel
theorem dX3_firstFault_114 : decode cX3_firstFault 114 = .ok (.istore 5, 2) := by decide +kernel
theorem dX3_firstFault_116 : decode cX3_firstFault 116 = .ok (.goto 39, 3) := by decide +kernel
theorem dX3_firstFault_119 : decode cX3_firstFault 119 = .ok (.iload 6, 2) := by decide +kernel
theorem dX3_firstFault_121 : decode cX3_firstFault 121 = .ok (.ifCond .le 31, 3) := by decide +kernel
theorem dX3_firstFault_124 : decode cX3_firstFault 124 = .ok (.iload 7, 2) := by decide +kernel
theorem dX3_firstFault_126 : decode cX3_firstFault 126 = .ok (.bipush 66, 2) := by decide +kernel
theorem dX3_firstFault_128 : decode cX3_firstFault 128 = .ok (.if_icmp .ne 24, 3) := by decide +kernel
theorem dX3_firstFault_131 : decode cX3_firstFault 131 = .ok (.iload_n 2, 1) := by decide +kernel
theorem dX3_firstFault_132 : decode cX3_firstFault 132 = .ok (.iconst 3, 1) := by decide +kernel
theorem dX3_firstFault_133 : decode cX3_firstFault 133 = .ok (.if_icmp .ge 19, 3) := by decide +kernel
theorem dX3_firstFault_136 : decode cX3_firstFault 136 = .ok (.iinc 2 1, 3) := by decide +kernel
theorem dX3_firstFault_139 : decode cX3_firstFault 139 = .ok (.iconst 1, 1) := by decide +kernel
theorem dX3_firstFault_140 : decode cX3_firstFault 140 = .ok (.istore_n 3, 1) := by decide +kernel
theorem dX3_firstFault_141 : decode cX3_firstFault 141 = .ok (.bipush 48, 2) := by decide +kernel
theorem dX3_firstFault_143 : decode cX3_firstFault 143 = .ok (.istore 4, 2) := by decide +kernel
theorem dX3_firstFault_145 : decode cX3_firstFault 145 = .ok (.bipush 57, 2) := by decide +kernel
theorem dX3_firstFault_147 : decode cX3_firstFault 147 = .ok (.istore 5, 2) := by decide +kernel
theorem dX3_firstFault_149 : decode cX3_firstFault 149 = .ok (.goto 6, 3) := by decide +kernel
theorem dX3_firstFault_152 : decode cX3_firstFault 152 = .ok (.iload 6, 2) := by decide +kernel
theorem dX3_firstFault_154 : decode cX3_firstFault 154 = .ok (.ireturn, 1) := by decide +kernel
theorem dX3_firstFault_155 : decode cX3_firstFault 155 = .ok (.iinc 6 1, 3) := by decide +kernel
theorem dX3_firstFault_158 : decode cX3_firstFault 158 = .ok (.goto (-141), 3) := by decide +kernel
theorem dX3_firstFault_161 : decode cX3_firstFault 161 = .ok (.aload_n 0, 1) := by decide +kernel
theorem dX3_firstFault_162 : decode cX3_firstFault 162 = .ok (.getfield 15, 3) := by decide +kernel
theorem dX3_firstFault_165 : decode cX3_firstFault 165 = .ok (.ifCond .eq 7, 3) := by decide +kernel
theorem dX3_firstFault_168 : decode cX3_firstFault 168 = .ok (.iload_n 3, 1) := by decide +kernel
theorem dX3_firstFault_169 : decode cX3_firstFault 169 = .ok (.ifCond .le 10, 3) := by decide +kernel
theorem dX3_firstFault_172 : decode cX3_firstFault 172 = .ok (.aload_n 0, 1) := by decide +kernel
theorem dX3_firstFault_173 : decode cX3_firstFault 173 = .ok (.getfield 15, 3) := by decide +kernel
theorem dX3_firstFault_176 : decode cX3_firstFault 176 = .ok (.goto 5, 3) := by decide +kernel
theorem dX3_firstFault_179 : decode cX3_firstFault 179 = .ok (.bipush (-9), 2) := by decide +kernel
theorem dX3_firstFault_181 : decode cX3_firstFault 181 = .ok (.ireturn, 1) := by decide +kernel
set_option maxRecDepth 20000 in
theorem ggX4_init_X3_init : GoodIn wsX4_init wsX3_init := goodIn_r _ [24, 25, 2, 3, 20, 26, 38, 39] (by decide +kernel) (by decide +kernel)
set_option maxRecDepth 20000 in
theorem gX4_init_X3_init_n9 : GoodIn wsX4_init (wsX3_init) := ggX4_init_X3_init
set_option maxRecDepth 20000 in
theorem ggX4_init_X1_init : GoodIn wsX4_init wsX1_init := goodIn_r _ [28, 29, 2, 3, 30, 50, 51, 52, 53, 54] (by decide +kernel) (by decide +kernel)
set_option maxRecDepth 20000 in
theorem gX4_init_X1_init_n18 : GoodIn wsX4_init (wsX1_init) := ggX4_init_X1_init
set_option maxRecDepth 20000 in
theorem ggX4_init_X2_init : GoodIn wsX4_init wsX2_init := goodIn_r _ [32, 33, 2, 3] (by decide +kernel) (by decide +kernel)
set_option maxRecDepth 20000 in
theorem gX4_init_X2_init_n25 : GoodIn wsX4_init (wsX2_init) := ggX4_init_X2_init
set_option maxRecDepth 20000 in
theorem ggX4_init_X0_init : GoodIn wsX4_init wsX0_init := goodIn_r _ [35, 36, 2, 3, 20, 37, 59, 60, 61] (by decide +kernel) (by decide +kernel)
set_option maxRecDepth 20000 in
theorem gX4_init_X0_init_n32 : GoodIn wsX4_init (wsX0_init) := ggX4_init_X0_init
theorem dX4_init_0 : decode cX4_init 0 = .ok (.aload_n 0, 1) := by decide +kernel
theorem dX4_init_1 : decode cX4_init 1 = .ok (.invokespecial 1, 3) := by decide +kernel
theorem dX4_init_4 : decode cX4_init 4 = .ok (.aload_n 0, 1) := by decide +kernel
theorem dX4_init_5 : decode cX4_init 5 = .ok (.new 7, 3) := by decide +kernel
theorem dX4_init_8 : decode cX4_init 8 = .ok (.dup, 1) := by decide +kernel
theorem dX4_init_9 : decode cX4_init 9 = .ok (.invokespecial 9, 3) := by decide +kernel
theorem dX4_init_12 : decode cX4_init 12 = .ok (.putfield 10, 3) := by decide +kernel
theorem dX4_init_15 : decode cX4_init 15 = .ok (.aload_n 0, 1) := by decide +kernel
theorem dX4_init_16 : decode cX4_init 16 = .ok (.new 16, 3) := by decide +kernel
theorem dX4_init_19 : decode cX4_init 19 = .ok (.dup, 1) := by decide +kernel
theorem dX4_init_20 : decode cX4_init 20 = .ok (.invokespecial 18, 3) := by decide +kernel
theorem dX4_init_23 : decode cX4_init 23 = .ok (.putfield 19, 3) := by decide +kernel
theorem dX4_init_26 : decode cX4_init 26 = .ok (.aload_n 0, 1) := by decide +kernel
theorem dX4_init_27 : decode cX4_init 27 = .ok (.new 23, 3) := by decide +kernel
theorem dX4_init_30 : decode cX4_init 30 = .ok (.dup, 1) := by decide +kernel
theorem dX4_init_31 : decode cX4_init 31 = .ok (.invokespecial 25, 3) := by decide +kernel
theorem dX4_init_34 : decode cX4_init 34 = .ok (.putfield 26, 3) := by decide +kernel
theorem dX4_init_37 : decode cX4_init 37 = .ok (.aload_n 0, 1) := by decide +kernel
theorem dX4_init_38 : decode cX4_init 38 = .ok (.new 30, 3) := by decide +kernel
theorem dX4_init_41 : decode cX4_init 41 = .ok (.dup, 1) := by decide +kernel
theorem dX4_init_42 : decode cX4_init 42 = .ok (.invokespecial 32, 3) := by decide +kernel
theorem dX4_init_45 : decode cX4_init 45 = .ok (.putfield 33, 3) := by decide +kernel
theorem dX4_init_48 : decode cX4_init 48 = .ok (.aload_n 0, 1) := by decide +kernel
theorem dX4_init_49 : decode cX4_init 49 = .ok (.bipush 8, 2) := by decide +kernel
theorem dX4_init_51 : decode cX4_init 51 = .ok (.newarray .int, 2) := by decide +kernel
theorem dX4_init_53 : decode cX4_init 53 = .ok (.putfield 37, 3) := by decide +kernel
theorem dX4_init_56 : decode cX4_init 56 = .ok (.aload_n 0, 1) := by decide +kernel
theorem dX4_init_57 : decode cX4_init 57 = .ok (.iconst 4, 1) := by decide +kernel
theorem dX4_init_58 : decode cX4_init 58 = .ok (.newarray .int, 2) := by decide +kernel
theorem dX4_init_60 : decode cX4_init 60 = .ok (.putfield 41, 3) := by decide +kernel
theorem dX4_init_63 : decode cX4_init 63 = .ok (.return_, 1) := by decide +kernel
set_option maxRecDepth 20000 in
theorem ggX4_write_X3_append : GoodIn wsX4_write wsX3_append := goodIn_r _ [6, 7, 8, 19, 20] (by decide +kernel) (by decide +kernel)
set_option maxRecDepth 20000 in
theorem gX4_write_X3_append : GoodIn wsX4_write (wsV RX4 44 RX3 yX3_append wsX3_append) := goodIn_app (goodIn_of _ (by decide +kernel)) ggX4_write_X3_append
theorem dX4_write_0 : decode cX4_write 0 = .ok (.iload_n 1, 1) := by decide +kernel
theorem dX4_write_1 : decode cX4_write 1 = .ok (.ifCond .lt 10, 3) := by decide +kernel
theorem dX4_write_4 : decode cX4_write 4 = .ok (.iload_n 1, 1) := by decide +kernel
theorem dX4_write_5 : decode cX4_write 5 = .ok (.sipush 255, 3) := by decide +kernel
theorem dX4_write_8 : decode cX4_write 8 = .ok (.if_icmp .le 6, 3) := by decide +kernel
theorem dX4_write_11 : decode cX4_write 11 = .ok (.bipush (-2), 2) := by decide +kernel
theorem dX4_write_13 : decode cX4_write 13 = .ok (.ireturn, 1) := by decide +kernel
theorem dX4_write_14 : decode cX4_write 14 = .ok (.aload_n 0, 1) := by decide +kernel
theorem dX4_write_15 : decode cX4_write 15 = .ok (.getfield 10, 3) := by decide +kernel
theorem dX4_write_18 : decode cX4_write 18 = .ok (.iload_n 1, 1) := by decide +kernel
theorem dX4_write_19 : decode cX4_write 19 = .ok (.invokevirtual 44, 3) := by decide +kernel
theorem dX4_write_22 : decode cX4_write 22 = .ok (.ifCond .eq 13, 3) := by decide +kernel
theorem dX4_write_25 : decode cX4_write 25 = .ok (.aload_n 0, 1) := by decide +kernel
theorem dX4_write_26 : decode cX4_write 26 = .ok (.getfield 10, 3) := by decide +kernel
theorem dX4_write_29 : decode cX4_write 29 = .ok (.getfield 48, 3) := by decide +kernel
theorem dX4_write_32 : decode cX4_write 32 = .ok (.goto 5, 3) := by decide +kernel
theorem dX4_write_35 : decode cX4_write 35 = .ok (.bipush (-4), 2) := by decide +kernel
theorem dX4_write_37 : decode cX4_write 37 = .ok (.ireturn, 1) := by decide +kernel
theorem dX4_wipe_0 : decode cX4_wipe 0 = .ok (.aload_n 0, 1) := by decide +kernel
theorem dX4_wipe_1 : decode cX4_wipe 1 = .ok (.getfield 10, 3) := by decide +kernel
theorem dX4_wipe_4 : decode cX4_wipe 4 = .ok (.getfield 48, 3) := by decide +kernel
theorem dX4_wipe_7 : decode cX4_wipe 7 = .ok (.istore_n 1, 1) := by decide +kernel
theorem dX4_wipe_8 : decode cX4_wipe 8 = .ok (.aload_n 0, 1) := by decide +kernel
theorem dX4_wipe_9 : decode cX4_wipe 9 = .ok (.getfield 10, 3) := by decide +kernel
theorem dX4_wipe_12 : decode cX4_wipe 12 = .ok (.iconst 0, 1) := by decide +kernel
theorem dX4_wipe_13 : decode cX4_wipe 13 = .ok (.putfield 48, 3) := by decide +kernel
theorem dX4_wipe_16 : decode cX4_wipe 16 = .ok (.iload_n 1, 1) := by decide +kernel
theorem dX4_wipe_17 : decode cX4_wipe 17 = .ok (.ireturn, 1) := by decide +kernel
set_option maxRecDepth 20000 in
theorem ggX4_fault_X3_firstFault : GoodIn wsX4_fault wsX3_firstFault := goodIn_r _ [6, 7, 8, 9, 10, 5, 11, 12, 23, 24] (by decide +kernel) (by decide +kernel)
set_option maxRecDepth 20000 in
theorem gX4_fault_X3_firstFault : GoodIn wsX4_fault (wsV RX4 52 RX3 yX3_firstFault wsX3_firstFault) := goodIn_app (goodIn_of _ (by decide +kernel)) ggX4_fault_X3_firstFault
theorem dX4_fault_0 : decode cX4_fault 0 = .ok (.aload_n 0, 1) := by decide +kernel
theorem dX4_fault_1 : decode cX4_fault 1 = .ok (.getfield 10, 3) := by decide +kernel
theorem dX4_fault_4 : decode cX4_fault 4 = .ok (.invokevirtual 52, 3) := by decide +kernel
theorem dX4_fault_7 : decode cX4_fault 7 = .ok (.ireturn, 1) := by decide +kernel
set_option maxRecDepth 20000 in
theorem ggX4_tunnel_X3_firstFault : GoodIn wsX4_tunnel wsX3_firstFault := goodIn_r _ [9, 10, 11, 12, 13, 8, 14, 15, 79, 80] (by decide +kernel) (by decide +kernel)
set_option maxRecDepth 20000 in
theorem gX4_tunnel_X3_firstFault : GoodIn wsX4_tunnel (wsV RX4 52 RX3 yX3_firstFault wsX3_firstFault) := goodIn_app (goodIn_of _ (by decide +kernel)) ggX4_tunnel_X3_firstFault
set_option maxRecDepth 20000 in
theorem ggX4_tunnel_X4_readTunnel : GoodIn wsX4_tunnel wsX4_readTunnel := goodIn_r _ [20, 4, 1, 21, 22, 23, 24, 8, 25, 11, 12, 13, 14, 10, 15, 26, 27, 28, 29, 30, 31, 32, 33, 34, 35, 36, 37, 38, 39, 40, 41, 42, 43, 44, 45, 46, 47, 48, 49, 50, 51, 52, 53, 54, 55, 56, 57, 64, 65, 66, 67, 68, 69, 70, 71, 72, 73, 79, 80, 74, 75, 76, 77, 78, 81, 82, 83, 84] (by decide +kernel) (by decide +kernel)
set_option maxRecDepth 20000 in
theorem gX4_tunnel_X4_readTunnel : GoodIn wsX4_tunnel (wsV RX4 56 RX4 yX4_readTunnel wsX4_readTunnel) := goodIn_app (goodIn_of _ (by decide +kernel)) ggX4_tunnel_X4_readTunnel
set_option maxRecDepth 20000 in
theorem ggX4_tunnel_X0_forgetAll : GoodIn wsX4_tunnel wsX0_forgetAll := goodIn_r _ [62, 63, 85, 86, 87] (by decide +kernel) (by decide +kernel)
set_option maxRecDepth 20000 in
theorem gX4_tunnel_X0_forgetAll : GoodIn wsX4_tunnel (wsV RX4 59 RX0 yX0_forgetAll wsX0_forgetAll) := goodIn_app (goodIn_of _ (by decide +kernel)) ggX4_tunnel_X0_forgetAll
theorem dX4_tunnel_0 : decode cX4_tunnel 0 = .ok (.aload_n 0, 1) := by decide +kernel
theorem dX4_tunnel_1 : decode cX4_tunnel 1 = .ok (.getfield 10, 3) := by decide +kernel
theorem dX4_tunnel_4 : decode cX4_tunnel 4 = .ok (.invokevirtual 52, 3) := by decide +kernel
theorem dX4_tunnel_7 : decode cX4_tunnel 7 = .ok (.bipush (-9), 2) := by decide +kernel
theorem dX4_tunnel_9 : decode cX4_tunnel 9 = .ok (.if_icmp .eq 6, 3) := by decide +kernel
theorem dX4_tunnel_12 : decode cX4_tunnel 12 = .ok (.bipush (-3), 2) := by decide +kernel
theorem dX4_tunnel_14 : decode cX4_tunnel 14 = .ok (.ireturn, 1) := by decide +kernel
theorem dX4_tunnel_15 : decode cX4_tunnel 15 = .ok (.aload_n 0, 1) := by decide +kernel
theorem dX4_tunnel_16 : decode cX4_tunnel 16 = .ok (.invokevirtual 56, 3) := by decide +kernel
theorem dX4_tunnel_19 : decode cX4_tunnel 19 = .ok (.aload_n 0, 1) := by decide +kernel
theorem dX4_tunnel_20 : decode cX4_tunnel 20 = .ok (.getfield 33, 3) := by decide +kernel
theorem dX4_tunnel_23 : decode cX4_tunnel 23 = .ok (.invokevirtual 59, 3) := by decide +kernel
theorem dX4_tunnel_26 : decode cX4_tunnel 26 = .ok (.aload_n 0, 1) := by decide +kernel
theorem dX4_tunnel_27 : decode cX4_tunnel 27 = .ok (.iconst 0, 1) := by decide +kernel
theorem dX4_tunnel_28 : decode cX4_tunnel 28 = .ok (.putfield 62, 3) := by decide +kernel
theorem dX4_tunnel_31 : decode cX4_tunnel 31 = .ok (.bipush 10, 2) := by decide +kernel
theorem dX4_tunnel_33 : decode cX4_tunnel 33 = .ok (.aload_n 0, 1) := by decide +kernel
theorem dX4_tunnel_34 : decode cX4_tunnel 34 = .ok (.getfield 19, 3) := by decide +kernel
theorem dX4_tunnel_37 : decode cX4_tunnel 37 = .ok (.getfield 65, 3) := by decide +kernel
theorem dX4_tunnel_40 : decode cX4_tunnel 40 = .ok (.imul, 1) := by decide +kernel
theorem dX4_tunnel_41 : decode cX4_tunnel 41 = .ok (.aload_n 0, 1) := by decide +kernel
theorem dX4_tunnel_42 : decode cX4_tunnel 42 = .ok (.getfield 19, 3) := by decide +kernel
theorem dX4_tunnel_45 : decode cX4_tunnel 45 = .ok (.getfield 68, 3) := by decide +kernel
theorem dX4_tunnel_48 : decode cX4_tunnel 48 = .ok (.iadd, 1) := by decide +kernel
theorem dX4_tunnel_49 : decode cX4_tunnel 49 = .ok (.ireturn, 1) := by decide +kernel
theorem dX4_about_0 : decode cX4_about 0 = .ok (.iload_n 1, 1) := by decide +kernel
theorem dX4_about_1 : decode cX4_about 1 = .ok (.tableswitch 108 0 7 #[47, 55, 63, 71, 79, 87, 95, 100], 47) := by decide +kernel
theorem dX4_about_48 : decode cX4_about 48 = .ok (.aload_n 0, 1) := by decide +kernel
theorem dX4_about_49 : decode cX4_about 49 = .ok (.getfield 19, 3) := by decide +kernel
theorem dX4_about_52 : decode cX4_about 52 = .ok (.getfield 71, 3) := by decide +kernel
theorem dX4_about_55 : decode cX4_about 55 = .ok (.ireturn, 1) := by decide +kernel
theorem dX4_about_56 : decode cX4_about 56 = .ok (.aload_n 0, 1) := by decide +kernel
theorem dX4_about_57 : decode cX4_about 57 = .ok (.getfield 19, 3) := by decide +kernel
theorem dX4_about_60 : decode cX4_about 60 = .ok (.getfield 65, 3) := by decide +kernel
theorem dX4_about_63 : decode cX4_about 63 = .ok (.ireturn, 1) := by decide +kernel
theorem dX4_about_64 : decode cX4_about 64 = .ok (.aload_n 0, 1) := by decide +kernel
theorem dX4_about_65 : decode cX4_about 65 = .ok (.getfield 19, 3) := by decide +kernel
theorem dX4_about_68 : decode cX4_about 68 = .ok (.getfield 68, 3) := by decide +kernel
theorem dX4_about_71 : decode cX4_about 71 = .ok (.ireturn, 1) := by decide +kernel
theorem dX4_about_72 : decode cX4_about 72 = .ok (.aload_n 0, 1) := by decide +kernel
theorem dX4_about_73 : decode cX4_about 73 = .ok (.getfield 26, 3) := by decide +kernel
theorem dX4_about_76 : decode cX4_about 76 = .ok (.getfield 74, 3) := by decide +kernel
theorem dX4_about_79 : decode cX4_about 79 = .ok (.ireturn, 1) := by decide +kernel
theorem dX4_about_80 : decode cX4_about 80 = .ok (.aload_n 0, 1) := by decide +kernel
theorem dX4_about_81 : decode cX4_about 81 = .ok (.getfield 26, 3) := by decide +kernel
theorem dX4_about_84 : decode cX4_about 84 = .ok (.getfield 77, 3) := by decide +kernel
theorem dX4_about_87 : decode cX4_about 87 = .ok (.ireturn, 1) := by decide +kernel
theorem dX4_about_88 : decode cX4_about 88 = .ok (.aload_n 0, 1) := by decide +kernel
theorem dX4_about_89 : decode cX4_about 89 = .ok (.getfield 33, 3) := by decide +kernel
theorem dX4_about_92 : decode cX4_about 92 = .ok (.getfield 80, 3) := by decide +kernel
theorem dX4_about_95 : decode cX4_about 95 = .ok (.ireturn, 1) := by decide +kernel
theorem dX4_about_96 : decode cX4_about 96 = .ok (.aload_n 0, 1) := by decide +kernel
theorem dX4_about_97 : decode cX4_about 97 = .ok (.getfield 83, 3) := by decide +kernel
theorem dX4_about_100 : decode cX4_about 100 = .ok (.ireturn, 1) := by decide +kernel
theorem dX4_about_101 : decode cX4_about 101 = .ok (.aload_n 0, 1) := by decide +kernel
theorem dX4_about_102 : decode cX4_about 102 = .ok (.getfield 10, 3) := by decide +kernel
theorem dX4_about_105 : decode cX4_about 105 = .ok (.getfield 48, 3) := by decide +kernel
theorem dX4_about_108 : decode cX4_about 108 = .ok (.ireturn, 1) := by decide +kernel
theorem dX4_about_109 : decode cX4_about 109 = .ok (.bipush (-2), 2) := by decide +kernel
theorem dX4_about_111 : decode cX4_about 111 = .ok (.ireturn, 1) := by decide +kernel
set_option maxRecDepth 20000 in
theorem ggX4_legger_X1_hasLegger : GoodIn wsX4_legger wsX1_hasLegger := goodIn_r _ [7, 8, 43, 44, 45, 46, 47] (by decide +kernel) (by decide +kernel)
set_option maxRecDepth 20000 in
theorem gX4_legger_X1_hasLegger : GoodIn wsX4_legger (wsV RX4 86 RX1 yX1_hasLegger wsX1_hasLegger) := goodIn_app (goodIn_of _ (by decide +kernel)) ggX4_legger_X1_hasLegger
set_option maxRecDepth 20000 in
theorem ggX4_legger_X4_isPlace : GoodIn wsX4_legger wsX4_isPlace := goodIn_r _ [12] (by decide +kernel) (by decide +kernel)
set_option maxRecDepth 20000 in
theorem gX4_legger_X4_isPlace : GoodIn wsX4_legger (va_wsS RX4 89 yX4_isPlace wsX4_isPlace) := goodIn_app (goodIn_of _ (by decide +kernel)) ggX4_legger_X4_isPlace
set_option maxRecDepth 20000 in
theorem ggX4_legger_X2_groundAt : GoodIn wsX4_legger wsX2_groundAt := goodIn_r _ [17, 18, 19, 11, 20, 39, 40, 41, 42] (by decide +kernel) (by decide +kernel)
set_option maxRecDepth 20000 in
theorem gX4_legger_X2_groundAt : GoodIn wsX4_legger (wsV RX4 92 RX2 yX2_groundAt wsX2_groundAt) := goodIn_app (goodIn_of _ (by decide +kernel)) ggX4_legger_X2_groundAt
set_option maxRecDepth 20000 in
theorem ggX4_legger_X1_kindOf : GoodIn wsX4_legger wsX1_kindOf := goodIn_r _ [24, 25, 43, 44, 45, 46, 47] (by decide +kernel) (by decide +kernel)
set_option maxRecDepth 20000 in
theorem gX4_legger_X1_kindOf : GoodIn wsX4_legger (wsV RX4 96 RX1 yX1_kindOf wsX1_kindOf) := goodIn_app (goodIn_of _ (by decide +kernel)) ggX4_legger_X1_kindOf
set_option maxRecDepth 20000 in
theorem ggX4_legger_X4_timesTired : GoodIn wsX4_legger wsX4_timesTired := goodIn_r _ [28] (by decide +kernel) (by decide +kernel)
set_option maxRecDepth 20000 in
theorem gX4_legger_X4_timesTired : GoodIn wsX4_legger (va_wsS RX4 103 yX4_timesTired wsX4_timesTired) := goodIn_app (goodIn_of _ (by decide +kernel)) ggX4_legger_X4_timesTired
theorem dX4_legger_0 : decode cX4_legger 0 = .ok (.aload_n 0, 1) := by decide +kernel
theorem dX4_legger_1 : decode cX4_legger 1 = .ok (.getfield 19, 3) := by decide +kernel
theorem dX4_legger_4 : decode cX4_legger 4 = .ok (.iload_n 1, 1) := by decide +kernel
theorem dX4_legger_5 : decode cX4_legger 5 = .ok (.invokevirtual 86, 3) := by decide +kernel
theorem dX4_legger_8 : decode cX4_legger 8 = .ok (.ifCond .ne 5, 3) := by decide +kernel
theorem dX4_legger_11 : decode cX4_legger 11 = .ok (.iconst (-1), 1) := by decide +kernel
theorem dX4_legger_12 : decode cX4_legger 12 = .ok (.ireturn, 1) := by decide +kernel
theorem dX4_legger_13 : decode cX4_legger 13 = .ok (.iload_n 2, 1) := by decide +kernel
theorem dX4_legger_14 : decode cX4_legger 14 = .ok (.invokestatic 89, 3) := by decide +kernel
theorem dX4_legger_17 : decode cX4_legger 17 = .ok (.ifCond .eq 13, 3) := by decide +kernel
theorem dX4_legger_20 : decode cX4_legger 20 = .ok (.aload_n 0, 1) := by decide +kernel
theorem dX4_legger_21 : decode cX4_legger 21 = .ok (.getfield 26, 3) := by decide +kernel
theorem dX4_legger_24 : decode cX4_legger 24 = .ok (.iload_n 1, 1) := by decide +kernel
theorem dX4_legger_25 : decode cX4_legger 25 = .ok (.iload_n 2, 1) := by decide +kernel
theorem dX4_legger_26 : decode cX4_legger 26 = .ok (.invokevirtual 92, 3) := by decide +kernel
theorem dX4_legger_29 : decode cX4_legger 29 = .ok (.ireturn, 1) := by decide +kernel
theorem dX4_legger_30 : decode cX4_legger 30 = .ok (.iload_n 2, 1) := by decide +kernel
theorem dX4_legger_31 : decode cX4_legger 31 = .ok (.lookupswitch 46 #[(4, 25), (5, 34)], 25) := by decide +kernel
theorem dX4_legger_56 : decode cX4_legger 56 = .ok (.aload_n 0, 1) := by decide +kernel
theorem dX4_legger_57 : decode cX4_legger 57 = .ok (.getfield 19, 3) := by decide +kernel
theorem dX4_legger_60 : decode cX4_legger 60 = .ok (.iload_n 1, 1) := by decide +kernel
theorem dX4_legger_61 : decode cX4_legger 61 = .ok (.invokevirtual 96, 3) := by decide +kernel
theorem dX4_legger_64 : decode cX4_legger 64 = .ok (.ireturn, 1) := by decide +kernel
theorem dX4_legger_65 : decode cX4_legger 65 = .ok (.aload_n 0, 1) := by decide +kernel
theorem dX4_legger_66 : decode cX4_legger 66 = .ok (.getfield 26, 3) := by decide +kernel
theorem dX4_legger_69 : decode cX4_legger 69 = .ok (.getfield 100, 3) := by decide +kernel
theorem dX4_legger_72 : decode cX4_legger 72 = .ok (.iload_n 1, 1) := by decide +kernel
theorem dX4_legger_73 : decode cX4_legger 73 = .ok (.invokestatic 103, 3) := by decide +kernel
theorem dX4_legger_76 : decode cX4_legger 76 = .ok (.ireturn, 1) := by decide +kernel
theorem dX4_legger_77 : decode cX4_legger 77 = .ok (.bipush (-2), 2) := by decide +kernel
theorem dX4_legger_79 : decode cX4_legger 79 = .ok (.ireturn, 1) := by decide +kernel
set_option maxRecDepth 20000 in
theorem ggX4_load_X1_hasBoat : GoodIn wsX4_load wsX1_hasBoat := goodIn_r _ [6, 7, 23, 24, 25, 26, 27] (by decide +kernel) (by decide +kernel)
set_option maxRecDepth 20000 in
theorem gX4_load_X1_hasBoat : GoodIn wsX4_load (wsV RX4 106 RX1 yX1_hasBoat wsX1_hasBoat) := goodIn_app (goodIn_of _ (by decide +kernel)) ggX4_load_X1_hasBoat
set_option maxRecDepth 20000 in
theorem ggX4_load_X1_loadOf : GoodIn wsX4_load wsX1_loadOf := goodIn_r _ [11, 12, 23, 24, 25, 26, 27] (by decide +kernel) (by decide +kernel)
set_option maxRecDepth 20000 in
theorem gX4_load_X1_loadOf : GoodIn wsX4_load (wsV RX4 109 RX1 yX1_loadOf wsX1_loadOf) := goodIn_app (goodIn_of _ (by decide +kernel)) ggX4_load_X1_loadOf
theorem dX4_load_0 : decode cX4_load 0 = .ok (.aload_n 0, 1) := by decide +kernel
theorem dX4_load_1 : decode cX4_load 1 = .ok (.getfield 19, 3) := by decide +kernel
theorem dX4_load_4 : decode cX4_load 4 = .ok (.iload_n 1, 1) := by decide +kernel
theorem dX4_load_5 : decode cX4_load 5 = .ok (.invokevirtual 106, 3) := by decide +kernel
theorem dX4_load_8 : decode cX4_load 8 = .ok (.ifCond .eq 14, 3) := by decide +kernel
theorem dX4_load_11 : decode cX4_load 11 = .ok (.aload_n 0, 1) := by decide +kernel
theorem dX4_load_12 : decode cX4_load 12 = .ok (.getfield 19, 3) := by decide +kernel
theorem dX4_load_15 : decode cX4_load 15 = .ok (.iload_n 1, 1) := by decide +kernel
theorem dX4_load_16 : decode cX4_load 16 = .ok (.invokevirtual 109, 3) := by decide +kernel
theorem dX4_load_19 : decode cX4_load 19 = .ok (.goto 4, 3) := by decide +kernel
theorem dX4_load_22 : decode cX4_load 22 = .ok (.iconst (-1), 1) := by decide +kernel
theorem dX4_load_23 : decode cX4_load 23 = .ok (.ireturn, 1) := by decide +kernel
set_option maxRecDepth 20000 in
theorem ggX4_leg_X4_pairRefusal : GoodIn wsX4_leg wsX4_pairRefusal := goodIn_r _ [8, 3, 9, 10, 11, 12, 13, 14, 15, 16, 17, 18, 19, 83, 84, 85, 86, 87, 88, 89, 90, 91, 92, 97, 98, 99, 100, 101] (by decide +kernel) (by decide +kernel)
set_option maxRecDepth 20000 in
theorem gX4_leg_X4_pairRefusal : GoodIn wsX4_leg (wsV RX4 112 RX4 yX4_pairRefusal wsX4_pairRefusal) := goodIn_app (goodIn_of _ (by decide +kernel)) ggX4_leg_X4_pairRefusal
set_option maxRecDepth 20000 in
theorem ggX4_leg_X4_isIn : GoodIn wsX4_leg wsX4_isIn := goodIn_r _ [22] (by decide +kernel) (by decide +kernel)
set_option maxRecDepth 20000 in
theorem gX4_leg_X4_isIn : GoodIn wsX4_leg (va_wsS RX4 116 yX4_isIn wsX4_isIn) := goodIn_app (goodIn_of _ (by decide +kernel)) ggX4_leg_X4_isIn
set_option maxRecDepth 20000 in
theorem ggX4_leg_X0_remember : GoodIn wsX4_leg wsX0_remember := goodIn_r _ [27, 28, 29, 30, 31, 32, 33, 34, 35, 36, 37, 38, 39, 102, 103, 104, 93, 94, 95, 96] (by decide +kernel) (by decide +kernel)
set_option maxRecDepth 20000 in
theorem gX4_leg_X0_remember : GoodIn wsX4_leg (wsV RX4 120 RX0 yX0_remember wsX0_remember) := goodIn_app (goodIn_of _ (by decide +kernel)) ggX4_leg_X0_remember
set_option maxRecDepth 20000 in
theorem ggX4_leg_X4_pairMinutes : GoodIn wsX4_leg wsX4_pairMinutes := goodIn_r _ [43, 3, 1, 44, 45, 46, 47, 48, 49, 50, 34, 51, 36, 52, 7, 53, 54, 55, 56, 57, 58, 59, 60, 61, 62, 63, 12, 64, 65, 66, 67, 68, 69, 70, 71, 83, 84, 85, 86, 87, 88, 89, 90, 91, 92, 97, 98, 99, 100, 101, 93, 94, 95, 96] (by decide +kernel) (by decide +kernel)
set_option maxRecDepth 20000 in
theorem gX4_leg_X4_pairMinutes : GoodIn wsX4_leg (wsV RX4 124 RX4 yX4_pairMinutes wsX4_pairMinutes) := goodIn_app (goodIn_of _ (by decide +kernel)) ggX4_leg_X4_pairMinutes
set_option maxRecDepth 20000 in
theorem ggX4_leg_X1_loadOf : GoodIn wsX4_leg wsX1_loadOf := goodIn_r _ [75, 76, 97, 98, 99, 100, 101] (by decide +kernel) (by decide +kernel)
set_option maxRecDepth 20000 in
theorem gX4_leg_X1_loadOf : GoodIn wsX4_leg (wsV RX4 109 RX1 yX1_loadOf wsX1_loadOf) := goodIn_app (goodIn_of _ (by decide +kernel)) ggX4_leg_X1_loadOf
set_option maxRecDepth 20000 in
theorem ggX4_leg_X4_tireBoth : GoodIn wsX4_leg wsX4_tireBoth := goodIn_r _ [79, 80, 81, 7, 82, 66, 67, 68] (by decide +kernel) (by decide +kernel)
set_option maxRecDepth 20000 in
theorem gX4_leg_X4_tireBoth : GoodIn wsX4_leg (va_wsS RX4 128 yX4_tireBoth wsX4_tireBoth) := goodIn_app (goodIn_of _ (by decide +kernel)) ggX4_leg_X4_tireBoth
theorem dX4_leg_0 : decode cX4_leg 0 = .ok (.aload_n 0, 1) := by decide +kernel
theorem dX4_leg_1 : decode cX4_leg 1 = .ok (.iload_n 1, 1) := by decide +kernel
theorem dX4_leg_2 : decode cX4_leg 2 = .ok (.iload_n 2, 1) := by decide +kernel
theorem dX4_leg_3 : decode cX4_leg 3 = .ok (.iload_n 3, 1) := by decide +kernel
theorem dX4_leg_4 : decode cX4_leg 4 = .ok (.invokevirtual 112, 3) := by decide +kernel
theorem dX4_leg_7 : decode cX4_leg 7 = .ok (.istore 4, 2) := by decide +kernel
theorem dX4_leg_9 : decode cX4_leg 9 = .ok (.iload 4, 2) := by decide +kernel
theorem dX4_leg_11 : decode cX4_leg 11 = .ok (.ifCond .eq 6, 3) := by decide +kernel
theorem dX4_leg_14 : decode cX4_leg 14 = .ok (.iload 4, 2) := by decide +kernel
theorem dX4_leg_16 : decode cX4_leg 16 = .ok (.ireturn, 1) := by decide +kernel
theorem dX4_leg_17 : decode cX4_leg 17 = .ok (.aload_n 0, 1) := by decide +kernel
theorem dX4_leg_18 : decode cX4_leg 18 = .ok (.getfield 26, 3) := by decide +kernel
theorem dX4_leg_21 : decode cX4_leg 21 = .ok (.getfield 74, 3) := by decide +kernel
theorem dX4_leg_24 : decode cX4_leg 24 = .ok (.iload_n 1, 1) := by decide +kernel
theorem dX4_leg_25 : decode cX4_leg 25 = .ok (.invokestatic 116, 3) := by decide +kernel
theorem dX4_leg_28 : decode cX4_leg 28 = .ok (.ifCond .eq 6, 3) := by decide +kernel
theorem dX4_leg_31 : decode cX4_leg 31 = .ok (.bipush (-3), 2) := by decide +kernel
theorem dX4_leg_33 : decode cX4_leg 33 = .ok (.ireturn, 1) := by decide +kernel
theorem dX4_leg_34 : decode cX4_leg 34 = .ok (.aload_n 0, 1) := by decide +kernel
theorem dX4_leg_35 : decode cX4_leg 35 = .ok (.getfield 33, 3) := by decide +kernel
theorem dX4_leg_38 : decode cX4_leg 38 = .ok (.aload_n 0, 1) := by decide +kernel
theorem dX4_leg_39 : decode cX4_leg 39 = .ok (.getfield 26, 3) := by decide +kernel
theorem dX4_leg_42 : decode cX4_leg 42 = .ok (.invokevirtual 120, 3) := by decide +kernel
theorem dX4_leg_45 : decode cX4_leg 45 = .ok (.aload_n 0, 1) := by decide +kernel
theorem dX4_leg_46 : decode cX4_leg 46 = .ok (.getfield 26, 3) := by decide +kernel
theorem dX4_leg_49 : decode cX4_leg 49 = .ok (.dup, 1) := by decide +kernel
theorem dX4_leg_50 : decode cX4_leg 50 = .ok (.getfield 77, 3) := by decide +kernel
theorem dX4_leg_53 : decode cX4_leg 53 = .ok (.aload_n 0, 1) := by decide +kernel
theorem dX4_leg_54 : decode cX4_leg 54 = .ok (.iload_n 2, 1) := by decide +kernel
theorem dX4_leg_55 : decode cX4_leg 55 = .ok (.iload_n 3, 1) := by decide +kernel
theorem dX4_leg_56 : decode cX4_leg 56 = .ok (.iconst 0, 1) := by decide +kernel
theorem dX4_leg_57 : decode cX4_leg 57 = .ok (.iconst 0, 1) := by decide +kernel
theorem dX4_leg_58 : decode cX4_leg 58 = .ok (.aload_n 0, 1) := by decide +kernel
theorem dX4_leg_59 : decode cX4_leg 59 = .ok (.getfield 26, 3) := by decide +kernel
theorem dX4_leg_62 : decode cX4_leg 62 = .ok (.getfield 100, 3) := by decide +kernel
theorem dX4_leg_65 : decode cX4_leg 65 = .ok (.invokevirtual 124, 3) := by decide +kernel
theorem dX4_leg_68 : decode cX4_leg 68 = .ok (.aload_n 0, 1) := by decide +kernel
theorem dX4_leg_69 : decode cX4_leg 69 = .ok (.getfield 19, 3) := by decide +kernel
theorem dX4_leg_72 : decode cX4_leg 72 = .ok (.iload_n 1, 1) := by decide +kernel
theorem dX4_leg_73 : decode cX4_leg 73 = .ok (.invokevirtual 109, 3) := by decide +kernel
theorem dX4_leg_76 : decode cX4_leg 76 = .ok (.iadd, 1) := by decide +kernel
theorem dX4_leg_77 : decode cX4_leg 77 = .ok (.iadd, 1) := by decide +kernel
theorem dX4_leg_78 : decode cX4_leg 78 = .ok (.putfield 77, 3) := by decide +kernel
theorem dX4_leg_81 : decode cX4_leg 81 = .ok (.aload_n 0, 1) := by decide +kernel
theorem dX4_leg_82 : decode cX4_leg 82 = .ok (.getfield 26, 3) := by decide +kernel
theorem dX4_leg_85 : decode cX4_leg 85 = .ok (.dup, 1) := by decide +kernel
theorem dX4_leg_86 : decode cX4_leg 86 = .ok (.getfield 74, 3) := by decide +kernel
theorem dX4_leg_89 : decode cX4_leg 89 = .ok (.iconst 1, 1) := by decide +kernel
theorem dX4_leg_90 : decode cX4_leg 90 = .ok (.iload_n 1, 1) := by decide +kernel
theorem dX4_leg_91 : decode cX4_leg 91 = .ok (.ishl, 1) := by decide +kernel
theorem dX4_leg_92 : decode cX4_leg 92 = .ok (.ior, 1) := by decide +kernel
theorem dX4_leg_93 : decode cX4_leg 93 = .ok (.putfield 74, 3) := by decide +kernel
theorem dX4_leg_96 : decode cX4_leg 96 = .ok (.aload_n 0, 1) := by decide +kernel
theorem dX4_leg_97 : decode cX4_leg 97 = .ok (.getfield 26, 3) := by decide +kernel
theorem dX4_leg_100 : decode cX4_leg 100 = .ok (.aload_n 0, 1) := by decide +kernel
theorem dX4_leg_101 : decode cX4_leg 101 = .ok (.getfield 26, 3) := by decide +kernel
theorem dX4_leg_104 : decode cX4_leg 104 = .ok (.getfield 100, 3) := by decide +kernel
theorem dX4_leg_107 : decode cX4_leg 107 = .ok (.iload_n 2, 1) := by decide +kernel
theorem dX4_leg_108 : decode cX4_leg 108 = .ok (.iload_n 3, 1) := by decide +kernel
theorem dX4_leg_109 : decode cX4_leg 109 = .ok (.invokestatic 128, 3) := by decide +kernel
theorem dX4_leg_112 : decode cX4_leg 112 = .ok (.putfield 100, 3) := by decide +kernel
theorem dX4_leg_115 : decode cX4_leg 115 = .ok (.aload_n 0, 1) := by decide +kernel
theorem dX4_leg_116 : decode cX4_leg 116 = .ok (.getfield 26, 3) := by decide +kernel
theorem dX4_leg_119 : decode cX4_leg 119 = .ok (.getfield 77, 3) := by decide +kernel
theorem dX4_leg_122 : decode cX4_leg 122 = .ok (.ireturn, 1) := by decide +kernel
set_option maxRecDepth 20000 in
theorem ggX4_rest_X1_hasLegger : GoodIn wsX4_rest wsX1_hasLegger := goodIn_r _ [8, 9, 45, 46, 47, 48, 49] (by decide +kernel) (by decide +kernel)
set_option maxRecDepth 20000 in
theorem gX4_rest_X1_hasLegger : GoodIn wsX4_rest (wsV RX4 86 RX1 yX1_hasLegger wsX1_hasLegger) := goodIn_app (goodIn_of _ (by decide +kernel)) ggX4_rest_X1_hasLegger
set_option maxRecDepth 20000 in
theorem ggX4_rest_X4_timesTired : GoodIn wsX4_rest wsX4_timesTired := goodIn_r _ [13] (by decide +kernel) (by decide +kernel)
set_option maxRecDepth 20000 in
theorem gX4_rest_X4_timesTired : GoodIn wsX4_rest (va_wsS RX4 103 yX4_timesTired wsX4_timesTired) := goodIn_app (goodIn_of _ (by decide +kernel)) ggX4_rest_X4_timesTired
set_option maxRecDepth 20000 in
theorem ggX4_rest_X0_remember : GoodIn wsX4_rest wsX0_remember := goodIn_r _ [18, 19, 20, 21, 22, 23, 24, 25, 26, 27, 28, 29, 30, 50, 51, 52, 41, 42, 43, 44] (by decide +kernel) (by decide +kernel)
set_option maxRecDepth 20000 in
theorem gX4_rest_X0_remember : GoodIn wsX4_rest (wsV RX4 120 RX0 yX0_remember wsX0_remember) := goodIn_app (goodIn_of _ (by decide +kernel)) ggX4_rest_X0_remember
theorem dX4_rest_0 : decode cX4_rest 0 = .ok (.aload_n 0, 1) := by decide +kernel
theorem dX4_rest_1 : decode cX4_rest 1 = .ok (.getfield 19, 3) := by decide +kernel
theorem dX4_rest_4 : decode cX4_rest 4 = .ok (.iload_n 1, 1) := by decide +kernel
theorem dX4_rest_5 : decode cX4_rest 5 = .ok (.invokevirtual 86, 3) := by decide +kernel
theorem dX4_rest_8 : decode cX4_rest 8 = .ok (.ifCond .ne 5, 3) := by decide +kernel
theorem dX4_rest_11 : decode cX4_rest 11 = .ok (.iconst (-1), 1) := by decide +kernel
theorem dX4_rest_12 : decode cX4_rest 12 = .ok (.ireturn, 1) := by decide +kernel
theorem dX4_rest_13 : decode cX4_rest 13 = .ok (.aload_n 0, 1) := by decide +kernel
theorem dX4_rest_14 : decode cX4_rest 14 = .ok (.getfield 26, 3) := by decide +kernel
theorem dX4_rest_17 : decode cX4_rest 17 = .ok (.getfield 100, 3) := by decide +kernel
theorem dX4_rest_20 : decode cX4_rest 20 = .ok (.iload_n 1, 1) := by decide +kernel
theorem dX4_rest_21 : decode cX4_rest 21 = .ok (.invokestatic 103, 3) := by decide +kernel
theorem dX4_rest_24 : decode cX4_rest 24 = .ok (.ifCond .ne 6, 3) := by decide +kernel
theorem dX4_rest_27 : decode cX4_rest 27 = .ok (.bipush (-3), 2) := by decide +kernel
theorem dX4_rest_29 : decode cX4_rest 29 = .ok (.ireturn, 1) := by decide +kernel
theorem dX4_rest_30 : decode cX4_rest 30 = .ok (.aload_n 0, 1) := by decide +kernel
theorem dX4_rest_31 : decode cX4_rest 31 = .ok (.getfield 33, 3) := by decide +kernel
theorem dX4_rest_34 : decode cX4_rest 34 = .ok (.aload_n 0, 1) := by decide +kernel
theorem dX4_rest_35 : decode cX4_rest 35 = .ok (.getfield 26, 3) := by decide +kernel
theorem dX4_rest_38 : decode cX4_rest 38 = .ok (.invokevirtual 120, 3) := by decide +kernel
theorem dX4_rest_41 : decode cX4_rest 41 = .ok (.aload_n 0, 1) := by decide +kernel
theorem dX4_rest_42 : decode cX4_rest 42 = .ok (.getfield 26, 3) := by decide +kernel
theorem dX4_rest_45 : decode cX4_rest 45 = .ok (.dup, 1) := by decide +kernel
theorem dX4_rest_46 : decode cX4_rest 46 = .ok (.getfield 100, 3) := by decide +kernel
theorem dX4_rest_49 : decode cX4_rest 49 = .ok (.iconst 3, 1) := by decide +kernel
theorem dX4_rest_50 : decode cX4_rest 50 = .ok (.iconst 2, 1) := by decide +kernel
theorem dX4_rest_51 : decode cX4_rest 51 = .ok (.iload_n 1, 1) := by decide +kernel
theorem dX4_rest_52 : decode cX4_rest 52 = .ok (.imul, 1) := by decide +kernel
theorem dX4_rest_53 : decode cX4_rest 53 = .ok (.ishl, 1) := by decide +kernel
theorem dX4_rest_54 : decode cX4_rest 54 = .ok (.iconst (-1), 1) := by decide +kernel
theorem dX4_rest_55 : decode cX4_rest 55 = .ok (.ixor, 1) := by decide +kernel
theorem dX4_rest_56 : decode cX4_rest 56 = .ok (.iand, 1) := by decide +kernel
theorem dX4_rest_57 : decode cX4_rest 57 = .ok (.putfield 100, 3) := by decide +kernel
theorem dX4_rest_60 : decode cX4_rest 60 = .ok (.aload_n 0, 1) := by decide +kernel
theorem dX4_rest_61 : decode cX4_rest 61 = .ok (.getfield 26, 3) := by decide +kernel
theorem dX4_rest_64 : decode cX4_rest 64 = .ok (.dup, 1) := by decide +kernel
theorem dX4_rest_65 : decode cX4_rest 65 = .ok (.getfield 77, 3) := by decide +kernel
theorem dX4_rest_68 : decode cX4_rest 68 = .ok (.iconst 5, 1) := by decide +kernel
theorem dX4_rest_69 : decode cX4_rest 69 = .ok (.iadd, 1) := by decide +kernel
theorem dX4_rest_70 : decode cX4_rest 70 = .ok (.putfield 77, 3) := by decide +kernel
theorem dX4_rest_73 : decode cX4_rest 73 = .ok (.aload_n 0, 1) := by decide +kernel
theorem dX4_rest_74 : decode cX4_rest 74 = .ok (.getfield 26, 3) := by decide +kernel
theorem dX4_rest_77 : decode cX4_rest 77 = .ok (.getfield 77, 3) := by decide +kernel
theorem dX4_rest_80 : decode cX4_rest 80 = .ok (.ireturn, 1) := by decide +kernel
set_option maxRecDepth 20000 in
theorem ggX4_wet_X4_placeRefusal : GoodIn wsX4_wet wsX4_placeRefusal := goodIn_r _ [7, 8, 9, 10, 11, 12, 13, 14, 15, 16, 6, 17, 45, 46, 47, 48, 49, 50, 51, 52, 53, 54, 55, 56, 57, 58, 59] (by decide +kernel) (by decide +kernel)
set_option maxRecDepth 20000 in
theorem gX4_wet_X4_placeRefusal : GoodIn wsX4_wet (wsV RX4 131 RX4 yX4_placeRefusal wsX4_placeRefusal) := goodIn_app (goodIn_of _ (by decide +kernel)) ggX4_wet_X4_placeRefusal
set_option maxRecDepth 20000 in
theorem ggX4_wet_X2_groundAt : GoodIn wsX4_wet wsX2_groundAt := goodIn_r _ [22, 23, 24, 6, 25, 60, 61, 62, 63] (by decide +kernel) (by decide +kernel)
set_option maxRecDepth 20000 in
theorem gX4_wet_X2_groundAt : GoodIn wsX4_wet (wsV RX4 92 RX2 yX2_groundAt wsX2_groundAt) := goodIn_app (goodIn_of _ (by decide +kernel)) ggX4_wet_X2_groundAt
set_option maxRecDepth 20000 in
theorem ggX4_wet_X0_remember : GoodIn wsX4_wet wsX0_remember := goodIn_r _ [30, 31, 32, 33, 34, 35, 36, 21, 37, 23, 38, 39, 40, 64, 65, 66, 60, 61, 62, 63] (by decide +kernel) (by decide +kernel)
set_option maxRecDepth 20000 in
theorem gX4_wet_X0_remember : GoodIn wsX4_wet (wsV RX4 120 RX0 yX0_remember wsX0_remember) := goodIn_app (goodIn_of _ (by decide +kernel)) ggX4_wet_X0_remember
set_option maxRecDepth 20000 in
theorem ggX4_wet_X2_cover : GoodIn wsX4_wet wsX2_cover := goodIn_r _ [44, 23, 60, 61, 62, 63] (by decide +kernel) (by decide +kernel)
set_option maxRecDepth 20000 in
theorem gX4_wet_X2_cover : GoodIn wsX4_wet (wsV RX4 134 RX2 yX2_cover wsX2_cover) := goodIn_app (goodIn_of _ (by decide +kernel)) ggX4_wet_X2_cover
theorem dX4_wet_0 : decode cX4_wet 0 = .ok (.aload_n 0, 1) := by decide +kernel
theorem dX4_wet_1 : decode cX4_wet 1 = .ok (.iload_n 1, 1) := by decide +kernel
theorem dX4_wet_2 : decode cX4_wet 2 = .ok (.iload_n 2, 1) := by decide +kernel
theorem dX4_wet_3 : decode cX4_wet 3 = .ok (.invokevirtual 131, 3) := by decide +kernel
theorem dX4_wet_6 : decode cX4_wet 6 = .ok (.istore_n 3, 1) := by decide +kernel
theorem dX4_wet_7 : decode cX4_wet 7 = .ok (.iload_n 3, 1) := by decide +kernel
theorem dX4_wet_8 : decode cX4_wet 8 = .ok (.ifCond .eq 5, 3) := by decide +kernel
theorem dX4_wet_11 : decode cX4_wet 11 = .ok (.iload_n 3, 1) := by decide +kernel
theorem dX4_wet_12 : decode cX4_wet 12 = .ok (.ireturn, 1) := by decide +kernel
theorem dX4_wet_13 : decode cX4_wet 13 = .ok (.aload_n 0, 1) := by decide +kernel
theorem dX4_wet_14 : decode cX4_wet 14 = .ok (.getfield 26, 3) := by decide +kernel
theorem dX4_wet_17 : decode cX4_wet 17 = .ok (.iload_n 1, 1) := by decide +kernel
theorem dX4_wet_18 : decode cX4_wet 18 = .ok (.iload_n 2, 1) := by decide +kernel
theorem dX4_wet_19 : decode cX4_wet 19 = .ok (.invokevirtual 92, 3) := by decide +kernel
theorem dX4_wet_22 : decode cX4_wet 22 = .ok (.istore 4, 2) := by decide +kernel
theorem dX4_wet_24 : decode cX4_wet 24 = .ok (.iload 4, 2) := by decide +kernel
theorem dX4_wet_26 : decode cX4_wet 26 = .ok (.iconst 2, 1) := by decide +kernel
theorem dX4_wet_27 : decode cX4_wet 27 = .ok (.if_icmp .ne 6, 3) := by decide +kernel
theorem dX4_wet_30 : decode cX4_wet 30 = .ok (.bipush (-3), 2) := by decide +kernel
theorem dX4_wet_32 : decode cX4_wet 32 = .ok (.ireturn, 1) := by decide +kernel
theorem dX4_wet_33 : decode cX4_wet 33 = .ok (.aload_n 0, 1) := by decide +kernel
theorem dX4_wet_34 : decode cX4_wet 34 = .ok (.getfield 33, 3) := by decide +kernel
theorem dX4_wet_37 : decode cX4_wet 37 = .ok (.aload_n 0, 1) := by decide +kernel
theorem dX4_wet_38 : decode cX4_wet 38 = .ok (.getfield 26, 3) := by decide +kernel
theorem dX4_wet_41 : decode cX4_wet 41 = .ok (.invokevirtual 120, 3) := by decide +kernel
theorem dX4_wet_44 : decode cX4_wet 44 = .ok (.aload_n 0, 1) := by decide +kernel
theorem dX4_wet_45 : decode cX4_wet 45 = .ok (.getfield 26, 3) := by decide +kernel
theorem dX4_wet_48 : decode cX4_wet 48 = .ok (.iload_n 1, 1) := by decide +kernel
theorem dX4_wet_49 : decode cX4_wet 49 = .ok (.iload_n 2, 1) := by decide +kernel
theorem dX4_wet_50 : decode cX4_wet 50 = .ok (.iconst 2, 1) := by decide +kernel
theorem dX4_wet_51 : decode cX4_wet 51 = .ok (.invokevirtual 134, 3) := by decide +kernel
theorem dX4_wet_54 : decode cX4_wet 54 = .ok (.iload 4, 2) := by decide +kernel
theorem dX4_wet_56 : decode cX4_wet 56 = .ok (.ireturn, 1) := by decide +kernel
set_option maxRecDepth 20000 in
theorem ggX4_dry_X4_placeRefusal : GoodIn wsX4_dry wsX4_placeRefusal := goodIn_r _ [7, 8, 9, 10, 11, 12, 13, 14, 15, 16, 6, 17, 50, 51, 52, 53, 54, 55, 56, 57, 58, 59, 60, 61, 62, 63, 64] (by decide +kernel) (by decide +kernel)
set_option maxRecDepth 20000 in
theorem gX4_dry_X4_placeRefusal : GoodIn wsX4_dry (wsV RX4 131 RX4 yX4_placeRefusal wsX4_placeRefusal) := goodIn_app (goodIn_of _ (by decide +kernel)) ggX4_dry_X4_placeRefusal
set_option maxRecDepth 20000 in
theorem ggX4_dry_X2_groundAt : GoodIn wsX4_dry wsX2_groundAt := goodIn_r _ [22, 23, 24, 6, 25, 65, 66, 67, 68] (by decide +kernel) (by decide +kernel)
set_option maxRecDepth 20000 in
theorem gX4_dry_X2_groundAt : GoodIn wsX4_dry (wsV RX4 92 RX2 yX2_groundAt wsX2_groundAt) := goodIn_app (goodIn_of _ (by decide +kernel)) ggX4_dry_X2_groundAt
set_option maxRecDepth 20000 in
theorem ggX4_dry_X0_remember : GoodIn wsX4_dry wsX0_remember := goodIn_r _ [30, 31, 32, 33, 34, 35, 36, 21, 37, 23, 38, 39, 40, 69, 70, 71, 65, 66, 67, 68] (by decide +kernel) (by decide +kernel)
set_option maxRecDepth 20000 in
theorem gX4_dry_X0_remember : GoodIn wsX4_dry (wsV RX4 120 RX0 yX0_remember wsX0_remember) := goodIn_app (goodIn_of _ (by decide +kernel)) ggX4_dry_X0_remember
set_option maxRecDepth 20000 in
theorem ggX4_dry_X2_cover : GoodIn wsX4_dry wsX2_cover := goodIn_r _ [44, 23, 65, 66, 67, 68] (by decide +kernel) (by decide +kernel)
set_option maxRecDepth 20000 in
theorem gX4_dry_X2_cover : GoodIn wsX4_dry (wsV RX4 134 RX2 yX2_cover wsX2_cover) := goodIn_app (goodIn_of _ (by decide +kernel)) ggX4_dry_X2_cover
set_option maxRecDepth 20000 in
theorem ggX4_dry_X2_wetPlaces : GoodIn wsX4_dry wsX2_wetPlaces := goodIn_r _ [48, 49, 19, 20, 21, 22, 23, 24, 6, 25, 65, 66, 67, 68] (by decide +kernel) (by decide +kernel)
set_option maxRecDepth 20000 in
theorem gX4_dry_X2_wetPlaces : GoodIn wsX4_dry (wsV RX4 138 RX2 yX2_wetPlaces wsX2_wetPlaces) := goodIn_app (goodIn_of _ (by decide +kernel)) ggX4_dry_X2_wetPlaces
theorem dX4_dry_0 : decode cX4_dry 0 = .ok (.aload_n 0, 1) := by decide +kernel
theorem dX4_dry_1 : decode cX4_dry 1 = .ok (.iload_n 1, 1) := by decide +kernel
theorem dX4_dry_2 : decode cX4_dry 2 = .ok (.iload_n 2, 1) := by decide +kernel
theorem dX4_dry_3 : decode cX4_dry 3 = .ok (.invokevirtual 131, 3) := by decide +kernel
theorem dX4_dry_6 : decode cX4_dry 6 = .ok (.istore_n 3, 1) := by decide +kernel
theorem dX4_dry_7 : decode cX4_dry 7 = .ok (.iload_n 3, 1) := by decide +kernel
theorem dX4_dry_8 : decode cX4_dry 8 = .ok (.ifCond .eq 5, 3) := by decide +kernel
theorem dX4_dry_11 : decode cX4_dry 11 = .ok (.iload_n 3, 1) := by decide +kernel
theorem dX4_dry_12 : decode cX4_dry 12 = .ok (.ireturn, 1) := by decide +kernel
theorem dX4_dry_13 : decode cX4_dry 13 = .ok (.aload_n 0, 1) := by decide +kernel
theorem dX4_dry_14 : decode cX4_dry 14 = .ok (.getfield 26, 3) := by decide +kernel
theorem dX4_dry_17 : decode cX4_dry 17 = .ok (.iload_n 1, 1) := by decide +kernel
theorem dX4_dry_18 : decode cX4_dry 18 = .ok (.iload_n 2, 1) := by decide +kernel
theorem dX4_dry_19 : decode cX4_dry 19 = .ok (.invokevirtual 92, 3) := by decide +kernel
theorem dX4_dry_22 : decode cX4_dry 22 = .ok (.iconst 2, 1) := by decide +kernel
theorem dX4_dry_23 : decode cX4_dry 23 = .ok (.if_icmp .eq 6, 3) := by decide +kernel
theorem dX4_dry_26 : decode cX4_dry 26 = .ok (.bipush (-3), 2) := by decide +kernel
theorem dX4_dry_28 : decode cX4_dry 28 = .ok (.ireturn, 1) := by decide +kernel
theorem dX4_dry_29 : decode cX4_dry 29 = .ok (.aload_n 0, 1) := by decide +kernel
theorem dX4_dry_30 : decode cX4_dry 30 = .ok (.getfield 33, 3) := by decide +kernel
theorem dX4_dry_33 : decode cX4_dry 33 = .ok (.aload_n 0, 1) := by decide +kernel
theorem dX4_dry_34 : decode cX4_dry 34 = .ok (.getfield 26, 3) := by decide +kernel
theorem dX4_dry_37 : decode cX4_dry 37 = .ok (.invokevirtual 120, 3) := by decide +kernel
theorem dX4_dry_40 : decode cX4_dry 40 = .ok (.aload_n 0, 1) := by decide +kernel
theorem dX4_dry_41 : decode cX4_dry 41 = .ok (.getfield 26, 3) := by decide +kernel
theorem dX4_dry_44 : decode cX4_dry 44 = .ok (.iload_n 1, 1) := by decide +kernel
theorem dX4_dry_45 : decode cX4_dry 45 = .ok (.iload_n 2, 1) := by decide +kernel
theorem dX4_dry_46 : decode cX4_dry 46 = .ok (.iconst 0, 1) := by decide +kernel
theorem dX4_dry_47 : decode cX4_dry 47 = .ok (.invokevirtual 134, 3) := by decide +kernel
theorem dX4_dry_50 : decode cX4_dry 50 = .ok (.aload_n 0, 1) := by decide +kernel
theorem dX4_dry_51 : decode cX4_dry 51 = .ok (.getfield 26, 3) := by decide +kernel
theorem dX4_dry_54 : decode cX4_dry 54 = .ok (.iload_n 1, 1) := by decide +kernel
theorem dX4_dry_55 : decode cX4_dry 55 = .ok (.invokevirtual 138, 3) := by decide +kernel
theorem dX4_dry_58 : decode cX4_dry 58 = .ok (.ireturn, 1) := by decide +kernel
set_option maxRecDepth 20000 in
theorem ggX4_undo_X0_takeBack : GoodIn wsX4_undo wsX0_takeBack := goodIn_r _ [7, 8, 9, 10, 11, 12, 13, 14, 15, 16, 17, 18, 19, 30, 31, 32, 33, 34, 35, 36] (by decide +kernel) (by decide +kernel)
set_option maxRecDepth 20000 in
theorem gX4_undo_X0_takeBack : GoodIn wsX4_undo (wsV RX4 141 RX0 yX0_takeBack wsX0_takeBack) := goodIn_app (goodIn_of _ (by decide +kernel)) ggX4_undo_X0_takeBack
theorem dX4_undo_0 : decode cX4_undo 0 = .ok (.aload_n 0, 1) := by decide +kernel
theorem dX4_undo_1 : decode cX4_undo 1 = .ok (.getfield 33, 3) := by decide +kernel
theorem dX4_undo_4 : decode cX4_undo 4 = .ok (.getfield 80, 3) := by decide +kernel
theorem dX4_undo_7 : decode cX4_undo 7 = .ok (.ifCond .ne 6, 3) := by decide +kernel
theorem dX4_undo_10 : decode cX4_undo 10 = .ok (.bipush (-3), 2) := by decide +kernel
theorem dX4_undo_12 : decode cX4_undo 12 = .ok (.ireturn, 1) := by decide +kernel
theorem dX4_undo_13 : decode cX4_undo 13 = .ok (.aload_n 0, 1) := by decide +kernel
theorem dX4_undo_14 : decode cX4_undo 14 = .ok (.getfield 33, 3) := by decide +kernel
theorem dX4_undo_17 : decode cX4_undo 17 = .ok (.aload_n 0, 1) := by decide +kernel
theorem dX4_undo_18 : decode cX4_undo 18 = .ok (.getfield 26, 3) := by decide +kernel
theorem dX4_undo_21 : decode cX4_undo 21 = .ok (.invokevirtual 141, 3) := by decide +kernel
theorem dX4_undo_24 : decode cX4_undo 24 = .ok (.aload_n 0, 1) := by decide +kernel
theorem dX4_undo_25 : decode cX4_undo 25 = .ok (.getfield 33, 3) := by decide +kernel
theorem dX4_undo_28 : decode cX4_undo 28 = .ok (.getfield 80, 3) := by decide +kernel
theorem dX4_undo_31 : decode cX4_undo 31 = .ok (.ireturn, 1) := by decide +kernel
set_option maxRecDepth 20000 in
theorem ggX4_alone_X4_placeRefusal : GoodIn wsX4_alone wsX4_placeRefusal := goodIn_r _ [5, 6, 7, 8, 9, 10, 11, 12, 13, 14, 4, 15, 51, 52, 53, 54, 55, 56, 57, 58, 59, 60, 61, 62, 63, 64, 65] (by decide +kernel) (by decide +kernel)
set_option maxRecDepth 20000 in
theorem gX4_alone_X4_placeRefusal : GoodIn wsX4_alone (wsV RX4 131 RX4 yX4_placeRefusal wsX4_placeRefusal) := goodIn_app (goodIn_of _ (by decide +kernel)) ggX4_alone_X4_placeRefusal
set_option maxRecDepth 20000 in
theorem ggX4_alone_X4_aloneMinutes : GoodIn wsX4_alone wsX4_aloneMinutes := goodIn_r _ [19, 6, 20, 21, 22, 23, 24, 25, 26, 27, 4, 28, 29, 30, 31, 32, 33, 34, 35, 36, 37, 38, 39, 40, 41, 42, 10, 43, 44, 45, 46, 47, 48, 49, 50, 51, 52, 53, 54, 55, 56, 57, 58, 59, 60, 61, 62, 63, 64, 65, 66, 67, 68, 69] (by decide +kernel) (by decide +kernel)
set_option maxRecDepth 20000 in
theorem gX4_alone_X4_aloneMinutes : GoodIn wsX4_alone (wsV RX4 144 RX4 yX4_aloneMinutes wsX4_aloneMinutes) := goodIn_app (goodIn_of _ (by decide +kernel)) ggX4_alone_X4_aloneMinutes
theorem dX4_alone_0 : decode cX4_alone 0 = .ok (.aload_n 0, 1) := by decide +kernel
theorem dX4_alone_1 : decode cX4_alone 1 = .ok (.iload_n 1, 1) := by decide +kernel
theorem dX4_alone_2 : decode cX4_alone 2 = .ok (.iload_n 2, 1) := by decide +kernel
theorem dX4_alone_3 : decode cX4_alone 3 = .ok (.invokevirtual 131, 3) := by decide +kernel
theorem dX4_alone_6 : decode cX4_alone 6 = .ok (.istore_n 3, 1) := by decide +kernel
theorem dX4_alone_7 : decode cX4_alone 7 = .ok (.iload_n 3, 1) := by decide +kernel
theorem dX4_alone_8 : decode cX4_alone 8 = .ok (.ifCond .eq 7, 3) := by decide +kernel
theorem dX4_alone_11 : decode cX4_alone 11 = .ok (.iload_n 3, 1) := by decide +kernel
theorem dX4_alone_12 : decode cX4_alone 12 = .ok (.goto 9, 3) := by decide +kernel
theorem dX4_alone_15 : decode cX4_alone 15 = .ok (.aload_n 0, 1) := by decide +kernel
theorem dX4_alone_16 : decode cX4_alone 16 = .ok (.iload_n 1, 1) := by decide +kernel
theorem dX4_alone_17 : decode cX4_alone 17 = .ok (.iload_n 2, 1) := by decide +kernel
theorem dX4_alone_18 : decode cX4_alone 18 = .ok (.invokevirtual 144, 3) := by decide +kernel
theorem dX4_alone_21 : decode cX4_alone 21 = .ok (.ireturn, 1) := by decide +kernel
set_option maxRecDepth 20000 in
theorem ggX4_time_X4_pairRefusal : GoodIn wsX4_time wsX4_pairRefusal := goodIn_r _ [7, 2, 8, 9, 10, 11, 12, 13, 14, 15, 16, 17, 18, 61, 62, 63, 64, 65, 66, 67, 68, 69, 70, 75, 76, 77, 78, 79] (by decide +kernel) (by decide +kernel)
set_option maxRecDepth 20000 in
theorem gX4_time_X4_pairRefusal : GoodIn wsX4_time (wsV RX4 112 RX4 yX4_pairRefusal wsX4_pairRefusal) := goodIn_app (goodIn_of _ (by decide +kernel)) ggX4_time_X4_pairRefusal
set_option maxRecDepth 20000 in
theorem ggX4_time_X4_isPlace : GoodIn wsX4_time wsX4_isPlace := goodIn_r _ [21] (by decide +kernel) (by decide +kernel)
set_option maxRecDepth 20000 in
theorem gX4_time_X4_isPlace : GoodIn wsX4_time (va_wsS RX4 89 yX4_isPlace wsX4_isPlace) := goodIn_app (goodIn_of _ (by decide +kernel)) ggX4_time_X4_isPlace
set_option maxRecDepth 20000 in
theorem ggX4_time_X4_pairMinutes : GoodIn wsX4_time wsX4_pairMinutes := goodIn_r _ [25, 2, 1, 26, 27, 28, 29, 30, 31, 32, 33, 34, 35, 36, 6, 37, 38, 39, 40, 41, 42, 43, 44, 45, 46, 47, 11, 48, 49, 50, 51, 52, 53, 54, 55, 61, 62, 63, 64, 65, 66, 67, 68, 69, 70, 75, 76, 77, 78, 79, 71, 72, 73, 74] (by decide +kernel) (by decide +kernel)
set_option maxRecDepth 20000 in
theorem gX4_time_X4_pairMinutes : GoodIn wsX4_time (wsV RX4 124 RX4 yX4_pairMinutes wsX4_pairMinutes) := goodIn_app (goodIn_of _ (by decide +kernel)) ggX4_time_X4_pairMinutes
set_option maxRecDepth 20000 in
theorem ggX4_time_X1_loadOf : GoodIn wsX4_time wsX1_loadOf := goodIn_r _ [59, 60, 75, 76, 77, 78, 79] (by decide +kernel) (by decide +kernel)
set_option maxRecDepth 20000 in
theorem gX4_time_X1_loadOf : GoodIn wsX4_time (wsV RX4 109 RX1 yX1_loadOf wsX1_loadOf) := goodIn_app (goodIn_of _ (by decide +kernel)) ggX4_time_X1_loadOf
theorem dX4_time_0 : decode cX4_time 0 = .ok (.aload_n 0, 1) := by decide +kernel
theorem dX4_time_1 : decode cX4_time 1 = .ok (.iload_n 1, 1) := by decide +kernel
theorem dX4_time_2 : decode cX4_time 2 = .ok (.iload_n 2, 1) := by decide +kernel
theorem dX4_time_3 : decode cX4_time 3 = .ok (.iload_n 3, 1) := by decide +kernel
theorem dX4_time_4 : decode cX4_time 4 = .ok (.invokevirtual 112, 3) := by decide +kernel
theorem dX4_time_7 : decode cX4_time 7 = .ok (.istore 6, 2) := by decide +kernel
theorem dX4_time_9 : decode cX4_time 9 = .ok (.iload 6, 2) := by decide +kernel
theorem dX4_time_11 : decode cX4_time 11 = .ok (.ifCond .eq 6, 3) := by decide +kernel
theorem dX4_time_14 : decode cX4_time 14 = .ok (.iload 6, 2) := by decide +kernel
theorem dX4_time_16 : decode cX4_time 16 = .ok (.ireturn, 1) := by decide +kernel
theorem dX4_time_17 : decode cX4_time 17 = .ok (.iload 4, 2) := by decide +kernel
theorem dX4_time_19 : decode cX4_time 19 = .ok (.invokestatic 89, 3) := by decide +kernel
theorem dX4_time_22 : decode cX4_time 22 = .ok (.ifCond .eq 11, 3) := by decide +kernel
theorem dX4_time_25 : decode cX4_time 25 = .ok (.iload 5, 2) := by decide +kernel
theorem dX4_time_27 : decode cX4_time 27 = .ok (.invokestatic 89, 3) := by decide +kernel
theorem dX4_time_30 : decode cX4_time 30 = .ok (.ifCond .ne 6, 3) := by decide +kernel
theorem dX4_time_33 : decode cX4_time 33 = .ok (.bipush (-2), 2) := by decide +kernel
theorem dX4_time_35 : decode cX4_time 35 = .ok (.ireturn, 1) := by decide +kernel
theorem dX4_time_36 : decode cX4_time 36 = .ok (.aload_n 0, 1) := by decide +kernel
theorem dX4_time_37 : decode cX4_time 37 = .ok (.iload_n 2, 1) := by decide +kernel
theorem dX4_time_38 : decode cX4_time 38 = .ok (.iload_n 3, 1) := by decide +kernel
theorem dX4_time_39 : decode cX4_time 39 = .ok (.iload 4, 2) := by decide +kernel
theorem dX4_time_41 : decode cX4_time 41 = .ok (.iload 5, 2) := by decide +kernel
theorem dX4_time_43 : decode cX4_time 43 = .ok (.aload_n 0, 1) := by decide +kernel
theorem dX4_time_44 : decode cX4_time 44 = .ok (.getfield 26, 3) := by decide +kernel
theorem dX4_time_47 : decode cX4_time 47 = .ok (.getfield 100, 3) := by decide +kernel
theorem dX4_time_50 : decode cX4_time 50 = .ok (.invokevirtual 124, 3) := by decide +kernel
theorem dX4_time_53 : decode cX4_time 53 = .ok (.aload_n 0, 1) := by decide +kernel
theorem dX4_time_54 : decode cX4_time 54 = .ok (.getfield 19, 3) := by decide +kernel
theorem dX4_time_57 : decode cX4_time 57 = .ok (.iload_n 1, 1) := by decide +kernel
theorem dX4_time_58 : decode cX4_time 58 = .ok (.invokevirtual 109, 3) := by decide +kernel
theorem dX4_time_61 : decode cX4_time 61 = .ok (.iadd, 1) := by decide +kernel
theorem dX4_time_62 : decode cX4_time 62 = .ok (.ireturn, 1) := by decide +kernel
set_option maxRecDepth 20000 in
theorem ggX4_best_X1_hasBoat : GoodIn wsX4_best wsX1_hasBoat := goodIn_r _ [6, 7, 74, 75, 76, 77, 78] (by decide +kernel) (by decide +kernel)
set_option maxRecDepth 20000 in
theorem gX4_best_X1_hasBoat : GoodIn wsX4_best (wsV RX4 106 RX1 yX1_hasBoat wsX1_hasBoat) := goodIn_app (goodIn_of _ (by decide +kernel)) ggX4_best_X1_hasBoat
set_option maxRecDepth 20000 in
theorem ggX4_best_X1_allLeggers : GoodIn wsX4_best wsX1_allLeggers := goodIn_r _ [11, 12, 74, 75, 76, 77, 78] (by decide +kernel) (by decide +kernel)
set_option maxRecDepth 20000 in
theorem gX4_best_X1_allLeggers : GoodIn wsX4_best (wsV RX4 147 RX1 yX1_allLeggers wsX1_allLeggers) := goodIn_app (goodIn_of _ (by decide +kernel)) ggX4_best_X1_allLeggers
set_option maxRecDepth 20000 in
theorem ggX4_best_X4_leastPair : GoodIn wsX4_best wsX4_leastPair := goodIn_r _ [17, 1, 18, 19, 20, 21, 22, 23, 24, 16, 25, 26, 27, 28, 29, 30, 31, 32, 33, 34, 35, 36, 37, 38, 39, 40, 41, 42, 43, 44, 45, 46, 47, 48, 49, 50, 5, 51, 52, 53, 54, 55, 56, 57, 58, 64, 65, 66, 67, 68, 69, 70, 71, 72, 73, 74, 75, 76, 77, 78, 79, 80, 81, 82] (by decide +kernel) (by decide +kernel)
set_option maxRecDepth 20000 in
theorem gX4_best_X4_leastPair : GoodIn wsX4_best (wsV RX4 150 RX4 yX4_leastPair wsX4_leastPair) := goodIn_app (goodIn_of _ (by decide +kernel)) ggX4_best_X4_leastPair
set_option maxRecDepth 20000 in
theorem ggX4_best_X1_loadOf : GoodIn wsX4_best wsX1_loadOf := goodIn_r _ [62, 63, 74, 75, 76, 77, 78] (by decide +kernel) (by decide +kernel)
set_option maxRecDepth 20000 in
theorem gX4_best_X1_loadOf : GoodIn wsX4_best (wsV RX4 109 RX1 yX1_loadOf wsX1_loadOf) := goodIn_app (goodIn_of _ (by decide +kernel)) ggX4_best_X1_loadOf
theorem dX4_best_0 : decode cX4_best 0 = .ok (.aload_n 0, 1) := by decide +kernel
theorem dX4_best_1 : decode cX4_best 1 = .ok (.getfield 19, 3) := by decide +kernel
theorem dX4_best_4 : decode cX4_best 4 = .ok (.iload_n 1, 1) := by decide +kernel
theorem dX4_best_5 : decode cX4_best 5 = .ok (.invokevirtual 106, 3) := by decide +kernel
theorem dX4_best_8 : decode cX4_best 8 = .ok (.ifCond .ne 5, 3) := by decide +kernel
theorem dX4_best_11 : decode cX4_best 11 = .ok (.iconst (-1), 1) := by decide +kernel
theorem dX4_best_12 : decode cX4_best 12 = .ok (.ireturn, 1) := by decide +kernel
theorem dX4_best_13 : decode cX4_best 13 = .ok (.iload_n 2, 1) := by decide +kernel
theorem dX4_best_14 : decode cX4_best 14 = .ok (.ifCond .eq 11, 3) := by decide +kernel
theorem dX4_best_17 : decode cX4_best 17 = .ok (.iload_n 2, 1) := by decide +kernel
theorem dX4_best_18 : decode cX4_best 18 = .ok (.iconst 1, 1) := by decide +kernel
theorem dX4_best_19 : decode cX4_best 19 = .ok (.if_icmp .eq 6, 3) := by decide +kernel
theorem dX4_best_22 : decode cX4_best 22 = .ok (.bipush (-2), 2) := by decide +kernel
theorem dX4_best_24 : decode cX4_best 24 = .ok (.ireturn, 1) := by decide +kernel
theorem dX4_best_25 : decode cX4_best 25 = .ok (.aload_n 0, 1) := by decide +kernel
theorem dX4_best_26 : decode cX4_best 26 = .ok (.aload_n 0, 1) := by decide +kernel
theorem dX4_best_27 : decode cX4_best 27 = .ok (.getfield 19, 3) := by decide +kernel
theorem dX4_best_30 : decode cX4_best 30 = .ok (.invokevirtual 147, 3) := by decide +kernel
theorem dX4_best_33 : decode cX4_best 33 = .ok (.invokevirtual 150, 3) := by decide +kernel
theorem dX4_best_36 : decode cX4_best 36 = .ok (.istore_n 3, 1) := by decide +kernel
theorem dX4_best_37 : decode cX4_best 37 = .ok (.iload_n 3, 1) := by decide +kernel
theorem dX4_best_38 : decode cX4_best 38 = .ok (.bipush (-9), 2) := by decide +kernel
theorem dX4_best_40 : decode cX4_best 40 = .ok (.if_icmp .ne 6, 3) := by decide +kernel
theorem dX4_best_43 : decode cX4_best 43 = .ok (.bipush (-9), 2) := by decide +kernel
theorem dX4_best_45 : decode cX4_best 45 = .ok (.ireturn, 1) := by decide +kernel
theorem dX4_best_46 : decode cX4_best 46 = .ok (.iload_n 2, 1) := by decide +kernel
theorem dX4_best_47 : decode cX4_best 47 = .ok (.ifCond .ne 10, 3) := by decide +kernel
theorem dX4_best_50 : decode cX4_best 50 = .ok (.iload_n 3, 1) := by decide +kernel
theorem dX4_best_51 : decode cX4_best 51 = .ok (.bipush 100, 2) := by decide +kernel
theorem dX4_best_53 : decode cX4_best 53 = .ok (.irem, 1) := by decide +kernel
theorem dX4_best_54 : decode cX4_best 54 = .ok (.goto 16, 3) := by decide +kernel
theorem dX4_best_57 : decode cX4_best 57 = .ok (.iload_n 3, 1) := by decide +kernel
theorem dX4_best_58 : decode cX4_best 58 = .ok (.bipush 100, 2) := by decide +kernel
theorem dX4_best_60 : decode cX4_best 60 = .ok (.idiv, 1) := by decide +kernel
theorem dX4_best_61 : decode cX4_best 61 = .ok (.aload_n 0, 1) := by decide +kernel
theorem dX4_best_62 : decode cX4_best 62 = .ok (.getfield 19, 3) := by decide +kernel
theorem dX4_best_65 : decode cX4_best 65 = .ok (.iload_n 1, 1) := by decide +kernel
theorem dX4_best_66 : decode cX4_best 66 = .ok (.invokevirtual 109, 3) := by decide +kernel
theorem dX4_best_69 : decode cX4_best 69 = .ok (.iadd, 1) := by decide +kernel
theorem dX4_best_70 : decode cX4_best 70 = .ok (.ireturn, 1) := by decide +kernel
set_option maxRecDepth 20000 in
theorem ggX4_begin_X4_pairRefusal : GoodIn wsX4_begin wsX4_pairRefusal := goodIn_r _ [6, 1, 7, 8, 9, 10, 11, 12, 13, 14, 15, 16, 17, 66, 67, 68, 69, 70, 71, 72, 73, 74, 75, 76, 77, 78, 79, 80] (by decide +kernel) (by decide +kernel)
set_option maxRecDepth 20000 in
theorem gX4_begin_X4_pairRefusal : GoodIn wsX4_begin (wsV RX4 112 RX4 yX4_pairRefusal wsX4_pairRefusal) := goodIn_app (goodIn_of _ (by decide +kernel)) ggX4_begin_X4_pairRefusal
set_option maxRecDepth 20000 in
theorem ggX4_begin_X4_leastBegin : GoodIn wsX4_begin wsX4_leastBegin := goodIn_r _ [21, 22, 23, 24, 25, 26, 27, 28, 29, 30, 5, 31, 1, 32, 33, 34, 35, 36, 37, 38, 39, 40, 41, 42, 43, 44, 45, 46, 47, 48, 49, 50, 51, 52, 10, 53, 54, 55, 56, 57, 58, 59, 60, 66, 67, 68, 69, 70, 71, 72, 73, 74, 75, 81, 82, 83, 84, 76, 77, 78, 79, 80] (by decide +kernel) (by decide +kernel)
set_option maxRecDepth 20000 in
theorem gX4_begin_X4_leastBegin : GoodIn wsX4_begin (wsV RX4 153 RX4 yX4_leastBegin wsX4_leastBegin) := goodIn_app (goodIn_of _ (by decide +kernel)) ggX4_begin_X4_leastBegin
set_option maxRecDepth 20000 in
theorem ggX4_begin_X1_loadOf : GoodIn wsX4_begin wsX1_loadOf := goodIn_r _ [64, 65, 76, 77, 78, 79, 80] (by decide +kernel) (by decide +kernel)
set_option maxRecDepth 20000 in
theorem gX4_begin_X1_loadOf : GoodIn wsX4_begin (wsV RX4 109 RX1 yX1_loadOf wsX1_loadOf) := goodIn_app (goodIn_of _ (by decide +kernel)) ggX4_begin_X1_loadOf
theorem dX4_begin_0 : decode cX4_begin 0 = .ok (.aload_n 0, 1) := by decide +kernel
theorem dX4_begin_1 : decode cX4_begin 1 = .ok (.iload_n 1, 1) := by decide +kernel
theorem dX4_begin_2 : decode cX4_begin 2 = .ok (.iload_n 2, 1) := by decide +kernel
theorem dX4_begin_3 : decode cX4_begin 3 = .ok (.iload_n 3, 1) := by decide +kernel
theorem dX4_begin_4 : decode cX4_begin 4 = .ok (.invokevirtual 112, 3) := by decide +kernel
theorem dX4_begin_7 : decode cX4_begin 7 = .ok (.istore 5, 2) := by decide +kernel
theorem dX4_begin_9 : decode cX4_begin 9 = .ok (.iload 5, 2) := by decide +kernel
theorem dX4_begin_11 : decode cX4_begin 11 = .ok (.ifCond .eq 6, 3) := by decide +kernel
theorem dX4_begin_14 : decode cX4_begin 14 = .ok (.iload 5, 2) := by decide +kernel
theorem dX4_begin_16 : decode cX4_begin 16 = .ok (.ireturn, 1) := by decide +kernel
theorem dX4_begin_17 : decode cX4_begin 17 = .ok (.iload 4, 2) := by decide +kernel
theorem dX4_begin_19 : decode cX4_begin 19 = .ok (.ifCond .eq 12, 3) := by decide +kernel
theorem dX4_begin_22 : decode cX4_begin 22 = .ok (.iload 4, 2) := by decide +kernel
theorem dX4_begin_24 : decode cX4_begin 24 = .ok (.iconst 1, 1) := by decide +kernel
theorem dX4_begin_25 : decode cX4_begin 25 = .ok (.if_icmp .eq 6, 3) := by decide +kernel
theorem dX4_begin_28 : decode cX4_begin 28 = .ok (.bipush (-2), 2) := by decide +kernel
theorem dX4_begin_30 : decode cX4_begin 30 = .ok (.ireturn, 1) := by decide +kernel
theorem dX4_begin_31 : decode cX4_begin 31 = .ok (.aload_n 0, 1) := by decide +kernel
theorem dX4_begin_32 : decode cX4_begin 32 = .ok (.iload_n 2, 1) := by decide +kernel
theorem dX4_begin_33 : decode cX4_begin 33 = .ok (.iload_n 3, 1) := by decide +kernel
theorem dX4_begin_34 : decode cX4_begin 34 = .ok (.invokevirtual 153, 3) := by decide +kernel
theorem dX4_begin_37 : decode cX4_begin 37 = .ok (.istore 6, 2) := by decide +kernel
theorem dX4_begin_39 : decode cX4_begin 39 = .ok (.iload 4, 2) := by decide +kernel
theorem dX4_begin_41 : decode cX4_begin 41 = .ok (.ifCond .ne 11, 3) := by decide +kernel
theorem dX4_begin_44 : decode cX4_begin 44 = .ok (.iload 6, 2) := by decide +kernel
theorem dX4_begin_46 : decode cX4_begin 46 = .ok (.bipush 100, 2) := by decide +kernel
theorem dX4_begin_48 : decode cX4_begin 48 = .ok (.irem, 1) := by decide +kernel
theorem dX4_begin_49 : decode cX4_begin 49 = .ok (.goto 17, 3) := by decide +kernel
theorem dX4_begin_52 : decode cX4_begin 52 = .ok (.iload 6, 2) := by decide +kernel
theorem dX4_begin_54 : decode cX4_begin 54 = .ok (.bipush 100, 2) := by decide +kernel
theorem dX4_begin_56 : decode cX4_begin 56 = .ok (.idiv, 1) := by decide +kernel
theorem dX4_begin_57 : decode cX4_begin 57 = .ok (.aload_n 0, 1) := by decide +kernel
theorem dX4_begin_58 : decode cX4_begin 58 = .ok (.getfield 19, 3) := by decide +kernel
theorem dX4_begin_61 : decode cX4_begin 61 = .ok (.iload_n 1, 1) := by decide +kernel
theorem dX4_begin_62 : decode cX4_begin 62 = .ok (.invokevirtual 109, 3) := by decide +kernel
theorem dX4_begin_65 : decode cX4_begin 65 = .ok (.iadd, 1) := by decide +kernel
theorem dX4_begin_66 : decode cX4_begin 66 = .ok (.ireturn, 1) := by decide +kernel
set_option maxRecDepth 20000 in
theorem ggX4_soonest_X4_soonestLegs : GoodIn wsX4_soonest wsX4_soonestLegs := goodIn_r _ [7, 8, 9, 1, 10, 11, 12, 13, 14, 15, 16, 17, 18, 19, 6, 20, 2, 21, 22, 23, 24, 25, 26, 27, 28, 29, 30, 31, 32, 33, 34, 35, 36, 37, 38, 39, 40, 41, 42, 43, 44, 45, 46, 47, 48, 49, 50, 51, 52, 53, 54, 55, 56, 57, 58, 59, 60, 61, 62, 63, 64, 65, 66, 67, 68, 69, 70, 71, 72, 73, 74, 75, 76, 77, 78, 79, 80, 81, 82, 83, 84, 85, 86, 87, 88, 89, 90, 91, 92, 93, 94, 95, 96, 97, 98] (by decide +kernel) (by decide +kernel)
set_option maxRecDepth 20000 in
theorem gX4_soonest_X4_soonestLegs : GoodIn wsX4_soonest (wsV RX4 156 RX4 yX4_soonestLegs wsX4_soonestLegs) := goodIn_app (goodIn_of _ (by decide +kernel)) ggX4_soonest_X4_soonestLegs
theorem dX4_soonest_0 : decode cX4_soonest 0 = .ok (.aload_n 0, 1) := by decide +kernel
theorem dX4_soonest_1 : decode cX4_soonest 1 = .ok (.invokevirtual 156, 3) := by decide +kernel
theorem dX4_soonest_4 : decode cX4_soonest 4 = .ok (.lstore_n 2, 1) := by decide +kernel
theorem dX4_soonest_5 : decode cX4_soonest 5 = .ok (.lload_n 2, 1) := by decide +kernel
theorem dX4_soonest_6 : decode cX4_soonest 6 = .ok (.ldc2_w 160, 3) := by decide +kernel
theorem dX4_soonest_9 : decode cX4_soonest 9 = .ok (.lcmp, 1) := by decide +kernel
theorem dX4_soonest_10 : decode cX4_soonest 10 = .ok (.ifCond .ne 6, 3) := by decide +kernel
theorem dX4_soonest_13 : decode cX4_soonest 13 = .ok (.bipush (-9), 2) := by decide +kernel
theorem dX4_soonest_15 : decode cX4_soonest 15 = .ok (.ireturn, 1) := by decide +kernel
theorem dX4_soonest_16 : decode cX4_soonest 16 = .ok (.iload_n 1, 1) := by decide +kernel
theorem dX4_soonest_17 : decode cX4_soonest 17 = .ok (.ifCond .eq 11, 3) := by decide +kernel
theorem dX4_soonest_20 : decode cX4_soonest 20 = .ok (.lload_n 2, 1) := by decide +kernel
theorem dX4_soonest_21 : decode cX4_soonest 21 = .ok (.ldc2_w 162, 3) := by decide +kernel
theorem dX4_soonest_24 : decode cX4_soonest 24 = .ok (.lrem, 1) := by decide +kernel
theorem dX4_soonest_25 : decode cX4_soonest 25 = .ok (.goto 8, 3) := by decide +kernel
theorem dX4_soonest_28 : decode cX4_soonest 28 = .ok (.lload_n 2, 1) := by decide +kernel
theorem dX4_soonest_29 : decode cX4_soonest 29 = .ok (.ldc2_w 162, 3) := by decide +kernel
theorem dX4_soonest_32 : decode cX4_soonest 32 = .ok (.ldiv, 1) := by decide +kernel
theorem dX4_soonest_33 : decode cX4_soonest 33 = .ok (.l2i, 1) := by decide +kernel
theorem dX4_soonest_34 : decode cX4_soonest 34 = .ok (.ireturn, 1) := by decide +kernel
set_option maxRecDepth 20000 in
theorem ggX4_judge_X4_legTold : GoodIn wsX4_judge wsX4_legTold := goodIn_r _ [5] (by decide +kernel) (by decide +kernel)
set_option maxRecDepth 20000 in
theorem gX4_judge_X4_legTold : GoodIn wsX4_judge (va_wsS RX4 164 yX4_legTold wsX4_legTold) := goodIn_app (goodIn_of _ (by decide +kernel)) ggX4_judge_X4_legTold
set_option maxRecDepth 20000 in
theorem ggX4_judge_X4_pairRefusal : GoodIn wsX4_judge wsX4_pairRefusal := goodIn_r _ [9, 10, 11, 12, 13, 14, 15, 16, 17, 18, 19, 20, 21, 25, 26, 27, 28, 29, 30, 31, 32, 33, 34, 39, 40, 41, 42, 43] (by decide +kernel) (by decide +kernel)
set_option maxRecDepth 20000 in
theorem gX4_judge_X4_pairRefusal : GoodIn wsX4_judge (wsV RX4 112 RX4 yX4_pairRefusal wsX4_pairRefusal) := goodIn_app (goodIn_of _ (by decide +kernel)) ggX4_judge_X4_pairRefusal
set_option maxRecDepth 20000 in
theorem ggX4_judge_X4_isIn : GoodIn wsX4_judge wsX4_isIn := goodIn_r _ [24] (by decide +kernel) (by decide +kernel)
set_option maxRecDepth 20000 in
theorem gX4_judge_X4_isIn : GoodIn wsX4_judge (va_wsS RX4 116 yX4_isIn wsX4_isIn) := goodIn_app (goodIn_of _ (by decide +kernel)) ggX4_judge_X4_isIn
