/-! ===== the walks, printed by gen/walk.py ===== -/
set_option maxRecDepth 20000 in
theorem mX5_findBest_0 : Cond.fieldLink RX5 152 "LeggedThroughModel" "bestPair" "I" ∈ wsX5_findBest := by decide +kernel
set_option maxRecDepth 20000 in
theorem mX5_findBest_1 : Cond.fieldLink RX5 155 "LeggedThroughModel" "bestTime" "I" ∈ wsX5_findBest := by decide +kernel
set_option maxRecDepth 20000 in
theorem mX5_findBest_2 : Cond.fieldLink RX5 66 "LeggedThroughModel" "leggers" "I" ∈ wsX5_findBest := by decide +kernel
set_option maxRecDepth 20000 in
theorem mX5_findBest_3 : Cond.fieldLink RX5 29 "LeggedThroughModel" "page" "[I" ∈ wsX5_findBest := by decide +kernel
set_option maxRecDepth 20000 in
theorem mX5_findBest_4 : Cond.fieldLink RX5 20 "LeggedThroughModel" "load" "[I" ∈ wsX5_findBest := by decide +kernel
set_option maxRecDepth 20000 in
theorem hinX5_findBest_X5 : ∀ w ∈ u_ws RX5 TX5 37, w ∈ wsX5_findBest := fun w h => List.mem_cons_of_mem _ (List.mem_append_right _ h)
set_option maxRecDepth 20000 in
set_option maxHeartbeats 4000000 in
theorem k_X5_findBest {l : Launch} {D : va_G} {cI cZ : ClassId} {q : Nat} {ad : Nat → Nat} (a1 : Int32) (a2 : Int32)  (S : zS) (r : zS) (h : f_X5_findBest a1 a2 S = some r) : zU l yX5_findBest wsX5_findBest (zRm 3 78) D (zty cI cZ) zNw (wM cI cZ q ad) [.ref q, .int a1, .int a2] S r := by
  refine zU_of (cc := cX5_findBest) (maxL := 6)  (by decide +kernel) rfl (Nat.le_of_ble_eq_true rfl) zNw_ok (fun E hE1 hE2 C0 hR => ?_)
  subst hE1; subst hE2
  replace C0 : zCx E (zRm 3 78) cX5_findBest 6 RX5 wsX5_findBest (zty cI cZ) zNw := C0
  show zV E (wM cI cZ q ad) 6 S 0 [(0, .ref q), (1, .int a1), (2, .int a2)] []
  delta f_X5_findBest at h
  refine zV_aload_n (n := 1) C0 0 dX5_findBest_0 rfl rfl ?_
  refine zV_bipush (n := 3) (v := (-9 : Int32)) C0 dX5_findBest_1 rfl rfl ?_
  refine zV_put (n := 6) (ref := RX5) C0 hinX5_findBest_X5 0 rfl rfl 25 (Nat.le_of_ble_eq_true rfl) mX5_findBest_0 rfl tyX5 tyX5_ok nmX5 rfl (tyX5_ok 25 (Nat.le_of_ble_eq_true rfl)) rfl rfl (Nat.le_of_ble_eq_true rfl) (upd S.1 25 (-9 : Int32), S.2) (wM_f25 cI cZ q ad S (-9 : Int32)) dX5_findBest_3 rfl ?_
  refine zV_topS (fun S_1 eS_1 => ?_)
  replace h := zlet_of eS_1 h
  clear eS_1
  refine zV_aload_n (n := 7) C0 0 dX5_findBest_6 rfl rfl ?_
  refine zV_bipush (n := 9) (v := (-9 : Int32)) C0 dX5_findBest_7 rfl rfl ?_
  refine zV_put (n := 12) (ref := RX5) C0 hinX5_findBest_X5 0 rfl rfl 26 (Nat.le_of_ble_eq_true rfl) mX5_findBest_1 rfl tyX5 tyX5_ok nmX5 rfl (tyX5_ok 26 (Nat.le_of_ble_eq_true rfl)) rfl rfl (Nat.le_of_ble_eq_true rfl) (upd S_1.1 26 (-9 : Int32), S_1.2) (wM_f26 cI cZ q ad S_1 (-9 : Int32)) dX5_findBest_9 rfl ?_
  refine zV_topS (fun S_2 eS_2 => ?_)
  replace h := zlet_of eS_2 h
  clear eS_2
  refine zV_iconst (n := 13) (v := (0 : Int32)) C0 dX5_findBest_12 rfl rfl ?_
  refine zV_istore_n (n := 14) C0 [(3, .int (0 : Int32)), (0, .ref q), (1, .int a1), (2, .int a2)] dX5_findBest_13 rfl rfl (Nat.le_of_ble_eq_true rfl) rfl ?_
  refine zV_sub [1, 2, 3, 0] rfl ?_
  refine zfix_ind (fun e => zV E (wM cI cZ q ad) 6 e.2 14 [(0, .ref q), (1, .int a1), (2, .int a2), (3, .int e.1)] []) (fun rec_5 hrec_5 e h => ?_) zN ((0 : Int32), S_2) h
  obtain ⟨x3_3, S_4⟩ := e
  have Jrec_5 : ∀ (x3_3 : Int32) (S_4 : zS), rec_5 (x3_3, S_4) = some r → zV E (wM cI cZ q ad) 6 S_4 14 [(0, .ref q), (1, .int a1), (2, .int a2), (3, .int x3_3)] [] := fun x3_3 S_4 h => hrec_5 _ h
  clear hrec_5
  dsimp only [F_X5_findBest_14] at h
  show zV E (wM cI cZ q ad) 6 S_4 14 [(0, .ref q), (1, .int a1), (2, .int a2), (3, .int x3_3)] []
  refine zV_iload_n (n := 15) C0 3 dX5_findBest_14 rfl rfl ?_
  refine zV_aload_n (n := 16) C0 0 dX5_findBest_15 rfl rfl ?_
  refine zV_get (n := 19) (ref := RX5) C0 hinX5_findBest_X5 0 rfl rfl 5 (Nat.le_of_ble_eq_true rfl) mX5_findBest_2 rfl rfl dX5_findBest_16 rfl ?_
  refine zV_icmp_ge (tgt := 122) (n := 22) C0 dX5_findBest_19 rfl rfl (fun hb_28 => ?_) (fun hb_28 => ?_)
  · replace h := if_t hb_28 h
    exact zretU hR h dX5_findBest_122
  · replace h := if_f hb_28 h
    refine zV_iload_n (n := 23) C0 3 dX5_findBest_22 rfl rfl ?_
    refine zV_iconst (n := 24) (v := (1 : Int32)) C0 dX5_findBest_23 rfl rfl ?_
    refine zV_iadd (n := 25) C0 dX5_findBest_24  rfl ?_
    refine zV_topi (fun x4_6 ex4_6 => ?_)
    replace h := zlet_of ex4_6 h
    clear ex4_6
    refine zV_istore (n := 27) C0 [(4, .int x4_6), (0, .ref q), (1, .int a1), (2, .int a2), (3, .int x3_3)] dX5_findBest_25 rfl (Nat.le_of_ble_eq_true rfl) rfl ?_
    refine zV_sub [1, 2, 3, 4, 0] rfl ?_
    refine zfix_ind (fun e => zV E (wM cI cZ q ad) 6 e.2 27 [(0, .ref q), (1, .int a1), (2, .int a2), (3, .int x3_3), (4, .int e.1)] []) (fun rec_9 hrec_9 e h => ?_) zN (x4_6, S_4) h
    obtain ⟨x4_7, S_8⟩ := e
    have Jrec_9 : ∀ (x4_7 : Int32) (S_8 : zS), rec_9 (x4_7, S_8) = some r → zV E (wM cI cZ q ad) 6 S_8 27 [(0, .ref q), (1, .int a1), (2, .int a2), (3, .int x3_3), (4, .int x4_7)] [] := fun x4_7 S_8 h => hrec_9 _ h
    clear hrec_9
    dsimp only [F_X5_findBest_27] at h
    show zV E (wM cI cZ q ad) 6 S_8 27 [(0, .ref q), (1, .int a1), (2, .int a2), (3, .int x3_3), (4, .int x4_7)] []
    refine zV_iload (n := 29) C0 4 dX5_findBest_27 rfl rfl ?_
    refine zV_aload_n (n := 30) C0 0 dX5_findBest_29 rfl rfl ?_
    refine zV_get (n := 33) (ref := RX5) C0 hinX5_findBest_X5 0 rfl rfl 5 (Nat.le_of_ble_eq_true rfl) mX5_findBest_2 rfl rfl dX5_findBest_30 rfl ?_
    refine zV_icmp_ge (tgt := 116) (n := 36) C0 dX5_findBest_33 rfl rfl (fun hb_27 => ?_) (fun hb_27 => ?_)
    · replace h := if_t hb_27 h
      refine zV_iinc (n := 119) C0 3 (v := (x3_3 + (1 : Int32))) [(3, .int (x3_3 + (1 : Int32))), (0, .ref q), (1, .int a1), (2, .int a2), (4, .int x4_7)] dX5_findBest_116 rfl rfl rfl (Nat.le_of_ble_eq_true rfl) rfl ?_
      refine zV_goto (tgt := 14) C0 dX5_findBest_119 rfl ?_
      refine zV_sub [1, 2, 3, 0] rfl ?_
      exact Jrec_5 (x3_3 + (1 : Int32)) S_8 h
    · replace h := if_f hb_27 h
      refine zV_aload_n (n := 37) C0 0 dX5_findBest_36 rfl rfl ?_
      refine zV_aload_n (n := 38) C0 0 dX5_findBest_37 rfl rfl ?_
      refine zV_get (n := 41) (ref := RX5) C0 hinX5_findBest_X5 0 rfl rfl 14 (Nat.le_of_ble_eq_true rfl) mX5_findBest_3 rfl rfl dX5_findBest_38 rfl ?_
      refine zV_iload_n (n := 42) C0 3 dX5_findBest_41 rfl rfl ?_
      refine zV_iload (n := 44) C0 4 dX5_findBest_42 rfl rfl ?_
      refine zV_iconst (n := 45) (v := (0 : Int32)) C0 dX5_findBest_44 rfl rfl ?_
      refine zV_iconst (n := 46) (v := (0 : Int32)) C0 dX5_findBest_45 rfl rfl ?_
      obtain ⟨r_11, hc_10, h⟩ := ob_of h
      refine zV_callVI (n := 49) (st := []) (As := [.ref (ad 14), .int x3_3, .int x4_7, .int (0 : Int32), .int (0 : Int32)]) C0 (k_X5_timeOf 14 x3_3 x4_7 (0 : Int32) (0 : Int32) (by decide) S_8 _ hc_10) gX5_findBest_X5_timeOf rfl (hd_X5_timeOf) rfl ⟨rfl, rfl⟩ ⟨Nat.le_of_ble_eq_true rfl, Nat.le_of_ble_eq_true rfl⟩ 0 rfl rfl rfl (Nat.le_of_ble_eq_true rfl) dX5_findBest_46 rfl ?_
      refine zV_aload_n (n := 50) C0 0 dX5_findBest_49 rfl rfl ?_
      refine zV_get (n := 53) (ref := RX5) C0 hinX5_findBest_X5 0 rfl rfl 8 (Nat.le_of_ble_eq_true rfl) mX5_findBest_4 rfl rfl dX5_findBest_50 rfl ?_
      refine zV_iload_n (n := 54) C0 1 dX5_findBest_53 rfl rfl ?_
      obtain ⟨hg_12, h⟩ := gd_of h
      refine zV_iald (n := 55) C0 3 0 rfl rfl hg_12 dX5_findBest_54 rfl ?_
      refine zV_iadd (n := 56) C0 dX5_findBest_55  rfl ?_
      refine zV_topi (fun x5_13 ex5_13 => ?_)
      replace h := zlet_of ex5_13 h
      clear ex5_13
      refine zV_istore (n := 58) C0 [(5, .int x5_13), (0, .ref q), (1, .int a1), (2, .int a2), (3, .int x3_3), (4, .int x4_7)] dX5_findBest_56 rfl (Nat.le_of_ble_eq_true rfl) rfl ?_
      refine zV_iload_n (n := 59) C0 3 dX5_findBest_58 rfl rfl ?_
      refine zV_iload_n (n := 60) C0 4 dX5_findBest_59 rfl rfl ?_
      obtain ⟨r_15, hc_14, h⟩ := ob_of h
      refine zV_callS0 (n := 63) (st := []) (As := [.int a2, .int x3_3]) C0 (k_X5_has a2 x3_3 _ hc_14) gX5_findBest_X5_has rfl (hd_X5_has) rfl ⟨rfl, rfl⟩ ⟨Nat.le_of_ble_eq_true rfl, Nat.le_of_ble_eq_true rfl⟩ rfl (Nat.le_of_ble_eq_true rfl) dX5_findBest_60 rfl ?_
      refine zjoin_of h (fun k_17 hk_17 h => ?_)
      have Jk_17 : ∀ (S_16 : zS), k_17 (S_16) = some r → zV E (wM cI cZ q ad) 6 S_16 110 [(0, .ref q), (1, .int a1), (2, .int a2), (3, .int x3_3), (4, .int x4_7)] [] := by
        intro S_16 h
        replace h := hk_17 _ h
        refine zV_iinc (n := 113) C0 4 (v := (x4_7 + (1 : Int32))) [(4, .int (x4_7 + (1 : Int32))), (0, .ref q), (1, .int a1), (2, .int a2), (3, .int x3_3)] dX5_findBest_110 rfl rfl rfl (Nat.le_of_ble_eq_true rfl) rfl ?_
        refine zV_goto (tgt := 27) C0 dX5_findBest_113 rfl ?_
        refine zV_sub [1, 2, 3, 4, 0] rfl ?_
        exact Jrec_9 (x4_7 + (1 : Int32)) S_16 h
      clear hk_17
      refine zV_if_eq (tgt := 110) (n := 66) C0 dX5_findBest_63 rfl rfl (fun hb_26 => ?_) (fun hb_26 => ?_)
      · replace h := if_t hb_26 h
        refine zV_sub [1, 2, 3, 4, 5] rfl ?_
        exact Jk_17 S_8 h
      · replace h := if_f hb_26 h
        refine zV_iload_n (n := 67) C0 3 dX5_findBest_66 rfl rfl ?_
        refine zV_iload (n := 69) C0 5 dX5_findBest_67 rfl rfl ?_
        obtain ⟨r_19, hc_18, h⟩ := ob_of h
        refine zV_callS0 (n := 72) (st := []) (As := [.int a2, .int x4_7]) C0 (k_X5_has a2 x4_7 _ hc_18) gX5_findBest_X5_has rfl (hd_X5_has) rfl ⟨rfl, rfl⟩ ⟨Nat.le_of_ble_eq_true rfl, Nat.le_of_ble_eq_true rfl⟩ rfl (Nat.le_of_ble_eq_true rfl) dX5_findBest_69 rfl ?_
        refine zV_if_eq (tgt := 110) (n := 75) C0 dX5_findBest_72 rfl rfl (fun hb_25 => ?_) (fun hb_25 => ?_)
        · replace h := if_t hb_25 h
          refine zV_sub [1, 2, 3, 4, 5] rfl ?_
          exact Jk_17 S_8 h
        · replace h := if_f hb_25 h
          refine zV_aload_n (n := 76) C0 1 dX5_findBest_75 rfl rfl ?_
          refine zV_get (n := 79) (ref := RX5) C0 hinX5_findBest_X5 0 rfl rfl 25 (Nat.le_of_ble_eq_true rfl) mX5_findBest_0 rfl rfl dX5_findBest_76 rfl ?_
          refine zV_bipush (n := 81) (v := (-9 : Int32)) C0 dX5_findBest_79 rfl rfl ?_
          refine zjoin_of h (fun k_20 hk_20 h => ?_)
          have Jk_20 : k_20 () = some r → zV E (wM cI cZ q ad) 6 S_8 93 [(0, .ref q), (1, .int a1), (2, .int a2), (3, .int x3_3), (4, .int x4_7), (5, .int x5_13)] [] := by
            intro  h
            replace h := hk_20 _ h
            refine zV_aload_n (n := 94) C0 0 dX5_findBest_93 rfl rfl ?_
            refine zV_bipush (n := 96) (v := (10 : Int32)) C0 dX5_findBest_94 rfl rfl ?_
            refine zV_iload_n (n := 97) C0 3 dX5_findBest_96 rfl rfl ?_
            refine zV_imul (n := 98) C0 dX5_findBest_97  rfl ?_
            refine zV_iload (n := 100) C0 4 dX5_findBest_98 rfl rfl ?_
            refine zV_iadd (n := 101) C0 dX5_findBest_100  rfl ?_
            refine zV_put (n := 104) (ref := RX5) C0 hinX5_findBest_X5 0 rfl rfl 25 (Nat.le_of_ble_eq_true rfl) mX5_findBest_0 rfl tyX5 tyX5_ok nmX5 rfl (tyX5_ok 25 (Nat.le_of_ble_eq_true rfl)) rfl rfl (Nat.le_of_ble_eq_true rfl) (upd S_8.1 25 (((10 : Int32) * x3_3) + x4_7), S_8.2) (wM_f25 cI cZ q ad S_8 (((10 : Int32) * x3_3) + x4_7)) dX5_findBest_101 rfl ?_
            refine zV_topS (fun S_21 eS_21 => ?_)
            replace h := zlet_of eS_21 h
            clear eS_21
            refine zV_aload_n (n := 105) C0 0 dX5_findBest_104 rfl rfl ?_
            refine zV_iload (n := 107) C0 5 dX5_findBest_105 rfl rfl ?_
            refine zV_put (n := 110) (ref := RX5) C0 hinX5_findBest_X5 0 rfl rfl 26 (Nat.le_of_ble_eq_true rfl) mX5_findBest_1 rfl tyX5 tyX5_ok nmX5 rfl (tyX5_ok 26 (Nat.le_of_ble_eq_true rfl)) rfl rfl (Nat.le_of_ble_eq_true rfl) (upd S_21.1 26 x5_13, S_21.2) (wM_f26 cI cZ q ad S_21 x5_13) dX5_findBest_107 rfl ?_
            refine zV_topS (fun S_22 eS_22 => ?_)
            replace h := zlet_of eS_22 h
            clear eS_22
            refine zV_sub [0, 1, 2, 3, 4] rfl ?_
            exact Jk_17 S_22 h
          clear hk_20
          refine zV_icmp_eq (tgt := 93) (n := 84) C0 dX5_findBest_81 rfl rfl (fun hb_24 => ?_) (fun hb_24 => ?_)
          · replace h := if_t hb_24 h
            refine zV_sub [1, 2, 3, 4, 5, 0] rfl ?_
            exact Jk_20  h
          · replace h := if_f hb_24 h
            refine zV_iload (n := 86) C0 0 dX5_findBest_84 rfl rfl ?_
            refine zV_aload_n (n := 87) C0 1 dX5_findBest_86 rfl rfl ?_
            refine zV_get (n := 90) (ref := RX5) C0 hinX5_findBest_X5 0 rfl rfl 26 (Nat.le_of_ble_eq_true rfl) mX5_findBest_1 rfl rfl dX5_findBest_87 rfl ?_
            refine zV_icmp_ge (tgt := 110) (n := 93) C0 dX5_findBest_90 rfl rfl (fun hb_23 => ?_) (fun hb_23 => ?_)
            · replace h := if_t hb_23 h
              refine zV_sub [1, 2, 3, 4, 5] rfl ?_
              exact Jk_17 S_8 h
            · replace h := if_f hb_23 h
              refine zV_sub [1, 2, 3, 4, 5, 0] rfl ?_
              exact Jk_20  h
set_option maxRecDepth 20000 in
theorem mX5_best_0 : Cond.fieldLink RX5 63 "LeggedThroughModel" "thrown" "I" ∈ wsX5_best := by decide +kernel
set_option maxRecDepth 20000 in
theorem mX5_best_1 : Cond.fieldLink RX5 155 "LeggedThroughModel" "bestTime" "I" ∈ wsX5_best := by decide +kernel
set_option maxRecDepth 20000 in
theorem mX5_best_2 : Cond.fieldLink RX5 152 "LeggedThroughModel" "bestPair" "I" ∈ wsX5_best := by decide +kernel
set_option maxRecDepth 20000 in
theorem hinX5_best_X5 : ∀ w ∈ u_ws RX5 TX5 37, w ∈ wsX5_best := fun w h => List.mem_cons_of_mem _ (List.mem_append_right _ h)
set_option maxRecDepth 20000 in
set_option maxHeartbeats 4000000 in
theorem k_X5_best {l : Launch} {D : va_G} {cI cZ : ClassId} {q : Nat} {ad : Nat → Nat} (a1 : Int32) (a2 : Int32)  (S : zS) (r : Int32 × zS) (h : f_X5_best a1 a2 S = some r) : zI l yX5_best wsX5_best (zRm 4 103) D (zty cI cZ) zNw (wM cI cZ q ad) [.ref q, .int a1, .int a2] S r := by
  refine zI_of (cc := cX5_best) (maxL := 3) (ty := .int) (by decide +kernel) rfl (Nat.le_of_ble_eq_true rfl) zNw_ok (fun E hE1 hE2 C0 hR => ?_)
  subst hE1; subst hE2
  replace C0 : zCx E (zRm 4 103) cX5_best 3 RX5 wsX5_best (zty cI cZ) zNw := C0
  show zV E (wM cI cZ q ad) 3 S 0 [(0, .ref q), (1, .int a1), (2, .int a2)] []
  delta f_X5_best at h
  refine zV_aload_n (n := 1) C0 0 dX5_best_0 rfl rfl ?_
  refine zV_iconst (n := 2) (v := (0 : Int32)) C0 dX5_best_1 rfl rfl ?_
  refine zV_put (n := 5) (ref := RX5) C0 hinX5_best_X5 0 rfl rfl 0 (Nat.le_of_ble_eq_true rfl) mX5_best_0 rfl tyX5 tyX5_ok nmX5 rfl (tyX5_ok 0 (Nat.le_of_ble_eq_true rfl)) rfl rfl (Nat.le_of_ble_eq_true rfl) (upd S.1 0 (0 : Int32), S.2) (wM_f0 cI cZ q ad S (0 : Int32)) dX5_best_2 rfl ?_
  refine zV_topS (fun S_1 eS_1 => ?_)
  replace h := zlet_of eS_1 h
  clear eS_1
  refine zV_aload_n (n := 6) C0 0 dX5_best_5 rfl rfl ?_
  refine zV_iload_n (n := 7) C0 1 dX5_best_6 rfl rfl ?_
  obtain ⟨r_3, hc_2, h⟩ := ob_of h
  refine zV_callVI (n := 10) (st := []) (As := [.int a1]) C0 (k_X5_noBoat a1 S_1 _ hc_2) gX5_best_X5_noBoat rfl (hd_X5_noBoat) rfl ⟨rfl, rfl⟩ ⟨Nat.le_of_ble_eq_true rfl, Nat.le_of_ble_eq_true rfl⟩ 0 rfl rfl rfl (Nat.le_of_ble_eq_true rfl) dX5_best_7 rfl ?_
  refine zV_if_eq (tgt := 15) (n := 13) C0 dX5_best_10 rfl rfl (fun hb_12 => ?_) (fun hb_12 => ?_)
  · replace h := if_t hb_12 h
    refine zV_iload_n (n := 16) C0 2 dX5_best_15 rfl rfl ?_
    refine zV_i2l (n := 17) C0 dX5_best_16  rfl ?_
    refine zV_lconst (n := 18) (v := (0 : Int64)) C0 dX5_best_17 rfl rfl ?_
    refine zV_lconst (n := 19) (v := (1 : Int64)) C0 dX5_best_18 rfl rfl ?_
    obtain ⟨r_5, hc_4, h⟩ := ob_of h
    refine zV_callS0 (n := 22) (st := []) (As := [.long a2.toInt64, .long (0 : Int64), .long (1 : Int64)]) C0 (k_X5_in a2.toInt64 (0 : Int64) (1 : Int64) _ hc_4) gX5_best_X5_in rfl (hd_X5_in) rfl ⟨rfl, rfl⟩ ⟨Nat.le_of_ble_eq_true rfl, Nat.le_of_ble_eq_true rfl⟩ rfl (Nat.le_of_ble_eq_true rfl) dX5_best_19 rfl ?_
    refine zV_if_ne (tgt := 28) (n := 25) C0 dX5_best_22 rfl rfl (fun hb_11 => ?_) (fun hb_11 => ?_)
    · replace h := if_f hb_11 h
      refine zV_aload_n (n := 29) C0 0 dX5_best_28 rfl rfl ?_
      refine zV_iload_n (n := 30) C0 1 dX5_best_29 rfl rfl ?_
      refine zV_bipush (n := 32) (v := (15 : Int32)) C0 dX5_best_30 rfl rfl ?_
      obtain ⟨S_7, hc_6, h⟩ := ob_of h
      refine zV_callVU (n := 35) (st := []) (As := [.int a1, .int (15 : Int32)]) C0 (k_X5_findBest a1 (15 : Int32) S_1 _ hc_6) gX5_best_X5_findBest rfl (hd_X5_findBest) rfl ⟨rfl, rfl⟩ ⟨Nat.le_of_ble_eq_true rfl, Nat.le_of_ble_eq_true rfl⟩ 0 rfl rfl rfl (Nat.le_of_ble_eq_true rfl) dX5_best_32 rfl ?_
      refine zV_iload_n (n := 36) C0 2 dX5_best_35 rfl rfl ?_
      refine zjoin_of h (fun k_9 hk_9 h => ?_)
      have Jk_9 : ∀ (s_8 : Int32), k_9 (s_8) = some r → zV E (wM cI cZ q ad) 3 S_7 50 [] [.int s_8] := by
        intro s_8 h
        replace h := hk_9 _ h
        exact zretI hR h rfl dX5_best_50
      clear hk_9
      refine zV_if_ne (tgt := 46) (n := 39) C0 dX5_best_36 rfl rfl (fun hb_10 => ?_) (fun hb_10 => ?_)
      · replace h := if_f hb_10 h
        refine zV_aload_n (n := 47) C0 0 dX5_best_46 rfl rfl ?_
        refine zV_get (n := 50) (ref := RX5) C0 hinX5_best_X5 0 rfl rfl 26 (Nat.le_of_ble_eq_true rfl) mX5_best_1 rfl rfl dX5_best_47 rfl ?_
        refine zV_sub [] rfl ?_
        exact Jk_9 (S_7.1 26) h
      · replace h := if_t hb_10 h
        refine zV_aload_n (n := 40) C0 0 dX5_best_39 rfl rfl ?_
        refine zV_get (n := 43) (ref := RX5) C0 hinX5_best_X5 0 rfl rfl 25 (Nat.le_of_ble_eq_true rfl) mX5_best_2 rfl rfl dX5_best_40 rfl ?_
        refine zV_goto (tgt := 50) C0 dX5_best_43 rfl ?_
        refine zV_sub [] rfl ?_
        exact Jk_9 (S_7.1 25) h
    · replace h := if_t hb_11 h
      refine zV_bipush (n := 27) (v := (-2 : Int32)) C0 dX5_best_25 rfl rfl ?_
      exact zretI hR h rfl dX5_best_27
  · replace h := if_f hb_12 h
    refine zV_iconst (n := 14) (v := (-1 : Int32)) C0 dX5_best_13 rfl rfl ?_
    exact zretI hR h rfl dX5_best_14
set_option maxRecDepth 20000 in
theorem mX5_findBegin_0 : Cond.fieldLink RX5 162 "LeggedThroughModel" "beginAt" "I" ∈ wsX5_findBegin := by decide +kernel
set_option maxRecDepth 20000 in
theorem mX5_findBegin_1 : Cond.fieldLink RX5 165 "LeggedThroughModel" "beginTime" "I" ∈ wsX5_findBegin := by decide +kernel
set_option maxRecDepth 20000 in
theorem mX5_findBegin_2 : Cond.fieldLink RX5 29 "LeggedThroughModel" "page" "[I" ∈ wsX5_findBegin := by decide +kernel
set_option maxRecDepth 20000 in
theorem mX5_findBegin_3 : Cond.fieldLink RX5 20 "LeggedThroughModel" "load" "[I" ∈ wsX5_findBegin := by decide +kernel
set_option maxRecDepth 20000 in
theorem hinX5_findBegin_X5 : ∀ w ∈ u_ws RX5 TX5 37, w ∈ wsX5_findBegin := fun w h => List.mem_cons_of_mem _ (List.mem_append_right _ h)
set_option maxRecDepth 20000 in
set_option maxHeartbeats 4000000 in
theorem k_X5_findBegin {l : Launch} {D : va_G} {cI cZ : ClassId} {q : Nat} {ad : Nat → Nat} (a1 : Int32) (a2 : Int32) (a3 : Int32)  (S : zS) (r : zS) (h : f_X5_findBegin a1 a2 a3 S = some r) : zU l yX5_findBegin wsX5_findBegin (zRm 3 78) D (zty cI cZ) zNw (wM cI cZ q ad) [.ref q, .int a1, .int a2, .int a3] S r := by
  refine zU_of (cc := cX5_findBegin) (maxL := 6)  (by decide +kernel) rfl (Nat.le_of_ble_eq_true rfl) zNw_ok (fun E hE1 hE2 C0 hR => ?_)
  subst hE1; subst hE2
  replace C0 : zCx E (zRm 3 78) cX5_findBegin 6 RX5 wsX5_findBegin (zty cI cZ) zNw := C0
  show zV E (wM cI cZ q ad) 6 S 0 [(0, .ref q), (1, .int a1), (2, .int a2), (3, .int a3)] []
  delta f_X5_findBegin at h
  refine zV_aload_n (n := 1) C0 0 dX5_findBegin_0 rfl rfl ?_
  refine zV_bipush (n := 3) (v := (-9 : Int32)) C0 dX5_findBegin_1 rfl rfl ?_
  refine zV_put (n := 6) (ref := RX5) C0 hinX5_findBegin_X5 0 rfl rfl 27 (Nat.le_of_ble_eq_true rfl) mX5_findBegin_0 rfl tyX5 tyX5_ok nmX5 rfl (tyX5_ok 27 (Nat.le_of_ble_eq_true rfl)) rfl rfl (Nat.le_of_ble_eq_true rfl) (upd S.1 27 (-9 : Int32), S.2) (wM_f27 cI cZ q ad S (-9 : Int32)) dX5_findBegin_3 rfl ?_
  refine zV_topS (fun S_1 eS_1 => ?_)
  replace h := zlet_of eS_1 h
  clear eS_1
  refine zV_aload_n (n := 7) C0 0 dX5_findBegin_6 rfl rfl ?_
  refine zV_bipush (n := 9) (v := (-9 : Int32)) C0 dX5_findBegin_7 rfl rfl ?_
  refine zV_put (n := 12) (ref := RX5) C0 hinX5_findBegin_X5 0 rfl rfl 28 (Nat.le_of_ble_eq_true rfl) mX5_findBegin_1 rfl tyX5 tyX5_ok nmX5 rfl (tyX5_ok 28 (Nat.le_of_ble_eq_true rfl)) rfl rfl (Nat.le_of_ble_eq_true rfl) (upd S_1.1 28 (-9 : Int32), S_1.2) (wM_f28 cI cZ q ad S_1 (-9 : Int32)) dX5_findBegin_9 rfl ?_
  refine zV_topS (fun S_2 eS_2 => ?_)
  replace h := zlet_of eS_2 h
  clear eS_2
  refine zV_iconst (n := 13) (v := (0 : Int32)) C0 dX5_findBegin_12 rfl rfl ?_
  refine zV_istore (n := 15) C0 [(4, .int (0 : Int32)), (0, .ref q), (1, .int a1), (2, .int a2), (3, .int a3)] dX5_findBegin_13 rfl (Nat.le_of_ble_eq_true rfl) rfl ?_
  refine zV_sub [1, 2, 3, 4, 0] rfl ?_
  refine zfix_ind (fun e => zV E (wM cI cZ q ad) 6 e.2 15 [(0, .ref q), (1, .int a1), (2, .int a2), (3, .int a3), (4, .int e.1)] []) (fun rec_5 hrec_5 e h => ?_) zN ((0 : Int32), S_2) h
  obtain ⟨x4_3, S_4⟩ := e
  have Jrec_5 : ∀ (x4_3 : Int32) (S_4 : zS), rec_5 (x4_3, S_4) = some r → zV E (wM cI cZ q ad) 6 S_4 15 [(0, .ref q), (1, .int a1), (2, .int a2), (3, .int a3), (4, .int x4_3)] [] := fun x4_3 S_4 h => hrec_5 _ h
  clear hrec_5
  dsimp only [F_X5_findBegin_15] at h
  show zV E (wM cI cZ q ad) 6 S_4 15 [(0, .ref q), (1, .int a1), (2, .int a2), (3, .int a3), (4, .int x4_3)] []
  refine zV_iload (n := 17) C0 4 dX5_findBegin_15 rfl rfl ?_
  refine zV_bipush (n := 19) (v := (16 : Int32)) C0 dX5_findBegin_17 rfl rfl ?_
  refine zV_icmp_ge (tgt := 95) (n := 22) C0 dX5_findBegin_19 rfl rfl (fun hb_17 => ?_) (fun hb_17 => ?_)
  · replace h := if_t hb_17 h
    exact zretU hR h dX5_findBegin_95
  · replace h := if_f hb_17 h
    refine zV_aload_n (n := 23) C0 0 dX5_findBegin_22 rfl rfl ?_
    refine zV_aload_n (n := 24) C0 0 dX5_findBegin_23 rfl rfl ?_
    refine zV_get (n := 27) (ref := RX5) C0 hinX5_findBegin_X5 0 rfl rfl 14 (Nat.le_of_ble_eq_true rfl) mX5_findBegin_2 rfl rfl dX5_findBegin_24 rfl ?_
    refine zV_iload_n (n := 28) C0 2 dX5_findBegin_27 rfl rfl ?_
    refine zV_iload_n (n := 29) C0 3 dX5_findBegin_28 rfl rfl ?_
    refine zV_iload (n := 31) C0 4 dX5_findBegin_29 rfl rfl ?_
    refine zV_iconst (n := 32) (v := (4 : Int32)) C0 dX5_findBegin_31 rfl rfl ?_
    refine zV_idiv (n := 33) C0 dX5_findBegin_32 (by decide) rfl ?_
    refine zV_iload (n := 35) C0 4 dX5_findBegin_33 rfl rfl ?_
    refine zV_iconst (n := 36) (v := (4 : Int32)) C0 dX5_findBegin_35 rfl rfl ?_
    refine zV_irem (n := 37) C0 dX5_findBegin_36 (by decide) rfl ?_
    obtain ⟨r_7, hc_6, h⟩ := ob_of h
    refine zV_callVI (n := 40) (st := []) (As := [.ref (ad 14), .int a2, .int a3, .int (x4_3 / (4 : Int32)), .int (zrem x4_3 (4 : Int32))]) C0 (k_X5_timeOf 14 a2 a3 (x4_3 / (4 : Int32)) (zrem x4_3 (4 : Int32)) (by decide) S_4 _ hc_6) gX5_findBegin_X5_timeOf rfl (hd_X5_timeOf) rfl ⟨rfl, rfl⟩ ⟨Nat.le_of_ble_eq_true rfl, Nat.le_of_ble_eq_true rfl⟩ 0 rfl rfl rfl (Nat.le_of_ble_eq_true rfl) dX5_findBegin_37 rfl ?_
    refine zV_aload_n (n := 41) C0 0 dX5_findBegin_40 rfl rfl ?_
    refine zV_get (n := 44) (ref := RX5) C0 hinX5_findBegin_X5 0 rfl rfl 8 (Nat.le_of_ble_eq_true rfl) mX5_findBegin_3 rfl rfl dX5_findBegin_41 rfl ?_
    refine zV_iload_n (n := 45) C0 1 dX5_findBegin_44 rfl rfl ?_
    obtain ⟨hg_8, h⟩ := gd_of h
    refine zV_iald (n := 46) C0 3 0 rfl rfl hg_8 dX5_findBegin_45 rfl ?_
    refine zV_iadd (n := 47) C0 dX5_findBegin_46  rfl ?_
    refine zV_topi (fun x5_9 ex5_9 => ?_)
    replace h := zlet_of ex5_9 h
    clear ex5_9
    refine zV_istore (n := 49) C0 [(5, .int x5_9), (0, .ref q), (1, .int a1), (2, .int a2), (3, .int a3), (4, .int x4_3)] dX5_findBegin_47 rfl (Nat.le_of_ble_eq_true rfl) rfl ?_
    refine zV_aload_n (n := 50) C0 1 dX5_findBegin_49 rfl rfl ?_
    refine zV_get (n := 53) (ref := RX5) C0 hinX5_findBegin_X5 0 rfl rfl 27 (Nat.le_of_ble_eq_true rfl) mX5_findBegin_0 rfl rfl dX5_findBegin_50 rfl ?_
    refine zV_bipush (n := 55) (v := (-9 : Int32)) C0 dX5_findBegin_53 rfl rfl ?_
    refine zjoin_of h (fun k_11 hk_11 h => ?_)
    have Jk_11 : ∀ (S_10 : zS), k_11 (S_10) = some r → zV E (wM cI cZ q ad) 6 S_10 89 [(0, .ref q), (1, .int a1), (2, .int a2), (3, .int a3), (4, .int x4_3)] [] := by
      intro S_10 h
      replace h := hk_11 _ h
      refine zV_iinc (n := 92) C0 4 (v := (x4_3 + (1 : Int32))) [(4, .int (x4_3 + (1 : Int32))), (0, .ref q), (1, .int a1), (2, .int a2), (3, .int a3)] dX5_findBegin_89 rfl rfl rfl (Nat.le_of_ble_eq_true rfl) rfl ?_
      refine zV_goto (tgt := 15) C0 dX5_findBegin_92 rfl ?_
      refine zV_sub [1, 2, 3, 4, 0] rfl ?_
      exact Jrec_5 (x4_3 + (1 : Int32)) S_10 h
    clear hk_11
    refine zjoin_of h (fun k_12 hk_12 h => ?_)
    have Jk_12 : k_12 () = some r → zV E (wM cI cZ q ad) 6 S_4 67 [(0, .ref q), (1, .int a1), (2, .int a2), (3, .int a3), (4, .int x4_3), (5, .int x5_9)] [] := by
      intro  h
      replace h := hk_12 _ h
      refine zV_aload_n (n := 68) C0 0 dX5_findBegin_67 rfl rfl ?_
      refine zV_bipush (n := 70) (v := (10 : Int32)) C0 dX5_findBegin_68 rfl rfl ?_
      refine zV_iload (n := 72) C0 4 dX5_findBegin_70 rfl rfl ?_
      refine zV_iconst (n := 73) (v := (4 : Int32)) C0 dX5_findBegin_72 rfl rfl ?_
      refine zV_idiv (n := 74) C0 dX5_findBegin_73 (by decide) rfl ?_
      refine zV_imul (n := 75) C0 dX5_findBegin_74  rfl ?_
      refine zV_iload (n := 77) C0 4 dX5_findBegin_75 rfl rfl ?_
      refine zV_iconst (n := 78) (v := (4 : Int32)) C0 dX5_findBegin_77 rfl rfl ?_
      refine zV_irem (n := 79) C0 dX5_findBegin_78 (by decide) rfl ?_
      refine zV_iadd (n := 80) C0 dX5_findBegin_79  rfl ?_
      refine zV_put (n := 83) (ref := RX5) C0 hinX5_findBegin_X5 0 rfl rfl 27 (Nat.le_of_ble_eq_true rfl) mX5_findBegin_0 rfl tyX5 tyX5_ok nmX5 rfl (tyX5_ok 27 (Nat.le_of_ble_eq_true rfl)) rfl rfl (Nat.le_of_ble_eq_true rfl) (upd S_4.1 27 (((10 : Int32) * (x4_3 / (4 : Int32))) + (zrem x4_3 (4 : Int32))), S_4.2) (wM_f27 cI cZ q ad S_4 (((10 : Int32) * (x4_3 / (4 : Int32))) + (zrem x4_3 (4 : Int32)))) dX5_findBegin_80 rfl ?_
      refine zV_topS (fun S_13 eS_13 => ?_)
      replace h := zlet_of eS_13 h
      clear eS_13
      refine zV_aload_n (n := 84) C0 0 dX5_findBegin_83 rfl rfl ?_
      refine zV_iload (n := 86) C0 5 dX5_findBegin_84 rfl rfl ?_
      refine zV_put (n := 89) (ref := RX5) C0 hinX5_findBegin_X5 0 rfl rfl 28 (Nat.le_of_ble_eq_true rfl) mX5_findBegin_1 rfl tyX5 tyX5_ok nmX5 rfl (tyX5_ok 28 (Nat.le_of_ble_eq_true rfl)) rfl rfl (Nat.le_of_ble_eq_true rfl) (upd S_13.1 28 x5_9, S_13.2) (wM_f28 cI cZ q ad S_13 x5_9) dX5_findBegin_86 rfl ?_
      refine zV_topS (fun S_14 eS_14 => ?_)
      replace h := zlet_of eS_14 h
      clear eS_14
      refine zV_sub [0, 1, 2, 3, 4] rfl ?_
      exact Jk_11 S_14 h
    clear hk_12
    refine zV_icmp_eq (tgt := 67) (n := 58) C0 dX5_findBegin_55 rfl rfl (fun hb_16 => ?_) (fun hb_16 => ?_)
    · replace h := if_t hb_16 h
      refine zV_sub [1, 2, 3, 4, 5, 0] rfl ?_
      exact Jk_12  h
    · replace h := if_f hb_16 h
      refine zV_iload (n := 60) C0 0 dX5_findBegin_58 rfl rfl ?_
      refine zV_aload_n (n := 61) C0 1 dX5_findBegin_60 rfl rfl ?_
      refine zV_get (n := 64) (ref := RX5) C0 hinX5_findBegin_X5 0 rfl rfl 28 (Nat.le_of_ble_eq_true rfl) mX5_findBegin_1 rfl rfl dX5_findBegin_61 rfl ?_
      refine zV_icmp_ge (tgt := 89) (n := 67) C0 dX5_findBegin_64 rfl rfl (fun hb_15 => ?_) (fun hb_15 => ?_)
      · replace h := if_t hb_15 h
        refine zV_sub [1, 2, 3, 4, 5] rfl ?_
        exact Jk_11 S_4 h
      · replace h := if_f hb_15 h
        refine zV_sub [1, 2, 3, 4, 5, 0] rfl ?_
        exact Jk_12  h
set_option maxRecDepth 20000 in
theorem mX5_begin_0 : Cond.fieldLink RX5 63 "LeggedThroughModel" "thrown" "I" ∈ wsX5_begin := by decide +kernel
set_option maxRecDepth 20000 in
theorem mX5_begin_1 : Cond.fieldLink RX5 165 "LeggedThroughModel" "beginTime" "I" ∈ wsX5_begin := by decide +kernel
set_option maxRecDepth 20000 in
theorem mX5_begin_2 : Cond.fieldLink RX5 162 "LeggedThroughModel" "beginAt" "I" ∈ wsX5_begin := by decide +kernel
set_option maxRecDepth 20000 in
theorem hinX5_begin_X5 : ∀ w ∈ u_ws RX5 TX5 37, w ∈ wsX5_begin := fun w h => List.mem_cons_of_mem _ (List.mem_append_right _ h)
set_option maxRecDepth 20000 in
set_option maxHeartbeats 4000000 in
theorem k_X5_begin {l : Launch} {D : va_G} {cI cZ : ClassId} {q : Nat} {ad : Nat → Nat} (a1 : Int32) (a2 : Int32) (a3 : Int32) (a4 : Int32)  (S : zS) (r : Int32 × zS) (h : f_X5_begin a1 a2 a3 a4 S = some r) : zI l yX5_begin wsX5_begin (zRm 4 103) D (zty cI cZ) zNw (wM cI cZ q ad) [.ref q, .int a1, .int a2, .int a3, .int a4] S r := by
  refine zI_of (cc := cX5_begin) (maxL := 6) (ty := .int) (by decide +kernel) rfl (Nat.le_of_ble_eq_true rfl) zNw_ok (fun E hE1 hE2 C0 hR => ?_)
  subst hE1; subst hE2
  replace C0 : zCx E (zRm 4 103) cX5_begin 6 RX5 wsX5_begin (zty cI cZ) zNw := C0
  show zV E (wM cI cZ q ad) 6 S 0 [(0, .ref q), (1, .int a1), (2, .int a2), (3, .int a3), (4, .int a4)] []
  delta f_X5_begin at h
  refine zV_aload_n (n := 1) C0 0 dX5_begin_0 rfl rfl ?_
  refine zV_iconst (n := 2) (v := (0 : Int32)) C0 dX5_begin_1 rfl rfl ?_
  refine zV_put (n := 5) (ref := RX5) C0 hinX5_begin_X5 0 rfl rfl 0 (Nat.le_of_ble_eq_true rfl) mX5_begin_0 rfl tyX5 tyX5_ok nmX5 rfl (tyX5_ok 0 (Nat.le_of_ble_eq_true rfl)) rfl rfl (Nat.le_of_ble_eq_true rfl) (upd S.1 0 (0 : Int32), S.2) (wM_f0 cI cZ q ad S (0 : Int32)) dX5_begin_2 rfl ?_
  refine zV_topS (fun S_1 eS_1 => ?_)
  replace h := zlet_of eS_1 h
  clear eS_1
  refine zV_aload_n (n := 6) C0 0 dX5_begin_5 rfl rfl ?_
  refine zV_iload_n (n := 7) C0 1 dX5_begin_6 rfl rfl ?_
  refine zV_iload_n (n := 8) C0 2 dX5_begin_7 rfl rfl ?_
  refine zV_iload_n (n := 9) C0 3 dX5_begin_8 rfl rfl ?_
  obtain ⟨r_3, hc_2, h⟩ := ob_of h
  refine zV_callVI (n := 12) (st := []) (As := [.int a1, .int a2, .int a3]) C0 (k_X5_noPair a1 a2 a3 S_1 _ hc_2) gX5_begin_X5_noPair rfl (hd_X5_noPair) rfl ⟨rfl, rfl⟩ ⟨Nat.le_of_ble_eq_true rfl, Nat.le_of_ble_eq_true rfl⟩ 0 rfl rfl rfl (Nat.le_of_ble_eq_true rfl) dX5_begin_9 rfl ?_
  refine zV_istore (n := 14) C0 [(5, .int r_3), (0, .ref q), (1, .int a1), (2, .int a2), (3, .int a3), (4, .int a4)] dX5_begin_12 rfl (Nat.le_of_ble_eq_true rfl) rfl ?_
  refine zV_iload (n := 16) C0 0 dX5_begin_14 rfl rfl ?_
  refine zV_if_eq (tgt := 22) (n := 19) C0 dX5_begin_16 rfl rfl (fun hb_12 => ?_) (fun hb_12 => ?_)
  · replace h := if_t hb_12 h
    refine zV_iload (n := 24) C0 5 dX5_begin_22 rfl rfl ?_
    refine zV_i2l (n := 25) C0 dX5_begin_24  rfl ?_
    refine zV_lconst (n := 26) (v := (0 : Int64)) C0 dX5_begin_25 rfl rfl ?_
    refine zV_lconst (n := 27) (v := (1 : Int64)) C0 dX5_begin_26 rfl rfl ?_
    obtain ⟨r_5, hc_4, h⟩ := ob_of h
    refine zV_callS0 (n := 30) (st := []) (As := [.long a4.toInt64, .long (0 : Int64), .long (1 : Int64)]) C0 (k_X5_in a4.toInt64 (0 : Int64) (1 : Int64) _ hc_4) gX5_begin_X5_in rfl (hd_X5_in) rfl ⟨rfl, rfl⟩ ⟨Nat.le_of_ble_eq_true rfl, Nat.le_of_ble_eq_true rfl⟩ rfl (Nat.le_of_ble_eq_true rfl) dX5_begin_27 rfl ?_
    refine zV_if_ne (tgt := 36) (n := 33) C0 dX5_begin_30 rfl rfl (fun hb_11 => ?_) (fun hb_11 => ?_)
    · replace h := if_f hb_11 h
      refine zV_aload_n (n := 37) C0 1 dX5_begin_36 rfl rfl ?_
      refine zV_iload_n (n := 38) C0 2 dX5_begin_37 rfl rfl ?_
      refine zV_iload_n (n := 39) C0 3 dX5_begin_38 rfl rfl ?_
      refine zV_iload_n (n := 40) C0 4 dX5_begin_39 rfl rfl ?_
      obtain ⟨S_7, hc_6, h⟩ := ob_of h
      refine zV_callVU (n := 43) (st := []) (As := [.int a1, .int a2, .int a3]) C0 (k_X5_findBegin a1 a2 a3 S_1 _ hc_6) gX5_begin_X5_findBegin rfl (hd_X5_findBegin) rfl ⟨rfl, rfl⟩ ⟨Nat.le_of_ble_eq_true rfl, Nat.le_of_ble_eq_true rfl⟩ 0 rfl rfl rfl (Nat.le_of_ble_eq_true rfl) dX5_begin_40 rfl ?_
      refine zV_iload (n := 45) C0 5 dX5_begin_43 rfl rfl ?_
      refine zjoin_of h (fun k_9 hk_9 h => ?_)
      have Jk_9 : ∀ (s_8 : Int32), k_9 (s_8) = some r → zV E (wM cI cZ q ad) 6 S_7 59 [] [.int s_8] := by
        intro s_8 h
        replace h := hk_9 _ h
        exact zretI hR h rfl dX5_begin_59
      clear hk_9
      refine zV_if_ne (tgt := 55) (n := 48) C0 dX5_begin_45 rfl rfl (fun hb_10 => ?_) (fun hb_10 => ?_)
      · replace h := if_f hb_10 h
        refine zV_aload_n (n := 56) C0 1 dX5_begin_55 rfl rfl ?_
        refine zV_get (n := 59) (ref := RX5) C0 hinX5_begin_X5 0 rfl rfl 28 (Nat.le_of_ble_eq_true rfl) mX5_begin_1 rfl rfl dX5_begin_56 rfl ?_
        refine zV_sub [] rfl ?_
        exact Jk_9 (S_7.1 28) h
      · replace h := if_t hb_10 h
        refine zV_aload_n (n := 49) C0 1 dX5_begin_48 rfl rfl ?_
        refine zV_get (n := 52) (ref := RX5) C0 hinX5_begin_X5 0 rfl rfl 27 (Nat.le_of_ble_eq_true rfl) mX5_begin_2 rfl rfl dX5_begin_49 rfl ?_
        refine zV_goto (tgt := 59) C0 dX5_begin_52 rfl ?_
        refine zV_sub [] rfl ?_
        exact Jk_9 (S_7.1 27) h
    · replace h := if_t hb_11 h
      refine zV_bipush (n := 35) (v := (-2 : Int32)) C0 dX5_begin_33 rfl rfl ?_
      exact zretI hR h rfl dX5_begin_35
  · replace h := if_f hb_12 h
    refine zV_iload (n := 21) C0 0 dX5_begin_19 rfl rfl ?_
    exact zretI hR h rfl dX5_begin_21
set_option maxRecDepth 20000 in
theorem mX5_layPairs_0 : Cond.fieldLink RX5 172 "LeggedThroughModel" "pairs" "I" ∈ wsX5_layPairs := by decide +kernel
set_option maxRecDepth 20000 in
theorem mX5_layPairs_1 : Cond.fieldLink RX5 66 "LeggedThroughModel" "leggers" "I" ∈ wsX5_layPairs := by decide +kernel
set_option maxRecDepth 20000 in
theorem mX5_layPairs_2 : Cond.fieldLink RX5 57 "LeggedThroughModel" "pairOne" "[I" ∈ wsX5_layPairs := by decide +kernel
set_option maxRecDepth 20000 in
theorem mX5_layPairs_3 : Cond.fieldLink RX5 60 "LeggedThroughModel" "pairTwo" "[I" ∈ wsX5_layPairs := by decide +kernel
set_option maxRecDepth 20000 in
theorem hinX5_layPairs_X5 : ∀ w ∈ u_ws RX5 TX5 37, w ∈ wsX5_layPairs := fun w h => List.mem_cons_of_mem _ (List.mem_append_right _ h)
set_option maxRecDepth 20000 in
set_option maxHeartbeats 4000000 in
theorem k_X5_layPairs {l : Launch} {D : va_G} {cI cZ : ClassId} {q : Nat} {ad : Nat → Nat}   (S : zS) (r : zS) (h : f_X5_layPairs  S = some r) : zU l yX5_layPairs wsX5_layPairs (zRm 0 0) D (zty cI cZ) zNw (wM cI cZ q ad) [.ref q] S r := by
  refine zU_of (cc := cX5_layPairs) (maxL := 3)  (by decide +kernel) rfl (Nat.le_of_ble_eq_true rfl) zNw_ok (fun E hE1 hE2 C0 hR => ?_)
  subst hE1; subst hE2
  replace C0 : zCx E (zRm 0 0) cX5_layPairs 3 RX5 wsX5_layPairs (zty cI cZ) zNw := C0
  show zV E (wM cI cZ q ad) 3 S 0 [(0, .ref q)] []
  delta f_X5_layPairs at h
  refine zV_aload_n (n := 1) C0 0 dX5_layPairs_0 rfl rfl ?_
  refine zV_iconst (n := 2) (v := (0 : Int32)) C0 dX5_layPairs_1 rfl rfl ?_
  refine zV_put (n := 5) (ref := RX5) C0 hinX5_layPairs_X5 0 rfl rfl 36 (Nat.le_of_ble_eq_true rfl) mX5_layPairs_0 rfl tyX5 tyX5_ok nmX5 rfl (tyX5_ok 36 (Nat.le_of_ble_eq_true rfl)) rfl rfl (Nat.le_of_ble_eq_true rfl) (upd S.1 36 (0 : Int32), S.2) (wM_f36 cI cZ q ad S (0 : Int32)) dX5_layPairs_2 rfl ?_
  refine zV_topS (fun S_1 eS_1 => ?_)
  replace h := zlet_of eS_1 h
  clear eS_1
  refine zV_iconst (n := 6) (v := (0 : Int32)) C0 dX5_layPairs_5 rfl rfl ?_
  refine zV_istore_n (n := 7) C0 [(1, .int (0 : Int32)), (0, .ref q)] dX5_layPairs_6 rfl rfl (Nat.le_of_ble_eq_true rfl) rfl ?_
  refine zV_sub [1, 0] rfl ?_
  refine zfix_ind (fun e => zV E (wM cI cZ q ad) 3 e.2 7 [(0, .ref q), (1, .int e.1)] []) (fun rec_4 hrec_4 e h => ?_) zN ((0 : Int32), S_1) h
  obtain ⟨x1_2, S_3⟩ := e
  have Jrec_4 : ∀ (x1_2 : Int32) (S_3 : zS), rec_4 (x1_2, S_3) = some r → zV E (wM cI cZ q ad) 3 S_3 7 [(0, .ref q), (1, .int x1_2)] [] := fun x1_2 S_3 h => hrec_4 _ h
  clear hrec_4
  dsimp only [F_X5_layPairs_7] at h
  show zV E (wM cI cZ q ad) 3 S_3 7 [(0, .ref q), (1, .int x1_2)] []
  refine zV_iload_n (n := 8) C0 1 dX5_layPairs_7 rfl rfl ?_
  refine zV_aload_n (n := 9) C0 0 dX5_layPairs_8 rfl rfl ?_
  refine zV_get (n := 12) (ref := RX5) C0 hinX5_layPairs_X5 0 rfl rfl 5 (Nat.le_of_ble_eq_true rfl) mX5_layPairs_1 rfl rfl dX5_layPairs_9 rfl ?_
  refine zV_icmp_ge (tgt := 69) (n := 15) C0 dX5_layPairs_12 rfl rfl (fun hb_15 => ?_) (fun hb_15 => ?_)
  · replace h := if_t hb_15 h
    exact zretU hR h dX5_layPairs_69
  · replace h := if_f hb_15 h
    refine zV_iload_n (n := 16) C0 1 dX5_layPairs_15 rfl rfl ?_
    refine zV_iconst (n := 17) (v := (1 : Int32)) C0 dX5_layPairs_16 rfl rfl ?_
    refine zV_iadd (n := 18) C0 dX5_layPairs_17  rfl ?_
    refine zV_topi (fun x2_5 ex2_5 => ?_)
    replace h := zlet_of ex2_5 h
    clear ex2_5
    refine zV_istore_n (n := 19) C0 [(2, .int x2_5), (0, .ref q), (1, .int x1_2)] dX5_layPairs_18 rfl rfl (Nat.le_of_ble_eq_true rfl) rfl ?_
    refine zV_sub [1, 2, 0] rfl ?_
    refine zfix_ind (fun e => zV E (wM cI cZ q ad) 3 e.2 19 [(0, .ref q), (1, .int x1_2), (2, .int e.1)] []) (fun rec_8 hrec_8 e h => ?_) zN (x2_5, S_3) h
    obtain ⟨x2_6, S_7⟩ := e
    have Jrec_8 : ∀ (x2_6 : Int32) (S_7 : zS), rec_8 (x2_6, S_7) = some r → zV E (wM cI cZ q ad) 3 S_7 19 [(0, .ref q), (1, .int x1_2), (2, .int x2_6)] [] := fun x2_6 S_7 h => hrec_8 _ h
    clear hrec_8
    dsimp only [F_X5_layPairs_19] at h
    show zV E (wM cI cZ q ad) 3 S_7 19 [(0, .ref q), (1, .int x1_2), (2, .int x2_6)] []
    refine zV_iload_n (n := 20) C0 2 dX5_layPairs_19 rfl rfl ?_
    refine zV_aload_n (n := 21) C0 0 dX5_layPairs_20 rfl rfl ?_
    refine zV_get (n := 24) (ref := RX5) C0 hinX5_layPairs_X5 0 rfl rfl 5 (Nat.le_of_ble_eq_true rfl) mX5_layPairs_1 rfl rfl dX5_layPairs_21 rfl ?_
    refine zV_icmp_ge (tgt := 63) (n := 27) C0 dX5_layPairs_24 rfl rfl (fun hb_14 => ?_) (fun hb_14 => ?_)
    · replace h := if_t hb_14 h
      refine zV_iinc (n := 66) C0 1 (v := (x1_2 + (1 : Int32))) [(1, .int (x1_2 + (1 : Int32))), (0, .ref q), (2, .int x2_6)] dX5_layPairs_63 rfl rfl rfl (Nat.le_of_ble_eq_true rfl) rfl ?_
      refine zV_goto (tgt := 7) C0 dX5_layPairs_66 rfl ?_
      refine zV_sub [1, 0] rfl ?_
      exact Jrec_4 (x1_2 + (1 : Int32)) S_7 h
    · replace h := if_f hb_14 h
      refine zV_aload_n (n := 28) C0 0 dX5_layPairs_27 rfl rfl ?_
      refine zV_get (n := 31) (ref := RX5) C0 hinX5_layPairs_X5 0 rfl rfl 34 (Nat.le_of_ble_eq_true rfl) mX5_layPairs_2 rfl rfl dX5_layPairs_28 rfl ?_
      refine zV_aload_n (n := 32) C0 0 dX5_layPairs_31 rfl rfl ?_
      refine zV_get (n := 35) (ref := RX5) C0 hinX5_layPairs_X5 0 rfl rfl 36 (Nat.le_of_ble_eq_true rfl) mX5_layPairs_0 rfl rfl dX5_layPairs_32 rfl ?_
      refine zV_iload_n (n := 36) C0 1 dX5_layPairs_35 rfl rfl ?_
      obtain ⟨hg_9, h⟩ := gd_of h
      refine zV_iast (n := 37) C0 15 0 rfl rfl hg_9 (S_7.1, S_7.2.1, zur S_7.2.2 34 (upd (S_7.2.2 34) ((S_7.1 36)).toNatClampNeg x1_2)) (wM_a34 cI cZ q ad S_7 (upd (S_7.2.2 34) ((S_7.1 36)).toNatClampNeg x1_2)) dX5_layPairs_36 rfl ?_
      refine zV_topS (fun S_10 eS_10 => ?_)
      replace h := zlet_of eS_10 h
      clear eS_10
      refine zV_aload_n (n := 38) C0 0 dX5_layPairs_37 rfl rfl ?_
      refine zV_get (n := 41) (ref := RX5) C0 hinX5_layPairs_X5 0 rfl rfl 35 (Nat.le_of_ble_eq_true rfl) mX5_layPairs_3 rfl rfl dX5_layPairs_38 rfl ?_
      refine zV_aload_n (n := 42) C0 0 dX5_layPairs_41 rfl rfl ?_
      refine zV_get (n := 45) (ref := RX5) C0 hinX5_layPairs_X5 0 rfl rfl 36 (Nat.le_of_ble_eq_true rfl) mX5_layPairs_0 rfl rfl dX5_layPairs_42 rfl ?_
      refine zV_iload_n (n := 46) C0 2 dX5_layPairs_45 rfl rfl ?_
      obtain ⟨hg_11, h⟩ := gd_of h
      refine zV_iast (n := 47) C0 16 0 rfl rfl hg_11 (S_10.1, S_10.2.1, zur S_10.2.2 35 (upd (S_10.2.2 35) ((S_10.1 36)).toNatClampNeg x2_6)) (wM_a35 cI cZ q ad S_10 (upd (S_10.2.2 35) ((S_10.1 36)).toNatClampNeg x2_6)) dX5_layPairs_46 rfl ?_
      refine zV_topS (fun S_12 eS_12 => ?_)
      replace h := zlet_of eS_12 h
      clear eS_12
      refine zV_aload_n (n := 48) C0 0 dX5_layPairs_47 rfl rfl ?_
      refine zV_dup (n := 49) C0 dX5_layPairs_48 rfl rfl ?_
      refine zV_get (n := 52) (ref := RX5) C0 hinX5_layPairs_X5 0 rfl rfl 36 (Nat.le_of_ble_eq_true rfl) mX5_layPairs_0 rfl rfl dX5_layPairs_49 rfl ?_
      refine zV_iconst (n := 53) (v := (1 : Int32)) C0 dX5_layPairs_52 rfl rfl ?_
      refine zV_iadd (n := 54) C0 dX5_layPairs_53  rfl ?_
      refine zV_put (n := 57) (ref := RX5) C0 hinX5_layPairs_X5 0 rfl rfl 36 (Nat.le_of_ble_eq_true rfl) mX5_layPairs_0 rfl tyX5 tyX5_ok nmX5 rfl (tyX5_ok 36 (Nat.le_of_ble_eq_true rfl)) rfl rfl (Nat.le_of_ble_eq_true rfl) (upd S_12.1 36 ((S_12.1 36) + (1 : Int32)), S_12.2) (wM_f36 cI cZ q ad S_12 ((S_12.1 36) + (1 : Int32))) dX5_layPairs_54 rfl ?_
      refine zV_topS (fun S_13 eS_13 => ?_)
      replace h := zlet_of eS_13 h
      clear eS_13
      refine zV_iinc (n := 60) C0 2 (v := (x2_6 + (1 : Int32))) [(2, .int (x2_6 + (1 : Int32))), (0, .ref q), (1, .int x1_2)] dX5_layPairs_57 rfl rfl rfl (Nat.le_of_ble_eq_true rfl) rfl ?_
      refine zV_goto (tgt := 19) C0 dX5_layPairs_60 rfl ?_
      refine zV_sub [1, 2, 0] rfl ?_
      exact Jrec_8 (x2_6 + (1 : Int32)) S_13 h
set_option maxRecDepth 20000 in
theorem mX5_findSoonest_0 : Cond.fieldLink RX5 73 "LeggedThroughModel" "boats" "I" ∈ wsX5_findSoonest := by decide +kernel
set_option maxRecDepth 20000 in
theorem mX5_findSoonest_1 : Cond.fieldLink RX5 35 "LeggedThroughModel" "base" "[I" ∈ wsX5_findSoonest := by decide +kernel
set_option maxRecDepth 20000 in
theorem mX5_findSoonest_2 : Cond.fieldLink RX5 172 "LeggedThroughModel" "pairs" "I" ∈ wsX5_findSoonest := by decide +kernel
set_option maxRecDepth 20000 in
theorem mX5_findSoonest_3 : Cond.fieldLink RX5 181 "LeggedThroughModel" "soonTime" "I" ∈ wsX5_findSoonest := by decide +kernel
set_option maxRecDepth 20000 in
theorem mX5_findSoonest_4 : Cond.fieldLink RX5 184 "LeggedThroughModel" "soonRow" "I" ∈ wsX5_findSoonest := by decide +kernel
set_option maxRecDepth 20000 in
theorem mX5_findSoonest_5 : Cond.fieldLink RX5 32 "LeggedThroughModel" "trial" "[I" ∈ wsX5_findSoonest := by decide +kernel
set_option maxRecDepth 20000 in
theorem mX5_findSoonest_6 : Cond.fieldLink RX5 57 "LeggedThroughModel" "pairOne" "[I" ∈ wsX5_findSoonest := by decide +kernel
set_option maxRecDepth 20000 in
theorem mX5_findSoonest_7 : Cond.fieldLink RX5 60 "LeggedThroughModel" "pairTwo" "[I" ∈ wsX5_findSoonest := by decide +kernel
set_option maxRecDepth 20000 in
theorem hinX5_findSoonest_X5 : ∀ w ∈ u_ws RX5 TX5 37, w ∈ wsX5_findSoonest := fun w h => List.mem_cons_of_mem _ (List.mem_append_right _ h)
set_option maxRecDepth 20000 in
set_option maxHeartbeats 4000000 in
theorem k_X5_findSoonest {l : Launch} {D : va_G} {cI cZ : ClassId} {q : Nat} {ad : Nat → Nat}   (S : zS) (r : zS) (h : f_X5_findSoonest  S = some r) : zU l yX5_findSoonest wsX5_findSoonest (zRm 4 102) D (zty cI cZ) zNw (wM cI cZ q ad) [.ref q] S r := by
  refine zU_of (cc := cX5_findSoonest) (maxL := 11)  (by decide +kernel) rfl (Nat.le_of_ble_eq_true rfl) zNw_ok (fun E hE1 hE2 C0 hR => ?_)
  subst hE1; subst hE2
  replace C0 : zCx E (zRm 4 102) cX5_findSoonest 11 RX5 wsX5_findSoonest (zty cI cZ) zNw := C0
  show zV E (wM cI cZ q ad) 11 S 0 [(0, .ref q)] []
  delta f_X5_findSoonest at h
  refine zV_aload_n (n := 1) C0 0 dX5_findSoonest_0 rfl rfl ?_
  obtain ⟨S_2, hc_1, h⟩ := ob_of h
  refine zV_callVU (n := 4) (st := []) (As := []) C0 (k_X5_layPairs  S _ hc_1) gX5_findSoonest_X5_layPairs rfl (hd_X5_layPairs) rfl ⟨rfl, rfl⟩ ⟨Nat.le_of_ble_eq_true rfl, Nat.le_of_ble_eq_true rfl⟩ 0 rfl rfl rfl (Nat.le_of_ble_eq_true rfl) dX5_findSoonest_1 rfl ?_
  refine zV_iconst (n := 5) (v := (1 : Int32)) C0 dX5_findSoonest_4 rfl rfl ?_
  refine zV_aload_n (n := 6) C0 0 dX5_findSoonest_5 rfl rfl ?_
  refine zV_get (n := 9) (ref := RX5) C0 hinX5_findSoonest_X5 0 rfl rfl 7 (Nat.le_of_ble_eq_true rfl) mX5_findSoonest_0 rfl rfl dX5_findSoonest_6 rfl ?_
  refine zV_ishl (n := 10) C0 dX5_findSoonest_9  rfl ?_
  refine zV_iconst (n := 11) (v := (1 : Int32)) C0 dX5_findSoonest_10 rfl rfl ?_
  refine zV_isub (n := 12) C0 dX5_findSoonest_11  rfl ?_
  refine zV_aload_n (n := 13) C0 0 dX5_findSoonest_12 rfl rfl ?_
  refine zV_get (n := 16) (ref := RX5) C0 hinX5_findSoonest_X5 0 rfl rfl 16 (Nat.le_of_ble_eq_true rfl) mX5_findSoonest_1 rfl rfl dX5_findSoonest_13 rfl ?_
  refine zV_bipush (n := 18) (v := (20 : Int32)) C0 dX5_findSoonest_16 rfl rfl ?_
  obtain ⟨hg_3, h⟩ := gd_of h
  refine zV_iald (n := 19) C0 8 0 rfl rfl hg_3 dX5_findSoonest_18 rfl ?_
  refine zV_iconst (n := 20) (v := (-1 : Int32)) C0 dX5_findSoonest_19 rfl rfl ?_
  refine zV_ixor (n := 21) C0 dX5_findSoonest_20  rfl ?_
  refine zV_iand (n := 22) C0 dX5_findSoonest_21  rfl ?_
  refine zV_topi (fun x1_4 ex1_4 => ?_)
  replace h := zlet_of ex1_4 h
  clear ex1_4
  refine zV_istore_n (n := 23) C0 [(1, .int x1_4), (0, .ref q)] dX5_findSoonest_22 rfl rfl (Nat.le_of_ble_eq_true rfl) rfl ?_
  refine zV_iload_n (n := 24) C0 0 dX5_findSoonest_23 rfl rfl ?_
  obtain ⟨r_6, hc_5, h⟩ := ob_of h
  refine zV_callS0 (n := 27) (st := []) (As := [.int x1_4]) C0 (k_X5_many x1_4 _ hc_5) gX5_findSoonest_X5_many rfl (hd_X5_many) rfl ⟨rfl, rfl⟩ ⟨Nat.le_of_ble_eq_true rfl, Nat.le_of_ble_eq_true rfl⟩ rfl (Nat.le_of_ble_eq_true rfl) dX5_findSoonest_24 rfl ?_
  refine zV_istore_n (n := 28) C0 [(2, .int r_6), (1, .int x1_4), (0, .ref q)] dX5_findSoonest_27 rfl rfl (Nat.le_of_ble_eq_true rfl) rfl ?_
  refine zV_aload_n (n := 29) C0 2 dX5_findSoonest_28 rfl rfl ?_
  refine zV_get (n := 32) (ref := RX5) C0 hinX5_findSoonest_X5 0 rfl rfl 7 (Nat.le_of_ble_eq_true rfl) mX5_findSoonest_0 rfl rfl dX5_findSoonest_29 rfl ?_
  refine zV_aload_n (n := 33) C0 2 dX5_findSoonest_32 rfl rfl ?_
  refine zV_get (n := 36) (ref := RX5) C0 hinX5_findSoonest_X5 0 rfl rfl 36 (Nat.le_of_ble_eq_true rfl) mX5_findSoonest_2 rfl rfl dX5_findSoonest_33 rfl ?_
  refine zV_imul (n := 37) C0 dX5_findSoonest_36  rfl ?_
  refine zV_topi (fun x3_7 ex3_7 => ?_)
  replace h := zlet_of ex3_7 h
  clear ex3_7
  refine zV_istore_n (n := 38) C0 [(3, .int x3_7), (2, .int r_6), (1, .int x1_4), (0, .ref q)] dX5_findSoonest_37 rfl rfl (Nat.le_of_ble_eq_true rfl) rfl ?_
  refine zV_aload_n (n := 39) C0 3 dX5_findSoonest_38 rfl rfl ?_
  refine zV_iload_n (n := 40) C0 1 dX5_findSoonest_39 rfl rfl ?_
  refine zjoin_of h (fun k_9 hk_9 h => ?_)
  have Jk_9 : ∀ (s_8 : Int32), k_9 (s_8) = some r → zV E (wM cI cZ q ad) 11 S_2 49 [(0, .ref q), (2, .int r_6), (3, .int x3_7)] [.int s_8, .ref q] := by
    intro s_8 h
    replace h := hk_9 _ h
    refine zV_put (n := 52) (ref := RX5) C0 hinX5_findSoonest_X5 0 rfl rfl 29 (Nat.le_of_ble_eq_true rfl) mX5_findSoonest_3 rfl tyX5 tyX5_ok nmX5 rfl (tyX5_ok 29 (Nat.le_of_ble_eq_true rfl)) rfl rfl (Nat.le_of_ble_eq_true rfl) (upd S_2.1 29 s_8, S_2.2) (wM_f29 cI cZ q ad S_2 s_8) dX5_findSoonest_49 rfl ?_
    refine zV_topS (fun S_10 eS_10 => ?_)
    replace h := zlet_of eS_10 h
    clear eS_10
    refine zV_aload_n (n := 53) C0 0 dX5_findSoonest_52 rfl rfl ?_
    refine zV_iload_n (n := 54) C0 1 dX5_findSoonest_53 rfl rfl ?_
    refine zjoin_of h (fun k_12 hk_12 h => ?_)
    have Jk_12 : ∀ (s_11 : Int32), k_12 (s_11) = some r → zV E (wM cI cZ q ad) 11 S_10 63 [(0, .ref q), (2, .int r_6), (3, .int x3_7)] [.int s_11, .ref q] := by
      intro s_11 h
      replace h := hk_12 _ h
      refine zV_put (n := 66) (ref := RX5) C0 hinX5_findSoonest_X5 0 rfl rfl 30 (Nat.le_of_ble_eq_true rfl) mX5_findSoonest_4 rfl tyX5 tyX5_ok nmX5 rfl (tyX5_ok 30 (Nat.le_of_ble_eq_true rfl)) rfl rfl (Nat.le_of_ble_eq_true rfl) (upd S_10.1 30 s_11, S_10.2) (wM_f30 cI cZ q ad S_10 s_11) dX5_findSoonest_63 rfl ?_
      refine zV_topS (fun S_13 eS_13 => ?_)
      replace h := zlet_of eS_13 h
      clear eS_13
      refine zV_iconst (n := 67) (v := (0 : Int32)) C0 dX5_findSoonest_66 rfl rfl ?_
      refine zV_istore (n := 69) C0 [(4, .int (0 : Int32)), (0, .ref q), (2, .int r_6), (3, .int x3_7)] dX5_findSoonest_67 rfl (Nat.le_of_ble_eq_true rfl) rfl ?_
      refine zV_sub [1, 2, 3, 0] rfl ?_
      refine zfix_ind (fun e => zV E (wM cI cZ q ad) 11 e.2 69 [(0, .ref q), (2, .int r_6), (3, .int x3_7), (4, .int e.1)] []) (fun rec_16 hrec_16 e h => ?_) zN ((0 : Int32), S_13) h
      obtain ⟨x4_14, S_15⟩ := e
      have Jrec_16 : ∀ (x4_14 : Int32) (S_15 : zS), rec_16 (x4_14, S_15) = some r → zV E (wM cI cZ q ad) 11 S_15 69 [(0, .ref q), (2, .int r_6), (3, .int x3_7), (4, .int x4_14)] [] := fun x4_14 S_15 h => hrec_16 _ h
      clear hrec_16
      dsimp only [F_X5_findSoonest_69] at h
      show zV E (wM cI cZ q ad) 11 S_15 69 [(0, .ref q), (2, .int r_6), (3, .int x3_7), (4, .int x4_14)] []
      refine zV_iload (n := 71) C0 3 dX5_findSoonest_69 rfl rfl ?_
      refine zV_iload_n (n := 72) C0 2 dX5_findSoonest_71 rfl rfl ?_
      refine zV_iload_n (n := 73) C0 1 dX5_findSoonest_72 rfl rfl ?_
      obtain ⟨r_18, hc_17, h⟩ := ob_of h
      refine zV_callS0 (n := 76) (st := [.int x4_14]) (As := [.int x3_7, .int r_6]) C0 (k_X5_power x3_7 r_6 _ hc_17) gX5_findSoonest_X5_power rfl (hd_X5_power) rfl ⟨rfl, rfl⟩ ⟨Nat.le_of_ble_eq_true rfl, Nat.le_of_ble_eq_true rfl⟩ rfl (Nat.le_of_ble_eq_true rfl) dX5_findSoonest_73 rfl ?_
      refine zjoin_of h (fun k_19 hk_19 h => ?_)
      have Jk_19 : k_19 () = some r → zV E (wM cI cZ q ad) 11 S_15 294 [] [] := by
        intro  h
        replace h := hk_19 _ h
        exact zretU hR h dX5_findSoonest_294
      clear hk_19
      refine zV_icmp_ge (tgt := 294) (n := 79) C0 dX5_findSoonest_76 rfl rfl (fun hb_68 => ?_) (fun hb_68 => ?_)
      · replace h := if_t hb_68 h
        refine zV_sub [] rfl ?_
        exact Jk_19  h
      · replace h := if_f hb_68 h
        refine zV_iload_n (n := 80) C0 1 dX5_findSoonest_79 rfl rfl ?_
        refine zV_if_le (tgt := 294) (n := 83) C0 dX5_findSoonest_80 rfl rfl (fun hb_67 => ?_) (fun hb_67 => ?_)
        · replace h := if_t hb_67 h
          refine zV_sub [] rfl ?_
          exact Jk_19  h
        · replace h := if_f hb_67 h
          refine zV_aload_n (n := 84) C0 0 dX5_findSoonest_83 rfl rfl ?_
          refine zV_get (n := 87) (ref := RX5) C0 hinX5_findSoonest_X5 0 rfl rfl 16 (Nat.le_of_ble_eq_true rfl) mX5_findSoonest_1 rfl rfl dX5_findSoonest_84 rfl ?_
          refine zV_aload_n (n := 88) C0 0 dX5_findSoonest_87 rfl rfl ?_
          refine zV_get (n := 91) (ref := RX5) C0 hinX5_findSoonest_X5 0 rfl rfl 15 (Nat.le_of_ble_eq_true rfl) mX5_findSoonest_5 rfl rfl dX5_findSoonest_88 rfl ?_
          obtain ⟨S_21, hc_20, h⟩ := ob_of h
          refine zV_callSU (n := 94) (st := []) (As := [.ref (ad 16), .ref (ad 15)]) C0 (k_X5_copy 16 15 (by decide) (by decide) S_15 _ hc_20) gX5_findSoonest_X5_copy rfl (hd_X5_copy) rfl ⟨rfl, rfl⟩ ⟨Nat.le_of_ble_eq_true rfl, Nat.le_of_ble_eq_true rfl⟩ rfl (Nat.le_of_ble_eq_true rfl) dX5_findSoonest_91 rfl ?_
          refine zV_iconst (n := 95) (v := (0 : Int32)) C0 dX5_findSoonest_94 rfl rfl ?_
          refine zV_istore (n := 97) C0 [(5, .int (0 : Int32)), (0, .ref q), (2, .int r_6), (3, .int x3_7), (4, .int x4_14)] dX5_findSoonest_95 rfl (Nat.le_of_ble_eq_true rfl) rfl ?_
          refine zV_iconst (n := 98) (v := (1 : Int32)) C0 dX5_findSoonest_97 rfl rfl ?_
          refine zV_istore (n := 100) C0 [(6, .int (1 : Int32)), (5, .int (0 : Int32)), (0, .ref q), (2, .int r_6), (3, .int x3_7), (4, .int x4_14)] dX5_findSoonest_98 rfl (Nat.le_of_ble_eq_true rfl) rfl ?_
          refine zV_iload_n (n := 101) C0 3 dX5_findSoonest_100 rfl rfl ?_
          refine zV_iconst (n := 102) (v := (1 : Int32)) C0 dX5_findSoonest_101 rfl rfl ?_
          refine zV_isub (n := 103) C0 dX5_findSoonest_102  rfl ?_
          refine zV_topi (fun x7_22 ex7_22 => ?_)
          replace h := zlet_of ex7_22 h
          clear ex7_22
          refine zV_istore (n := 105) C0 [(7, .int x7_22), (6, .int (1 : Int32)), (5, .int (0 : Int32)), (0, .ref q), (2, .int r_6), (3, .int x3_7), (4, .int x4_14)] dX5_findSoonest_103 rfl (Nat.le_of_ble_eq_true rfl) rfl ?_
          refine zV_sub [3, 4, 5, 6, 2, 1, 0] rfl ?_
          refine zfix_ind (fun e => zV E (wM cI cZ q ad) 11 e.2.2.2 105 [(0, .ref q), (2, .int r_6), (3, .int x3_7), (4, .int x4_14), (5, .int e.1), (6, .int e.2.1), (7, .int e.2.2.1)] []) (fun rec_27 hrec_27 e h => ?_) zN ((0 : Int32), (1 : Int32), x7_22, S_21) h
          obtain ⟨x5_23, x6_24, x7_25, S_26⟩ := e
          have Jrec_27 : ∀ (x5_23 : Int32) (x6_24 : Int32) (x7_25 : Int32) (S_26 : zS), rec_27 (x5_23, x6_24, x7_25, S_26) = some r → zV E (wM cI cZ q ad) 11 S_26 105 [(0, .ref q), (2, .int r_6), (3, .int x3_7), (4, .int x4_14), (5, .int x5_23), (6, .int x6_24), (7, .int x7_25)] [] := fun x5_23 x6_24 x7_25 S_26 h => hrec_27 _ h
          clear hrec_27
          dsimp only [F_X5_findSoonest_105] at h
          show zV E (wM cI cZ q ad) 11 S_26 105 [(0, .ref q), (2, .int r_6), (3, .int x3_7), (4, .int x4_14), (5, .int x5_23), (6, .int x6_24), (7, .int x7_25)] []
          refine zV_iload (n := 107) C0 6 dX5_findSoonest_105 rfl rfl ?_
          refine zjoin_of h (fun k_28 hk_28 h => ?_)
          have Jk_28 : k_28 () = some r → zV E (wM cI cZ q ad) 11 S_26 236 [(0, .ref q), (2, .int r_6), (3, .int x3_7), (4, .int x4_14), (5, .int x5_23), (6, .int x6_24)] [] := by
            intro  h
            replace h := hk_28 _ h
            refine zV_aload_n (n := 237) C0 0 dX5_findSoonest_236 rfl rfl ?_
            refine zV_get (n := 240) (ref := RX5) C0 hinX5_findSoonest_X5 0 rfl rfl 15 (Nat.le_of_ble_eq_true rfl) mX5_findSoonest_5 rfl rfl dX5_findSoonest_237 rfl ?_
            refine zV_bipush (n := 242) (v := (21 : Int32)) C0 dX5_findSoonest_240 rfl rfl ?_
            obtain ⟨hg_29, h⟩ := gd_of h
            refine zV_iald (n := 243) C0 7 0 rfl rfl hg_29 dX5_findSoonest_242 rfl ?_
            refine zV_aload_n (n := 244) C0 0 dX5_findSoonest_243 rfl rfl ?_
            refine zV_get (n := 247) (ref := RX5) C0 hinX5_findSoonest_X5 0 rfl rfl 16 (Nat.le_of_ble_eq_true rfl) mX5_findSoonest_1 rfl rfl dX5_findSoonest_244 rfl ?_
            refine zV_bipush (n := 249) (v := (21 : Int32)) C0 dX5_findSoonest_247 rfl rfl ?_
            obtain ⟨hg_30, h⟩ := gd_of h
            refine zV_iald (n := 250) C0 8 0 rfl rfl hg_30 dX5_findSoonest_249 rfl ?_
            refine zV_isub (n := 251) C0 dX5_findSoonest_250  rfl ?_
            refine zV_topi (fun x7_31 ex7_31 => ?_)
            replace h := zlet_of ex7_31 h
            clear ex7_31
            refine zV_istore (n := 253) C0 [(7, .int x7_31), (0, .ref q), (2, .int r_6), (3, .int x3_7), (4, .int x4_14), (5, .int x5_23), (6, .int x6_24)] dX5_findSoonest_251 rfl (Nat.le_of_ble_eq_true rfl) rfl ?_
            refine zV_iload (n := 255) C0 6 dX5_findSoonest_253 rfl rfl ?_
            refine zjoin_of h (fun k_33 hk_33 h => ?_)
            have Jk_33 : ∀ (S_32 : zS), k_33 (S_32) = some r → zV E (wM cI cZ q ad) 11 S_32 288 [(0, .ref q), (2, .int r_6), (3, .int x3_7), (4, .int x4_14)] [] := by
              intro S_32 h
              replace h := hk_33 _ h
              refine zV_iinc (n := 291) C0 3 (v := (x4_14 + (1 : Int32))) [(4, .int (x4_14 + (1 : Int32))), (0, .ref q), (2, .int r_6), (3, .int x3_7)] dX5_findSoonest_288 rfl rfl rfl (Nat.le_of_ble_eq_true rfl) rfl ?_
              refine zV_goto (tgt := 69) C0 dX5_findSoonest_291 rfl ?_
              refine zV_sub [1, 2, 3, 0] rfl ?_
              exact Jrec_16 (x4_14 + (1 : Int32)) S_32 h
            clear hk_33
            refine zV_if_eq (tgt := 288) (n := 258) C0 dX5_findSoonest_255 rfl rfl (fun hb_39 => ?_) (fun hb_39 => ?_)
            · replace h := if_t hb_39 h
              refine zV_sub [1, 2, 3, 4] rfl ?_
              exact Jk_33 S_26 h
            · replace h := if_f hb_39 h
              refine zV_aload_n (n := 259) C0 1 dX5_findSoonest_258 rfl rfl ?_
              refine zV_get (n := 262) (ref := RX5) C0 hinX5_findSoonest_X5 0 rfl rfl 29 (Nat.le_of_ble_eq_true rfl) mX5_findSoonest_3 rfl rfl dX5_findSoonest_259 rfl ?_
              refine zV_bipush (n := 264) (v := (-9 : Int32)) C0 dX5_findSoonest_262 rfl rfl ?_
              refine zjoin_of h (fun k_34 hk_34 h => ?_)
              have Jk_34 : k_34 () = some r → zV E (wM cI cZ q ad) 11 S_26 276 [(0, .ref q), (2, .int r_6), (3, .int x3_7), (4, .int x4_14), (5, .int x5_23), (7, .int x7_31)] [] := by
                intro  h
                replace h := hk_34 _ h
                refine zV_aload_n (n := 277) C0 0 dX5_findSoonest_276 rfl rfl ?_
                refine zV_iload (n := 279) C0 5 dX5_findSoonest_277 rfl rfl ?_
                refine zV_put (n := 282) (ref := RX5) C0 hinX5_findSoonest_X5 0 rfl rfl 29 (Nat.le_of_ble_eq_true rfl) mX5_findSoonest_3 rfl tyX5 tyX5_ok nmX5 rfl (tyX5_ok 29 (Nat.le_of_ble_eq_true rfl)) rfl rfl (Nat.le_of_ble_eq_true rfl) (upd S_26.1 29 x7_31, S_26.2) (wM_f29 cI cZ q ad S_26 x7_31) dX5_findSoonest_279 rfl ?_
                refine zV_topS (fun S_35 eS_35 => ?_)
                replace h := zlet_of eS_35 h
                clear eS_35
                refine zV_aload_n (n := 283) C0 0 dX5_findSoonest_282 rfl rfl ?_
                refine zV_iload (n := 285) C0 4 dX5_findSoonest_283 rfl rfl ?_
                refine zV_put (n := 288) (ref := RX5) C0 hinX5_findSoonest_X5 0 rfl rfl 30 (Nat.le_of_ble_eq_true rfl) mX5_findSoonest_4 rfl tyX5 tyX5_ok nmX5 rfl (tyX5_ok 30 (Nat.le_of_ble_eq_true rfl)) rfl rfl (Nat.le_of_ble_eq_true rfl) (upd S_35.1 30 x5_23, S_35.2) (wM_f30 cI cZ q ad S_35 x5_23) dX5_findSoonest_285 rfl ?_
                refine zV_topS (fun S_36 eS_36 => ?_)
                replace h := zlet_of eS_36 h
                clear eS_36
                refine zV_sub [0, 1, 2, 3] rfl ?_
                exact Jk_33 S_36 h
              clear hk_34
              refine zV_icmp_eq (tgt := 276) (n := 267) C0 dX5_findSoonest_264 rfl rfl (fun hb_38 => ?_) (fun hb_38 => ?_)
              · replace h := if_t hb_38 h
                refine zV_sub [1, 2, 3, 4, 5, 0] rfl ?_
                exact Jk_34  h
              · replace h := if_f hb_38 h
                refine zV_iload (n := 269) C0 0 dX5_findSoonest_267 rfl rfl ?_
                refine zV_aload_n (n := 270) C0 1 dX5_findSoonest_269 rfl rfl ?_
                refine zV_get (n := 273) (ref := RX5) C0 hinX5_findSoonest_X5 0 rfl rfl 29 (Nat.le_of_ble_eq_true rfl) mX5_findSoonest_3 rfl rfl dX5_findSoonest_270 rfl ?_
                refine zV_icmp_ge (tgt := 288) (n := 276) C0 dX5_findSoonest_273 rfl rfl (fun hb_37 => ?_) (fun hb_37 => ?_)
                · replace h := if_t hb_37 h
                  refine zV_sub [1, 2, 3, 4] rfl ?_
                  exact Jk_33 S_26 h
                · replace h := if_f hb_37 h
                  refine zV_sub [1, 2, 3, 4, 5, 0] rfl ?_
                  exact Jk_34  h
          clear hk_28
          refine zV_if_lt (tgt := 236) (n := 110) C0 dX5_findSoonest_107 rfl rfl (fun hb_66 => ?_) (fun hb_66 => ?_)
          · replace h := if_t hb_66 h
            refine zV_sub [0, 1, 2, 3, 4, 5] rfl ?_
            exact Jk_28  h
          · replace h := if_f hb_66 h
            refine zV_iload (n := 112) C0 5 dX5_findSoonest_110 rfl rfl ?_
            refine zV_if_eq (tgt := 236) (n := 115) C0 dX5_findSoonest_112 rfl rfl (fun hb_65 => ?_) (fun hb_65 => ?_)
            · replace h := if_t hb_65 h
              refine zV_sub [0, 1, 2, 3, 4, 5] rfl ?_
              exact Jk_28  h
            · replace h := if_f hb_65 h
              refine zV_iload (n := 117) C0 3 dX5_findSoonest_115 rfl rfl ?_
              refine zV_iload_n (n := 118) C0 2 dX5_findSoonest_117 rfl rfl ?_
              refine zV_iload (n := 120) C0 6 dX5_findSoonest_118 rfl rfl ?_
              obtain ⟨r_41, hc_40, h⟩ := ob_of h
              refine zV_callS0 (n := 123) (st := [.int x4_14]) (As := [.int x3_7, .int x7_25]) C0 (k_X5_power x3_7 x7_25 _ hc_40) gX5_findSoonest_X5_power rfl (hd_X5_power) rfl ⟨rfl, rfl⟩ ⟨Nat.le_of_ble_eq_true rfl, Nat.le_of_ble_eq_true rfl⟩ rfl (Nat.le_of_ble_eq_true rfl) dX5_findSoonest_120 rfl ?_
              obtain ⟨hg_42, h⟩ := gd_of h
              refine zV_idiv (n := 124) C0 dX5_findSoonest_123 hg_42 rfl ?_
              refine zV_iload_n (n := 125) C0 2 dX5_findSoonest_124 rfl rfl ?_
              obtain ⟨hg_43, h⟩ := gd_of h
              refine zV_irem (n := 126) C0 dX5_findSoonest_125 hg_43 rfl ?_
              refine zV_topi (fun x8_44 ex8_44 => ?_)
              replace h := zlet_of ex8_44 h
              clear ex8_44
              refine zV_istore (n := 128) C0 [(8, .int x8_44), (0, .ref q), (2, .int r_6), (3, .int x3_7), (4, .int x4_14), (5, .int x5_23), (6, .int x6_24), (7, .int x7_25)] dX5_findSoonest_126 rfl (Nat.le_of_ble_eq_true rfl) rfl ?_
              refine zV_iload (n := 130) C0 0 dX5_findSoonest_128 rfl rfl ?_
              refine zV_aload_n (n := 131) C0 1 dX5_findSoonest_130 rfl rfl ?_
              refine zV_get (n := 134) (ref := RX5) C0 hinX5_findSoonest_X5 0 rfl rfl 36 (Nat.le_of_ble_eq_true rfl) mX5_findSoonest_2 rfl rfl dX5_findSoonest_131 rfl ?_
              obtain ⟨hg_45, h⟩ := gd_of h
              refine zV_idiv (n := 135) C0 dX5_findSoonest_134 hg_45 rfl ?_
              refine zV_topi (fun x9_46 ex9_46 => ?_)
              replace h := zlet_of ex9_46 h
              clear ex9_46
              refine zV_istore (n := 137) C0 [(9, .int x9_46), (8, .int x8_44), (0, .ref q), (2, .int r_6), (3, .int x3_7), (4, .int x4_14), (5, .int x5_23), (6, .int x6_24), (7, .int x7_25)] dX5_findSoonest_135 rfl (Nat.le_of_ble_eq_true rfl) rfl ?_
              refine zV_iload (n := 139) C0 1 dX5_findSoonest_137 rfl rfl ?_
              refine zV_aload_n (n := 140) C0 2 dX5_findSoonest_139 rfl rfl ?_
              refine zV_get (n := 143) (ref := RX5) C0 hinX5_findSoonest_X5 0 rfl rfl 36 (Nat.le_of_ble_eq_true rfl) mX5_findSoonest_2 rfl rfl dX5_findSoonest_140 rfl ?_
              obtain ⟨hg_47, h⟩ := gd_of h
              refine zV_irem (n := 144) C0 dX5_findSoonest_143 hg_47 rfl ?_
              refine zV_topi (fun x10_48 ex10_48 => ?_)
              replace h := zlet_of ex10_48 h
              clear ex10_48
              refine zV_istore (n := 146) C0 [(10, .int x10_48), (9, .int x9_46), (8, .int x8_44), (0, .ref q), (2, .int r_6), (3, .int x3_7), (4, .int x4_14), (5, .int x5_23), (6, .int x6_24), (7, .int x7_25)] dX5_findSoonest_144 rfl (Nat.le_of_ble_eq_true rfl) rfl ?_
              refine zV_aload_n (n := 147) C0 3 dX5_findSoonest_146 rfl rfl ?_
              refine zV_get (n := 150) (ref := RX5) C0 hinX5_findSoonest_X5 0 rfl rfl 15 (Nat.le_of_ble_eq_true rfl) mX5_findSoonest_5 rfl rfl dX5_findSoonest_147 rfl ?_
              refine zV_bipush (n := 152) (v := (20 : Int32)) C0 dX5_findSoonest_150 rfl rfl ?_
              obtain ⟨hg_49, h⟩ := gd_of h
              refine zV_iald (n := 153) C0 7 0 rfl rfl hg_49 dX5_findSoonest_152 rfl ?_
              refine zV_iload (n := 155) C0 1 dX5_findSoonest_153 rfl rfl ?_
              obtain ⟨r_51, hc_50, h⟩ := ob_of h
              refine zV_callS0 (n := 158) (st := []) (As := [.int (S_26.2.2 15 ((20 : Int32)).toNatClampNeg), .int x9_46]) C0 (k_X5_has (S_26.2.2 15 ((20 : Int32)).toNatClampNeg) x9_46 _ hc_50) gX5_findSoonest_X5_has rfl (hd_X5_has) rfl ⟨rfl, rfl⟩ ⟨Nat.le_of_ble_eq_true rfl, Nat.le_of_ble_eq_true rfl⟩ rfl (Nat.le_of_ble_eq_true rfl) dX5_findSoonest_155 rfl ?_
              refine zjoin_of h (fun k_53 hk_53 h => ?_)
              have Jk_53 : ∀ (s_52 : Int32), k_53 (s_52) = some r → zV E (wM cI cZ q ad) 11 S_26 166 [(0, .ref q), (2, .int r_6), (3, .int x3_7), (4, .int x4_14), (5, .int x5_23), (7, .int x7_25), (9, .int x9_46), (10, .int x10_48)] [.int s_52] := by
                intro s_52 h
                replace h := hk_53 _ h
                refine zV_istore (n := 168) C0 [(6, .int s_52), (0, .ref q), (2, .int r_6), (3, .int x3_7), (4, .int x4_14), (5, .int x5_23), (7, .int x7_25), (9, .int x9_46), (10, .int x10_48)] dX5_findSoonest_166 rfl (Nat.le_of_ble_eq_true rfl) rfl ?_
                refine zV_sipush (n := 171) (v := (1000 : Int32)) C0 dX5_findSoonest_168 rfl rfl ?_
                refine zV_iload (n := 173) C0 5 dX5_findSoonest_171 rfl rfl ?_
                refine zV_imul (n := 174) C0 dX5_findSoonest_173  rfl ?_
                refine zV_bipush (n := 176) (v := (100 : Int32)) C0 dX5_findSoonest_174 rfl rfl ?_
                refine zV_iload (n := 178) C0 7 dX5_findSoonest_176 rfl rfl ?_
                refine zV_imul (n := 179) C0 dX5_findSoonest_178  rfl ?_
                refine zV_iadd (n := 180) C0 dX5_findSoonest_179  rfl ?_
                refine zV_bipush (n := 182) (v := (10 : Int32)) C0 dX5_findSoonest_180 rfl rfl ?_
                refine zV_aload_n (n := 183) C0 1 dX5_findSoonest_182 rfl rfl ?_
                refine zV_get (n := 186) (ref := RX5) C0 hinX5_findSoonest_X5 0 rfl rfl 34 (Nat.le_of_ble_eq_true rfl) mX5_findSoonest_6 rfl rfl dX5_findSoonest_183 rfl ?_
                refine zV_iload (n := 188) C0 8 dX5_findSoonest_186 rfl rfl ?_
                obtain ⟨hg_54, h⟩ := gd_of h
                refine zV_iald (n := 189) C0 15 0 rfl rfl hg_54 dX5_findSoonest_188 rfl ?_
                refine zV_imul (n := 190) C0 dX5_findSoonest_189  rfl ?_
                refine zV_iadd (n := 191) C0 dX5_findSoonest_190  rfl ?_
                refine zV_aload_n (n := 192) C0 1 dX5_findSoonest_191 rfl rfl ?_
                refine zV_get (n := 195) (ref := RX5) C0 hinX5_findSoonest_X5 0 rfl rfl 35 (Nat.le_of_ble_eq_true rfl) mX5_findSoonest_7 rfl rfl dX5_findSoonest_192 rfl ?_
                refine zV_iload (n := 197) C0 8 dX5_findSoonest_195 rfl rfl ?_
                obtain ⟨hg_55, h⟩ := gd_of h
                refine zV_iald (n := 198) C0 16 0 rfl rfl hg_55 dX5_findSoonest_197 rfl ?_
                refine zV_iadd (n := 199) C0 dX5_findSoonest_198  rfl ?_
                refine zV_topi (fun x5_56 ex5_56 => ?_)
                replace h := zlet_of ex5_56 h
                clear ex5_56
                refine zV_istore (n := 201) C0 [(5, .int x5_56), (6, .int s_52), (0, .ref q), (2, .int r_6), (3, .int x3_7), (4, .int x4_14), (7, .int x7_25), (9, .int x9_46), (10, .int x10_48)] dX5_findSoonest_199 rfl (Nat.le_of_ble_eq_true rfl) rfl ?_
                refine zV_iload (n := 203) C0 1 dX5_findSoonest_201 rfl rfl ?_
                refine zjoin_of h (fun k_58 hk_58 h => ?_)
                have Jk_58 : ∀ (S_57 : zS), k_58 (S_57) = some r → zV E (wM cI cZ q ad) 11 S_57 230 [(0, .ref q), (2, .int r_6), (3, .int x3_7), (4, .int x4_14), (5, .int x5_56), (6, .int s_52), (7, .int x7_25)] [] := by
                  intro S_57 h
                  replace h := hk_58 _ h
                  refine zV_iinc (n := 233) C0 6 (v := (x7_25 + (-1 : Int32))) [(7, .int (x7_25 + (-1 : Int32))), (0, .ref q), (2, .int r_6), (3, .int x3_7), (4, .int x4_14), (5, .int x5_56), (6, .int s_52)] dX5_findSoonest_230 rfl rfl rfl (Nat.le_of_ble_eq_true rfl) rfl ?_
                  refine zV_goto (tgt := 105) C0 dX5_findSoonest_233 rfl ?_
                  refine zV_sub [1, 2, 3, 4, 5, 6, 0] rfl ?_
                  exact Jrec_27 x5_56 s_52 (x7_25 + (-1 : Int32)) S_57 h
                clear hk_58
                refine zV_if_eq (tgt := 230) (n := 206) C0 dX5_findSoonest_203 rfl rfl (fun hb_63 => ?_) (fun hb_63 => ?_)
                · replace h := if_t hb_63 h
                  refine zV_sub [2, 3, 4, 5, 0, 1, 6] rfl ?_
                  exact Jk_58 S_26 h
                · replace h := if_f hb_63 h
                  refine zV_aload_n (n := 207) C0 2 dX5_findSoonest_206 rfl rfl ?_
                  refine zV_aload_n (n := 208) C0 2 dX5_findSoonest_207 rfl rfl ?_
                  refine zV_get (n := 211) (ref := RX5) C0 hinX5_findSoonest_X5 0 rfl rfl 15 (Nat.le_of_ble_eq_true rfl) mX5_findSoonest_5 rfl rfl dX5_findSoonest_208 rfl ?_
                  refine zV_iload (n := 213) C0 7 dX5_findSoonest_211 rfl rfl ?_
                  refine zV_aload_n (n := 214) C0 2 dX5_findSoonest_213 rfl rfl ?_
                  refine zV_get (n := 217) (ref := RX5) C0 hinX5_findSoonest_X5 0 rfl rfl 34 (Nat.le_of_ble_eq_true rfl) mX5_findSoonest_6 rfl rfl dX5_findSoonest_214 rfl ?_
                  refine zV_iload (n := 219) C0 8 dX5_findSoonest_217 rfl rfl ?_
                  obtain ⟨hg_59, h⟩ := gd_of h
                  refine zV_iald (n := 220) C0 15 0 rfl rfl hg_59 dX5_findSoonest_219 rfl ?_
                  refine zV_aload_n (n := 221) C0 2 dX5_findSoonest_220 rfl rfl ?_
                  refine zV_get (n := 224) (ref := RX5) C0 hinX5_findSoonest_X5 0 rfl rfl 35 (Nat.le_of_ble_eq_true rfl) mX5_findSoonest_7 rfl rfl dX5_findSoonest_221 rfl ?_
                  refine zV_iload (n := 226) C0 8 dX5_findSoonest_224 rfl rfl ?_
                  obtain ⟨hg_60, h⟩ := gd_of h
                  refine zV_iald (n := 227) C0 16 0 rfl rfl hg_60 dX5_findSoonest_226 rfl ?_
                  obtain ⟨S_62, hc_61, h⟩ := ob_of h
                  refine zV_callVU (n := 230) (st := []) (As := [.ref (ad 15), .int x9_46, .int (S_26.2.2 34 (x10_48).toNatClampNeg), .int (S_26.2.2 35 (x10_48).toNatClampNeg)]) C0 (k_X5_goLeg 15 x9_46 (S_26.2.2 34 (x10_48).toNatClampNeg) (S_26.2.2 35 (x10_48).toNatClampNeg) (by decide) S_26 _ hc_61) gX5_findSoonest_X5_goLeg rfl (hd_X5_goLeg) rfl ⟨rfl, rfl⟩ ⟨Nat.le_of_ble_eq_true rfl, Nat.le_of_ble_eq_true rfl⟩ 0 rfl rfl rfl (Nat.le_of_ble_eq_true rfl) dX5_findSoonest_227 rfl ?_
                  refine zV_sub [2, 3, 4, 5, 0, 1, 6] rfl ?_
                  exact Jk_58 S_62 h
              clear hk_53
              refine zV_if_ne (tgt := 165) (n := 161) C0 dX5_findSoonest_158 rfl rfl (fun hb_64 => ?_) (fun hb_64 => ?_)
              · replace h := if_f hb_64 h
                refine zV_iconst (n := 166) (v := (0 : Int32)) C0 dX5_findSoonest_165 rfl rfl ?_
                refine zV_sub [3, 4, 5, 6, 7, 9, 1, 0] rfl ?_
                exact Jk_53 (0 : Int32) h
              · replace h := if_t hb_64 h
                refine zV_iconst (n := 162) (v := (1 : Int32)) C0 dX5_findSoonest_161 rfl rfl ?_
                refine zV_goto (tgt := 166) C0 dX5_findSoonest_162 rfl ?_
                refine zV_sub [3, 4, 5, 6, 7, 9, 1, 0] rfl ?_
                exact Jk_53 (1 : Int32) h
    clear hk_12
    refine zV_if_ne (tgt := 61) (n := 57) C0 dX5_findSoonest_54 rfl rfl (fun hb_69 => ?_) (fun hb_69 => ?_)
    · replace h := if_f hb_69 h
      refine zV_bipush (n := 63) (v := (-9 : Int32)) C0 dX5_findSoonest_61 rfl rfl ?_
      exact Jk_12 (-9 : Int32) h
    · replace h := if_t hb_69 h
      refine zV_iconst (n := 58) (v := (0 : Int32)) C0 dX5_findSoonest_57 rfl rfl ?_
      refine zV_goto (tgt := 63) C0 dX5_findSoonest_58 rfl ?_
      exact Jk_12 (0 : Int32) h
  clear hk_9
  refine zV_if_ne (tgt := 47) (n := 43) C0 dX5_findSoonest_40 rfl rfl (fun hb_70 => ?_) (fun hb_70 => ?_)
  · replace h := if_f hb_70 h
    refine zV_bipush (n := 49) (v := (-9 : Int32)) C0 dX5_findSoonest_47 rfl rfl ?_
    refine zV_sub [3, 1, 0] rfl ?_
    exact Jk_9 (-9 : Int32) h
  · replace h := if_t hb_70 h
    refine zV_iconst (n := 44) (v := (0 : Int32)) C0 dX5_findSoonest_43 rfl rfl ?_
    refine zV_goto (tgt := 49) C0 dX5_findSoonest_44 rfl ?_
    refine zV_sub [3, 1, 0] rfl ?_
    exact Jk_9 (0 : Int32) h
set_option maxRecDepth 20000 in
theorem mX5_soonest_0 : Cond.fieldLink RX5 63 "LeggedThroughModel" "thrown" "I" ∈ wsX5_soonest := by decide +kernel
set_option maxRecDepth 20000 in
theorem mX5_soonest_1 : Cond.fieldLink RX5 29 "LeggedThroughModel" "page" "[I" ∈ wsX5_soonest := by decide +kernel
set_option maxRecDepth 20000 in
theorem mX5_soonest_2 : Cond.fieldLink RX5 35 "LeggedThroughModel" "base" "[I" ∈ wsX5_soonest := by decide +kernel
set_option maxRecDepth 20000 in
theorem mX5_soonest_3 : Cond.fieldLink RX5 181 "LeggedThroughModel" "soonTime" "I" ∈ wsX5_soonest := by decide +kernel
set_option maxRecDepth 20000 in
theorem mX5_soonest_4 : Cond.fieldLink RX5 184 "LeggedThroughModel" "soonRow" "I" ∈ wsX5_soonest := by decide +kernel
set_option maxRecDepth 20000 in
theorem hinX5_soonest_X5 : ∀ w ∈ u_ws RX5 TX5 37, w ∈ wsX5_soonest := fun w h => List.mem_cons_of_mem _ (List.mem_append_right _ h)
set_option maxRecDepth 20000 in
set_option maxHeartbeats 4000000 in
theorem k_X5_soonest {l : Launch} {D : va_G} {cI cZ : ClassId} {q : Nat} {ad : Nat → Nat} (a1 : Int32)  (S : zS) (r : Int32 × zS) (h : f_X5_soonest a1 S = some r) : zI l yX5_soonest wsX5_soonest (zRm 5 132) D (zty cI cZ) zNw (wM cI cZ q ad) [.ref q, .int a1] S r := by
  refine zI_of (cc := cX5_soonest) (maxL := 2) (ty := .int) (by decide +kernel) rfl (Nat.le_of_ble_eq_true rfl) zNw_ok (fun E hE1 hE2 C0 hR => ?_)
  subst hE1; subst hE2
  replace C0 : zCx E (zRm 5 132) cX5_soonest 2 RX5 wsX5_soonest (zty cI cZ) zNw := C0
  show zV E (wM cI cZ q ad) 2 S 0 [(0, .ref q), (1, .int a1)] []
  delta f_X5_soonest at h
  refine zV_aload_n (n := 1) C0 0 dX5_soonest_0 rfl rfl ?_
  refine zV_iconst (n := 2) (v := (0 : Int32)) C0 dX5_soonest_1 rfl rfl ?_
  refine zV_put (n := 5) (ref := RX5) C0 hinX5_soonest_X5 0 rfl rfl 0 (Nat.le_of_ble_eq_true rfl) mX5_soonest_0 rfl tyX5 tyX5_ok nmX5 rfl (tyX5_ok 0 (Nat.le_of_ble_eq_true rfl)) rfl rfl (Nat.le_of_ble_eq_true rfl) (upd S.1 0 (0 : Int32), S.2) (wM_f0 cI cZ q ad S (0 : Int32)) dX5_soonest_2 rfl ?_
  refine zV_topS (fun S_1 eS_1 => ?_)
  replace h := zlet_of eS_1 h
  clear eS_1
  refine zV_aload_n (n := 6) C0 0 dX5_soonest_5 rfl rfl ?_
  refine zV_get (n := 9) (ref := RX5) C0 hinX5_soonest_X5 0 rfl rfl 14 (Nat.le_of_ble_eq_true rfl) mX5_soonest_1 rfl rfl dX5_soonest_6 rfl ?_
  refine zV_aload_n (n := 10) C0 0 dX5_soonest_9 rfl rfl ?_
  refine zV_get (n := 13) (ref := RX5) C0 hinX5_soonest_X5 0 rfl rfl 16 (Nat.le_of_ble_eq_true rfl) mX5_soonest_2 rfl rfl dX5_soonest_10 rfl ?_
  obtain ⟨S_3, hc_2, h⟩ := ob_of h
  refine zV_callSU (n := 16) (st := []) (As := [.ref (ad 14), .ref (ad 16)]) C0 (k_X5_copy 14 16 (by decide) (by decide) S_1 _ hc_2) gX5_soonest_X5_copy rfl (hd_X5_copy) rfl ⟨rfl, rfl⟩ ⟨Nat.le_of_ble_eq_true rfl, Nat.le_of_ble_eq_true rfl⟩ rfl (Nat.le_of_ble_eq_true rfl) dX5_soonest_13 rfl ?_
  refine zV_aload_n (n := 17) C0 0 dX5_soonest_16 rfl rfl ?_
  obtain ⟨S_5, hc_4, h⟩ := ob_of h
  refine zV_callVU (n := 20) (st := []) (As := []) C0 (k_X5_findSoonest  S_3 _ hc_4) gX5_soonest_X5_findSoonest rfl (hd_X5_findSoonest) rfl ⟨rfl, rfl⟩ ⟨Nat.le_of_ble_eq_true rfl, Nat.le_of_ble_eq_true rfl⟩ 0 rfl rfl rfl (Nat.le_of_ble_eq_true rfl) dX5_soonest_17 rfl ?_
  refine zV_iload_n (n := 21) C0 1 dX5_soonest_20 rfl rfl ?_
  refine zjoin_of h (fun k_7 hk_7 h => ?_)
  have Jk_7 : ∀ (s_6 : Int32), k_7 (s_6) = some r → zV E (wM cI cZ q ad) 2 S_5 35 [] [.int s_6] := by
    intro s_6 h
    replace h := hk_7 _ h
    exact zretI hR h rfl dX5_soonest_35
  clear hk_7
  refine zV_if_eq (tgt := 31) (n := 24) C0 dX5_soonest_21 rfl rfl (fun hb_8 => ?_) (fun hb_8 => ?_)
  · replace h := if_t hb_8 h
    refine zV_aload_n (n := 32) C0 0 dX5_soonest_31 rfl rfl ?_
    refine zV_get (n := 35) (ref := RX5) C0 hinX5_soonest_X5 0 rfl rfl 29 (Nat.le_of_ble_eq_true rfl) mX5_soonest_3 rfl rfl dX5_soonest_32 rfl ?_
    refine zV_sub [] rfl ?_
    exact Jk_7 (S_5.1 29) h
  · replace h := if_f hb_8 h
    refine zV_aload_n (n := 25) C0 0 dX5_soonest_24 rfl rfl ?_
    refine zV_get (n := 28) (ref := RX5) C0 hinX5_soonest_X5 0 rfl rfl 30 (Nat.le_of_ble_eq_true rfl) mX5_soonest_4 rfl rfl dX5_soonest_25 rfl ?_
    refine zV_goto (tgt := 35) C0 dX5_soonest_28 rfl ?_
    refine zV_sub [] rfl ?_
    exact Jk_7 (S_5.1 30) h
set_option maxRecDepth 20000 in
theorem mX5_judge_0 : Cond.fieldLink RX5 63 "LeggedThroughModel" "thrown" "I" ∈ wsX5_judge := by decide +kernel
set_option maxRecDepth 20000 in
theorem mX5_judge_1 : Cond.constantLong RX5 128 (3 : Int64) ∈ wsX5_judge := by decide +kernel
set_option maxRecDepth 20000 in
theorem mX5_judge_2 : Cond.fieldLink RX5 29 "LeggedThroughModel" "page" "[I" ∈ wsX5_judge := by decide +kernel
set_option maxRecDepth 20000 in
theorem hinX5_judge_X5 : ∀ w ∈ u_ws RX5 TX5 37, w ∈ wsX5_judge := fun w h => List.mem_cons_of_mem _ (List.mem_append_right _ h)
set_option maxRecDepth 20000 in
set_option maxHeartbeats 4000000 in
theorem k_X5_judge {l : Launch} {D : va_G} {cI cZ : ClassId} {q : Nat} {ad : Nat → Nat} (a1 : Int32) (a2 : Int32)  (S : zS) (r : Int32 × zS) (h : f_X5_judge a1 a2 S = some r) : zI l yX5_judge wsX5_judge (zRm 3 69) D (zty cI cZ) zNw (wM cI cZ q ad) [.ref q, .int a1, .int a2] S r := by
  refine zI_of (cc := cX5_judge) (maxL := 7) (ty := .int) (by decide +kernel) rfl (Nat.le_of_ble_eq_true rfl) zNw_ok (fun E hE1 hE2 C0 hR => ?_)
  subst hE1; subst hE2
  replace C0 : zCx E (zRm 3 69) cX5_judge 7 RX5 wsX5_judge (zty cI cZ) zNw := C0
  show zV E (wM cI cZ q ad) 7 S 0 [(0, .ref q), (1, .int a1), (2, .int a2)] []
  delta f_X5_judge at h
  refine zV_aload_n (n := 1) C0 0 dX5_judge_0 rfl rfl ?_
  refine zV_iconst (n := 2) (v := (0 : Int32)) C0 dX5_judge_1 rfl rfl ?_
  refine zV_put (n := 5) (ref := RX5) C0 hinX5_judge_X5 0 rfl rfl 0 (Nat.le_of_ble_eq_true rfl) mX5_judge_0 rfl tyX5 tyX5_ok nmX5 rfl (tyX5_ok 0 (Nat.le_of_ble_eq_true rfl)) rfl rfl (Nat.le_of_ble_eq_true rfl) (upd S.1 0 (0 : Int32), S.2) (wM_f0 cI cZ q ad S (0 : Int32)) dX5_judge_2 rfl ?_
  refine zV_topS (fun S_1 eS_1 => ?_)
  replace h := zlet_of eS_1 h
  clear eS_1
  refine zV_iload_n (n := 6) C0 1 dX5_judge_5 rfl rfl ?_
  refine zV_i2l (n := 7) C0 dX5_judge_6  rfl ?_
  refine zV_lconst (n := 8) (v := (1 : Int64)) C0 dX5_judge_7 rfl rfl ?_
  refine zV_ldc2 (n := 11) (v := (3 : Int64)) C0 dX5_judge_8 mX5_judge_1 rfl ?_
  obtain ⟨r_3, hc_2, h⟩ := ob_of h
  refine zV_callS0 (n := 14) (st := []) (As := [.long a1.toInt64, .long (1 : Int64), .long (3 : Int64)]) C0 (k_X5_in a1.toInt64 (1 : Int64) (3 : Int64) _ hc_2) gX5_judge_X5_in rfl (hd_X5_in) rfl ⟨rfl, rfl⟩ ⟨Nat.le_of_ble_eq_true rfl, Nat.le_of_ble_eq_true rfl⟩ rfl (Nat.le_of_ble_eq_true rfl) dX5_judge_11 rfl ?_
  refine zjoin_of h (fun k_4 hk_4 h => ?_)
  have Jk_4 : k_4 () = some r → zV E (wM cI cZ q ad) 7 S_1 36 [] [] := by
    intro  h
    replace h := hk_4 _ h
    refine zV_bipush (n := 38) (v := (-2 : Int32)) C0 dX5_judge_36 rfl rfl ?_
    exact zretI hR h rfl dX5_judge_38
  clear hk_4
  refine zV_if_eq (tgt := 36) (n := 17) C0 dX5_judge_14 rfl rfl (fun hb_29 => ?_) (fun hb_29 => ?_)
  · replace h := if_t hb_29 h
    refine zV_sub [] rfl ?_
    exact Jk_4  h
  · replace h := if_f hb_29 h
    refine zV_iload_n (n := 18) C0 2 dX5_judge_17 rfl rfl ?_
    refine zV_i2l (n := 19) C0 dX5_judge_18  rfl ?_
    refine zV_lconst (n := 20) (v := (0 : Int64)) C0 dX5_judge_19 rfl rfl ?_
    refine zV_sipush (n := 23) (v := (1000 : Int32)) C0 dX5_judge_20 rfl rfl ?_
    refine zV_iload_n (n := 24) C0 1 dX5_judge_23 rfl rfl ?_
    obtain ⟨r_6, hc_5, h⟩ := ob_of h
    refine zV_callS0 (n := 27) (st := [.long (0 : Int64), .long a2.toInt64]) (As := [.int (1000 : Int32), .int a1]) C0 (k_X5_power (1000 : Int32) a1 _ hc_5) gX5_judge_X5_power rfl (hd_X5_power) rfl ⟨rfl, rfl⟩ ⟨Nat.le_of_ble_eq_true rfl, Nat.le_of_ble_eq_true rfl⟩ rfl (Nat.le_of_ble_eq_true rfl) dX5_judge_24 rfl ?_
    refine zV_iconst (n := 28) (v := (1 : Int32)) C0 dX5_judge_27 rfl rfl ?_
    refine zV_isub (n := 29) C0 dX5_judge_28  rfl ?_
    refine zV_i2l (n := 30) C0 dX5_judge_29  rfl ?_
    obtain ⟨r_8, hc_7, h⟩ := ob_of h
    refine zV_callS0 (n := 33) (st := []) (As := [.long a2.toInt64, .long (0 : Int64), .long ((r_6 - (1 : Int32))).toInt64]) C0 (k_X5_in a2.toInt64 (0 : Int64) ((r_6 - (1 : Int32))).toInt64 _ hc_7) gX5_judge_X5_in rfl (hd_X5_in) rfl ⟨rfl, rfl⟩ ⟨Nat.le_of_ble_eq_true rfl, Nat.le_of_ble_eq_true rfl⟩ rfl (Nat.le_of_ble_eq_true rfl) dX5_judge_30 rfl ?_
    refine zV_if_ne (tgt := 39) (n := 36) C0 dX5_judge_33 rfl rfl (fun hb_28 => ?_) (fun hb_28 => ?_)
    · replace h := if_f hb_28 h
      refine zV_aload_n (n := 40) C0 0 dX5_judge_39 rfl rfl ?_
      refine zV_get (n := 43) (ref := RX5) C0 hinX5_judge_X5 0 rfl rfl 14 (Nat.le_of_ble_eq_true rfl) mX5_judge_2 rfl rfl dX5_judge_40 rfl ?_
      refine zV_bipush (n := 45) (v := (20 : Int32)) C0 dX5_judge_43 rfl rfl ?_
      obtain ⟨hg_9, h⟩ := gd_of h
      refine zV_iald (n := 46) C0 6 0 rfl rfl hg_9 dX5_judge_45 rfl ?_
      refine zV_topi (fun x3_10 ex3_10 => ?_)
      replace h := zlet_of ex3_10 h
      clear ex3_10
      refine zV_istore_n (n := 47) C0 [(3, .int x3_10), (0, .ref q), (1, .int a1), (2, .int a2)] dX5_judge_46 rfl rfl (Nat.le_of_ble_eq_true rfl) rfl ?_
      refine zV_iconst (n := 48) (v := (0 : Int32)) C0 dX5_judge_47 rfl rfl ?_
      refine zV_istore (n := 50) C0 [(4, .int (0 : Int32)), (3, .int x3_10), (0, .ref q), (1, .int a1), (2, .int a2)] dX5_judge_48 rfl (Nat.le_of_ble_eq_true rfl) rfl ?_
      refine zV_sub [2, 3, 4, 1, 0] rfl ?_
      refine zfix_ind (fun e => zV E (wM cI cZ q ad) 7 S_1 50 [(0, .ref q), (1, .int a1), (2, .int a2), (3, .int e.1), (4, .int e.2)] []) (fun rec_13 hrec_13 e h => ?_) zN (x3_10, (0 : Int32)) h
      obtain ⟨x3_11, x4_12⟩ := e
      have Jrec_13 : ∀ (x3_11 : Int32) (x4_12 : Int32), rec_13 (x3_11, x4_12) = some r → zV E (wM cI cZ q ad) 7 S_1 50 [(0, .ref q), (1, .int a1), (2, .int a2), (3, .int x3_11), (4, .int x4_12)] [] := fun x3_11 x4_12 h => hrec_13 _ h
      clear hrec_13
      dsimp only [F_X5_judge_50] at h
      show zV E (wM cI cZ q ad) 7 S_1 50 [(0, .ref q), (1, .int a1), (2, .int a2), (3, .int x3_11), (4, .int x4_12)] []
      refine zV_iload (n := 52) C0 4 dX5_judge_50 rfl rfl ?_
      refine zV_iload_n (n := 53) C0 1 dX5_judge_52 rfl rfl ?_
      refine zV_icmp_ge (tgt := 130) (n := 56) C0 dX5_judge_53 rfl rfl (fun hb_27 => ?_) (fun hb_27 => ?_)
      · replace h := if_t hb_27 h
        refine zV_bipush (n := 132) (v := (-9 : Int32)) C0 dX5_judge_130 rfl rfl ?_
        exact zretI hR h rfl dX5_judge_132
      · replace h := if_f hb_27 h
        refine zV_iload_n (n := 57) C0 2 dX5_judge_56 rfl rfl ?_
        refine zV_sipush (n := 60) (v := (1000 : Int32)) C0 dX5_judge_57 rfl rfl ?_
        refine zV_iload_n (n := 61) C0 1 dX5_judge_60 rfl rfl ?_
        refine zV_iconst (n := 62) (v := (1 : Int32)) C0 dX5_judge_61 rfl rfl ?_
        refine zV_isub (n := 63) C0 dX5_judge_62  rfl ?_
        refine zV_iload (n := 65) C0 4 dX5_judge_63 rfl rfl ?_
        refine zV_isub (n := 66) C0 dX5_judge_65  rfl ?_
        obtain ⟨r_15, hc_14, h⟩ := ob_of h
        refine zV_callS0 (n := 69) (st := [.int a2]) (As := [.int (1000 : Int32), .int ((a1 - (1 : Int32)) - x4_12)]) C0 (k_X5_power (1000 : Int32) ((a1 - (1 : Int32)) - x4_12) _ hc_14) gX5_judge_X5_power rfl (hd_X5_power) rfl ⟨rfl, rfl⟩ ⟨Nat.le_of_ble_eq_true rfl, Nat.le_of_ble_eq_true rfl⟩ rfl (Nat.le_of_ble_eq_true rfl) dX5_judge_66 rfl ?_
        obtain ⟨hg_16, h⟩ := gd_of h
        refine zV_idiv (n := 70) C0 dX5_judge_69 hg_16 rfl ?_
        refine zV_sipush (n := 73) (v := (1000 : Int32)) C0 dX5_judge_70 rfl rfl ?_
        refine zV_irem (n := 74) C0 dX5_judge_73 (by decide) rfl ?_
        refine zV_topi (fun x5_17 ex5_17 => ?_)
        replace h := zlet_of ex5_17 h
        clear ex5_17
        refine zV_istore (n := 76) C0 [(5, .int x5_17), (0, .ref q), (1, .int a1), (2, .int a2), (3, .int x3_11), (4, .int x4_12)] dX5_judge_74 rfl (Nat.le_of_ble_eq_true rfl) rfl ?_
        refine zV_iload (n := 78) C0 0 dX5_judge_76 rfl rfl ?_
        refine zV_bipush (n := 80) (v := (100 : Int32)) C0 dX5_judge_78 rfl rfl ?_
        refine zV_idiv (n := 81) C0 dX5_judge_80 (by decide) rfl ?_
        refine zV_topi (fun x6_18 ex6_18 => ?_)
        replace h := zlet_of ex6_18 h
        clear ex6_18
        refine zV_istore (n := 83) C0 [(6, .int x6_18), (5, .int x5_17), (0, .ref q), (1, .int a1), (2, .int a2), (3, .int x3_11), (4, .int x4_12)] dX5_judge_81 rfl (Nat.le_of_ble_eq_true rfl) rfl ?_
        refine zV_aload_n (n := 84) C0 2 dX5_judge_83 rfl rfl ?_
        refine zV_iload (n := 86) C0 0 dX5_judge_84 rfl rfl ?_
        refine zV_iload (n := 88) C0 1 dX5_judge_86 rfl rfl ?_
        refine zV_bipush (n := 90) (v := (10 : Int32)) C0 dX5_judge_88 rfl rfl ?_
        refine zV_idiv (n := 91) C0 dX5_judge_90 (by decide) rfl ?_
        refine zV_bipush (n := 93) (v := (10 : Int32)) C0 dX5_judge_91 rfl rfl ?_
        refine zV_irem (n := 94) C0 dX5_judge_93 (by decide) rfl ?_
        refine zV_iload (n := 96) C0 1 dX5_judge_94 rfl rfl ?_
        refine zV_bipush (n := 98) (v := (10 : Int32)) C0 dX5_judge_96 rfl rfl ?_
        refine zV_irem (n := 99) C0 dX5_judge_98 (by decide) rfl ?_
        obtain ⟨r_20, hc_19, h⟩ := ob_of h
        refine zV_callVI (n := 102) (st := []) (As := [.int x6_18, .int (zrem (x5_17 / (10 : Int32)) (10 : Int32)), .int (zrem x5_17 (10 : Int32))]) C0 (k_X5_noPair x6_18 (zrem (x5_17 / (10 : Int32)) (10 : Int32)) (zrem x5_17 (10 : Int32)) S_1 _ hc_19) gX5_judge_X5_noPair rfl (hd_X5_noPair) rfl ⟨rfl, rfl⟩ ⟨Nat.le_of_ble_eq_true rfl, Nat.le_of_ble_eq_true rfl⟩ 0 rfl rfl rfl (Nat.le_of_ble_eq_true rfl) dX5_judge_99 rfl ?_
        refine zjoin_of h (fun k_21 hk_21 h => ?_)
        have Jk_21 : k_21 () = some r → zV E (wM cI cZ q ad) 7 S_1 114 [(4, .int x4_12)] [] := by
          intro  h
          replace h := hk_21 _ h
          refine zV_iload (n := 116) C0 0 dX5_judge_114 rfl rfl ?_
          exact zretI hR h rfl dX5_judge_116
        clear hk_21
        refine zV_if_ne (tgt := 114) (n := 105) C0 dX5_judge_102 rfl rfl (fun hb_26 => ?_) (fun hb_26 => ?_)
        · replace h := if_f hb_26 h
          refine zV_sub [6] rfl ?_
          exact Jk_21  h
        · replace h := if_t hb_26 h
          refine zV_iload_n (n := 106) C0 5 dX5_judge_105 rfl rfl ?_
          refine zV_iload (n := 108) C0 0 dX5_judge_106 rfl rfl ?_
          obtain ⟨r_23, hc_22, h⟩ := ob_of h
          refine zV_callS0 (n := 111) (st := []) (As := [.int x3_11, .int x6_18]) C0 (k_X5_has x3_11 x6_18 _ hc_22) gX5_judge_X5_has rfl (hd_X5_has) rfl ⟨rfl, rfl⟩ ⟨Nat.le_of_ble_eq_true rfl, Nat.le_of_ble_eq_true rfl⟩ rfl (Nat.le_of_ble_eq_true rfl) dX5_judge_108 rfl ?_
          refine zV_if_eq (tgt := 117) (n := 114) C0 dX5_judge_111 rfl rfl (fun hb_25 => ?_) (fun hb_25 => ?_)
          · replace h := if_t hb_25 h
            refine zV_iload_n (n := 118) C0 5 dX5_judge_117 rfl rfl ?_
            refine zV_iconst (n := 119) (v := (1 : Int32)) C0 dX5_judge_118 rfl rfl ?_
            refine zV_iload (n := 121) C0 0 dX5_judge_119 rfl rfl ?_
            refine zV_ishl (n := 122) C0 dX5_judge_121  rfl ?_
            refine zV_ior (n := 123) C0 dX5_judge_122  rfl ?_
            refine zV_topi (fun x3_24 ex3_24 => ?_)
            replace h := zlet_of ex3_24 h
            clear ex3_24
            refine zV_istore_n (n := 124) C0 [(3, .int x3_24), (6, .int x6_18), (5, .int x5_17), (0, .ref q), (1, .int a1), (2, .int a2), (4, .int x4_12)] dX5_judge_123 rfl rfl (Nat.le_of_ble_eq_true rfl) rfl ?_
            refine zV_iinc (n := 127) C0 6 (v := (x4_12 + (1 : Int32))) [(4, .int (x4_12 + (1 : Int32))), (3, .int x3_24), (6, .int x6_18), (5, .int x5_17), (0, .ref q), (1, .int a1), (2, .int a2)] dX5_judge_124 rfl rfl rfl (Nat.le_of_ble_eq_true rfl) rfl ?_
            refine zV_goto (tgt := 50) C0 dX5_judge_127 rfl ?_
            refine zV_sub [4, 5, 6, 1, 0] rfl ?_
            exact Jrec_13 x3_24 (x4_12 + (1 : Int32)) h
          · replace h := if_f hb_25 h
            refine zV_sub [6] rfl ?_
            exact Jk_21  h
    · replace h := if_t hb_28 h
      refine zV_sub [] rfl ?_
      exact Jk_4  h
set_option maxRecDepth 20000 in
theorem mX5_share_0 : Cond.fieldLink RX5 63 "LeggedThroughModel" "thrown" "I" ∈ wsX5_share := by decide +kernel
set_option maxRecDepth 20000 in
theorem mX5_share_1 : Cond.fieldLink RX5 66 "LeggedThroughModel" "leggers" "I" ∈ wsX5_share := by decide +kernel
set_option maxRecDepth 20000 in
theorem mX5_share_2 : Cond.fieldLink RX5 54 "LeggedThroughModel" "value" "[I" ∈ wsX5_share := by decide +kernel
set_option maxRecDepth 20000 in
theorem mX5_share_3 : Cond.fieldLink RX5 152 "LeggedThroughModel" "bestPair" "I" ∈ wsX5_share := by decide +kernel
set_option maxRecDepth 20000 in
theorem mX5_share_4 : Cond.fieldLink RX5 155 "LeggedThroughModel" "bestTime" "I" ∈ wsX5_share := by decide +kernel
set_option maxRecDepth 20000 in
theorem hinX5_share_X5 : ∀ w ∈ u_ws RX5 TX5 37, w ∈ wsX5_share := fun w h => List.mem_cons_of_mem _ (List.mem_append_right _ h)
set_option maxRecDepth 20000 in
set_option maxHeartbeats 4000000 in
theorem k_X5_share {l : Launch} {D : va_G} {cI cZ : ClassId} {q : Nat} {ad : Nat → Nat} (a1 : Int32) (a2 : Int32) (a3 : Int32)  (S : zS) (r : Int32 × zS) (h : f_X5_share a1 a2 a3 S = some r) : zI l yX5_share wsX5_share (zRm 4 103) D (zty cI cZ) zNw (wM cI cZ q ad) [.ref q, .int a1, .int a2, .int a3] S r := by
  refine zI_of (cc := cX5_share) (maxL := 7) (ty := .int) (by decide +kernel) rfl (Nat.le_of_ble_eq_true rfl) zNw_ok (fun E hE1 hE2 C0 hR => ?_)
  subst hE1; subst hE2
  replace C0 : zCx E (zRm 4 103) cX5_share 7 RX5 wsX5_share (zty cI cZ) zNw := C0
  show zV E (wM cI cZ q ad) 7 S 0 [(0, .ref q), (1, .int a1), (2, .int a2), (3, .int a3)] []
  delta f_X5_share at h
  refine zV_aload_n (n := 1) C0 0 dX5_share_0 rfl rfl ?_
  refine zV_iconst (n := 2) (v := (0 : Int32)) C0 dX5_share_1 rfl rfl ?_
  refine zV_put (n := 5) (ref := RX5) C0 hinX5_share_X5 0 rfl rfl 0 (Nat.le_of_ble_eq_true rfl) mX5_share_0 rfl tyX5 tyX5_ok nmX5 rfl (tyX5_ok 0 (Nat.le_of_ble_eq_true rfl)) rfl rfl (Nat.le_of_ble_eq_true rfl) (upd S.1 0 (0 : Int32), S.2) (wM_f0 cI cZ q ad S (0 : Int32)) dX5_share_2 rfl ?_
  refine zV_topS (fun S_1 eS_1 => ?_)
  replace h := zlet_of eS_1 h
  clear eS_1
  refine zV_aload_n (n := 6) C0 0 dX5_share_5 rfl rfl ?_
  refine zV_iload_n (n := 7) C0 1 dX5_share_6 rfl rfl ?_
  obtain ⟨r_3, hc_2, h⟩ := ob_of h
  refine zV_callVI (n := 10) (st := []) (As := [.int a1]) C0 (k_X5_noLegger a1 S_1 _ hc_2) gX5_share_X5_noLegger rfl (hd_X5_noLegger) rfl ⟨rfl, rfl⟩ ⟨Nat.le_of_ble_eq_true rfl, Nat.le_of_ble_eq_true rfl⟩ 0 rfl rfl rfl (Nat.le_of_ble_eq_true rfl) dX5_share_7 rfl ?_
  refine zjoin_of h (fun k_4 hk_4 h => ?_)
  have Jk_4 : k_4 () = some r → zV E (wM cI cZ q ad) 7 S_1 21 [] [] := by
    intro  h
    replace h := hk_4 _ h
    refine zV_iconst (n := 22) (v := (-1 : Int32)) C0 dX5_share_21 rfl rfl ?_
    exact zretI hR h rfl dX5_share_22
  clear hk_4
  refine zV_if_ne (tgt := 21) (n := 13) C0 dX5_share_10 rfl rfl (fun hb_41 => ?_) (fun hb_41 => ?_)
  · replace h := if_f hb_41 h
    refine zV_sub [] rfl ?_
    exact Jk_4  h
  · replace h := if_t hb_41 h
    refine zV_aload_n (n := 14) C0 0 dX5_share_13 rfl rfl ?_
    refine zV_iload_n (n := 15) C0 2 dX5_share_14 rfl rfl ?_
    obtain ⟨r_6, hc_5, h⟩ := ob_of h
    refine zV_callVI (n := 18) (st := []) (As := [.int a2]) C0 (k_X5_noBoat a2 S_1 _ hc_5) gX5_share_X5_noBoat rfl (hd_X5_noBoat) rfl ⟨rfl, rfl⟩ ⟨Nat.le_of_ble_eq_true rfl, Nat.le_of_ble_eq_true rfl⟩ 0 rfl rfl rfl (Nat.le_of_ble_eq_true rfl) dX5_share_15 rfl ?_
    refine zV_if_eq (tgt := 23) (n := 21) C0 dX5_share_18 rfl rfl (fun hb_40 => ?_) (fun hb_40 => ?_)
    · replace h := if_t hb_40 h
      refine zV_iconst (n := 24) (v := (0 : Int32)) C0 dX5_share_23 rfl rfl ?_
      refine zV_istore (n := 26) C0 [(4, .int (0 : Int32)), (0, .ref q), (1, .int a1), (2, .int a2), (3, .int a3)] dX5_share_24 rfl (Nat.le_of_ble_eq_true rfl) rfl ?_
      refine zV_sub [1, 2, 3, 4, 0] rfl ?_
      refine zfix_ind (fun e => zV E (wM cI cZ q ad) 7 e.2 26 [(0, .ref q), (1, .int a1), (2, .int a2), (3, .int a3), (4, .int e.1)] []) (fun rec_9 hrec_9 e h => ?_) zN ((0 : Int32), S_1) h
      obtain ⟨x4_7, S_8⟩ := e
      have Jrec_9 : ∀ (x4_7 : Int32) (S_8 : zS), rec_9 (x4_7, S_8) = some r → zV E (wM cI cZ q ad) 7 S_8 26 [(0, .ref q), (1, .int a1), (2, .int a2), (3, .int a3), (4, .int x4_7)] [] := fun x4_7 S_8 h => hrec_9 _ h
      clear hrec_9
      dsimp only [F_X5_share_26] at h
      show zV E (wM cI cZ q ad) 7 S_8 26 [(0, .ref q), (1, .int a1), (2, .int a2), (3, .int a3), (4, .int x4_7)] []
      refine zV_iload (n := 28) C0 4 dX5_share_26 rfl rfl ?_
      refine zV_iconst (n := 29) (v := (1 : Int32)) C0 dX5_share_28 rfl rfl ?_
      refine zV_aload_n (n := 30) C0 0 dX5_share_29 rfl rfl ?_
      refine zV_get (n := 33) (ref := RX5) C0 hinX5_share_X5 0 rfl rfl 5 (Nat.le_of_ble_eq_true rfl) mX5_share_1 rfl rfl dX5_share_30 rfl ?_
      refine zV_ishl (n := 34) C0 dX5_share_33  rfl ?_
      refine zV_icmp_ge (tgt := 78) (n := 37) C0 dX5_share_34 rfl rfl (fun hb_39 => ?_) (fun hb_39 => ?_)
      · replace h := if_t hb_39 h
        refine zV_iconst (n := 79) (v := (0 : Int32)) C0 dX5_share_78 rfl rfl ?_
        refine zV_istore (n := 81) C0 [(4, .int (0 : Int32)), (0, .ref q), (1, .int a1), (2, .int a2), (3, .int a3)] dX5_share_79 rfl (Nat.le_of_ble_eq_true rfl) rfl ?_
        refine zV_iconst (n := 82) (v := (0 : Int32)) C0 dX5_share_81 rfl rfl ?_
        refine zV_istore (n := 84) C0 [(5, .int (0 : Int32)), (4, .int (0 : Int32)), (0, .ref q), (1, .int a1), (2, .int a2), (3, .int a3)] dX5_share_82 rfl (Nat.le_of_ble_eq_true rfl) rfl ?_
        refine zV_sub [2, 3, 5, 1, 0] rfl ?_
        refine zfix_ind (fun e => zV E (wM cI cZ q ad) 7 S_8 84 [(0, .ref q), (1, .int a1), (3, .int a3), (4, .int e.1), (5, .int e.2)] []) (fun rec_12 hrec_12 e h => ?_) zN ((0 : Int32), (0 : Int32)) h
        obtain ⟨x4_10, x5_11⟩ := e
        have Jrec_12 : ∀ (x4_10 : Int32) (x5_11 : Int32), rec_12 (x4_10, x5_11) = some r → zV E (wM cI cZ q ad) 7 S_8 84 [(0, .ref q), (1, .int a1), (3, .int a3), (4, .int x4_10), (5, .int x5_11)] [] := fun x4_10 x5_11 h => hrec_12 _ h
        clear hrec_12
        dsimp only [F_X5_share_84] at h
        show zV E (wM cI cZ q ad) 7 S_8 84 [(0, .ref q), (1, .int a1), (3, .int a3), (4, .int x4_10), (5, .int x5_11)] []
        refine zV_iload (n := 86) C0 4 dX5_share_84 rfl rfl ?_
        refine zV_iconst (n := 87) (v := (1 : Int32)) C0 dX5_share_86 rfl rfl ?_
        refine zV_aload_n (n := 88) C0 0 dX5_share_87 rfl rfl ?_
        refine zV_get (n := 91) (ref := RX5) C0 hinX5_share_X5 0 rfl rfl 5 (Nat.le_of_ble_eq_true rfl) mX5_share_1 rfl rfl dX5_share_88 rfl ?_
        refine zV_ishl (n := 92) C0 dX5_share_91  rfl ?_
        refine zV_icmp_ge (tgt := 160) (n := 95) C0 dX5_share_92 rfl rfl (fun hb_31 => ?_) (fun hb_31 => ?_)
        · replace h := if_t hb_31 h
          refine zV_iload (n := 162) C0 3 dX5_share_160 rfl rfl ?_
          refine zV_aload_n (n := 163) C0 0 dX5_share_162 rfl rfl ?_
          refine zV_get (n := 166) (ref := RX5) C0 hinX5_share_X5 0 rfl rfl 5 (Nat.le_of_ble_eq_true rfl) mX5_share_1 rfl rfl dX5_share_163 rfl ?_
          obtain ⟨r_14, hc_13, h⟩ := ob_of h
          refine zV_callS0 (n := 169) (st := [.int x4_10]) (As := [.int (S_8.1 5)]) C0 (k_X5_ways (S_8.1 5) _ hc_13) gX5_share_X5_ways rfl (hd_X5_ways) rfl ⟨rfl, rfl⟩ ⟨Nat.le_of_ble_eq_true rfl, Nat.le_of_ble_eq_true rfl⟩ rfl (Nat.le_of_ble_eq_true rfl) dX5_share_166 rfl ?_
          refine zV_iload_n (n := 170) C0 2 dX5_share_169 rfl rfl ?_
          obtain ⟨r_16, hc_15, h⟩ := ob_of h
          refine zV_callS0 (n := 173) (st := []) (As := [.int x4_10, .int r_14, .int a3]) C0 (k_X5_fraction x4_10 r_14 a3 _ hc_15) gX5_share_X5_fraction rfl (hd_X5_fraction) rfl ⟨rfl, rfl⟩ ⟨Nat.le_of_ble_eq_true rfl, Nat.le_of_ble_eq_true rfl⟩ rfl (Nat.le_of_ble_eq_true rfl) dX5_share_170 rfl ?_
          exact zretI hR h rfl dX5_share_173
        · replace h := if_f hb_31 h
          refine zV_iload (n := 97) C0 4 dX5_share_95 rfl rfl ?_
          refine zV_iload_n (n := 98) C0 1 dX5_share_97 rfl rfl ?_
          obtain ⟨r_18, hc_17, h⟩ := ob_of h
          refine zV_callS0 (n := 101) (st := []) (As := [.int x5_11, .int a1]) C0 (k_X5_has x5_11 a1 _ hc_17) gX5_share_X5_has rfl (hd_X5_has) rfl ⟨rfl, rfl⟩ ⟨Nat.le_of_ble_eq_true rfl, Nat.le_of_ble_eq_true rfl⟩ rfl (Nat.le_of_ble_eq_true rfl) dX5_share_98 rfl ?_
          refine zjoin_of h (fun k_20 hk_20 h => ?_)
          have Jk_20 : ∀ (x4_19 : Int32), k_20 (x4_19) = some r → zV E (wM cI cZ q ad) 7 S_8 154 [(0, .ref q), (1, .int a1), (3, .int a3), (4, .int x4_19), (5, .int x5_11)] [] := by
            intro x4_19 h
            replace h := hk_20 _ h
            refine zV_iinc (n := 157) C0 4 (v := (x5_11 + (1 : Int32))) [(5, .int (x5_11 + (1 : Int32))), (0, .ref q), (1, .int a1), (3, .int a3), (4, .int x4_19)] dX5_share_154 rfl rfl rfl (Nat.le_of_ble_eq_true rfl) rfl ?_
            refine zV_goto (tgt := 84) C0 dX5_share_157 rfl ?_
            refine zV_sub [1, 2, 3, 4, 0] rfl ?_
            exact Jrec_12 x4_19 (x5_11 + (1 : Int32)) h
          clear hk_20
          refine zV_if_ne (tgt := 154) (n := 104) C0 dX5_share_101 rfl rfl (fun hb_30 => ?_) (fun hb_30 => ?_)
          · replace h := if_f hb_30 h
            exact Jk_20 x4_10 h
          · replace h := if_t hb_30 h
            refine zV_iload (n := 106) C0 4 dX5_share_104 rfl rfl ?_
            obtain ⟨r_22, hc_21, h⟩ := ob_of h
            refine zV_callS0 (n := 109) (st := []) (As := [.int x5_11]) C0 (k_X5_many x5_11 _ hc_21) gX5_share_X5_many rfl (hd_X5_many) rfl ⟨rfl, rfl⟩ ⟨Nat.le_of_ble_eq_true rfl, Nat.le_of_ble_eq_true rfl⟩ rfl (Nat.le_of_ble_eq_true rfl) dX5_share_106 rfl ?_
            refine zV_istore (n := 111) C0 [(6, .int r_22), (0, .ref q), (1, .int a1), (3, .int a3), (4, .int x4_10), (5, .int x5_11)] dX5_share_109 rfl (Nat.le_of_ble_eq_true rfl) rfl ?_
            refine zV_iload (n := 113) C0 4 dX5_share_111 rfl rfl ?_
            refine zV_iload (n := 115) C0 0 dX5_share_113 rfl rfl ?_
            obtain ⟨r_24, hc_23, h⟩ := ob_of h
            refine zV_callS0 (n := 118) (st := [.int x4_10]) (As := [.int r_22]) C0 (k_X5_ways r_22 _ hc_23) gX5_share_X5_ways rfl (hd_X5_ways) rfl ⟨rfl, rfl⟩ ⟨Nat.le_of_ble_eq_true rfl, Nat.le_of_ble_eq_true rfl⟩ rfl (Nat.le_of_ble_eq_true rfl) dX5_share_115 rfl ?_
            refine zV_aload_n (n := 119) C0 1 dX5_share_118 rfl rfl ?_
            refine zV_get (n := 122) (ref := RX5) C0 hinX5_share_X5 0 rfl rfl 5 (Nat.le_of_ble_eq_true rfl) mX5_share_1 rfl rfl dX5_share_119 rfl ?_
            refine zV_iconst (n := 123) (v := (1 : Int32)) C0 dX5_share_122 rfl rfl ?_
            refine zV_isub (n := 124) C0 dX5_share_123  rfl ?_
            refine zV_iload (n := 126) C0 0 dX5_share_124 rfl rfl ?_
            refine zV_isub (n := 127) C0 dX5_share_126  rfl ?_
            obtain ⟨r_26, hc_25, h⟩ := ob_of h
            refine zV_callS0 (n := 130) (st := [.int r_24, .int x4_10]) (As := [.int (((S_8.1 5) - (1 : Int32)) - r_22)]) C0 (k_X5_ways (((S_8.1 5) - (1 : Int32)) - r_22) _ hc_25) gX5_share_X5_ways rfl (hd_X5_ways) rfl ⟨rfl, rfl⟩ ⟨Nat.le_of_ble_eq_true rfl, Nat.le_of_ble_eq_true rfl⟩ rfl (Nat.le_of_ble_eq_true rfl) dX5_share_127 rfl ?_
            refine zV_imul (n := 131) C0 dX5_share_130  rfl ?_
            refine zV_aload_n (n := 132) C0 1 dX5_share_131 rfl rfl ?_
            refine zV_get (n := 135) (ref := RX5) C0 hinX5_share_X5 0 rfl rfl 33 (Nat.le_of_ble_eq_true rfl) mX5_share_2 rfl rfl dX5_share_132 rfl ?_
            refine zV_iload (n := 137) C0 5 dX5_share_135 rfl rfl ?_
            refine zV_iconst (n := 138) (v := (1 : Int32)) C0 dX5_share_137 rfl rfl ?_
            refine zV_iload_n (n := 139) C0 2 dX5_share_138 rfl rfl ?_
            refine zV_ishl (n := 140) C0 dX5_share_139  rfl ?_
            refine zV_ior (n := 141) C0 dX5_share_140  rfl ?_
            obtain ⟨hg_27, h⟩ := gd_of h
            refine zV_iald (n := 142) C0 14 0 rfl rfl hg_27 dX5_share_141 rfl ?_
            refine zV_aload_n (n := 143) C0 1 dX5_share_142 rfl rfl ?_
            refine zV_get (n := 146) (ref := RX5) C0 hinX5_share_X5 0 rfl rfl 33 (Nat.le_of_ble_eq_true rfl) mX5_share_2 rfl rfl dX5_share_143 rfl ?_
            refine zV_iload (n := 148) C0 5 dX5_share_146 rfl rfl ?_
            obtain ⟨hg_28, h⟩ := gd_of h
            refine zV_iald (n := 149) C0 14 0 rfl rfl hg_28 dX5_share_148 rfl ?_
            refine zV_isub (n := 150) C0 dX5_share_149  rfl ?_
            refine zV_imul (n := 151) C0 dX5_share_150  rfl ?_
            refine zV_iadd (n := 152) C0 dX5_share_151  rfl ?_
            refine zV_topi (fun x4_29 ex4_29 => ?_)
            replace h := zlet_of ex4_29 h
            clear ex4_29
            refine zV_istore (n := 154) C0 [(4, .int x4_29), (6, .int r_22), (0, .ref q), (1, .int a1), (3, .int a3), (5, .int x5_11)] dX5_share_152 rfl (Nat.le_of_ble_eq_true rfl) rfl ?_
            refine zV_sub [2, 3, 4, 0, 5] rfl ?_
            exact Jk_20 x4_29 h
      · replace h := if_f hb_39 h
        refine zV_aload_n (n := 38) C0 0 dX5_share_37 rfl rfl ?_
        refine zV_iload_n (n := 39) C0 2 dX5_share_38 rfl rfl ?_
        refine zV_iload (n := 41) C0 4 dX5_share_39 rfl rfl ?_
        obtain ⟨S_33, hc_32, h⟩ := ob_of h
        refine zV_callVU (n := 44) (st := []) (As := [.int a2, .int x4_7]) C0 (k_X5_findBest a2 x4_7 S_8 _ hc_32) gX5_share_X5_findBest rfl (hd_X5_findBest) rfl ⟨rfl, rfl⟩ ⟨Nat.le_of_ble_eq_true rfl, Nat.le_of_ble_eq_true rfl⟩ 0 rfl rfl rfl (Nat.le_of_ble_eq_true rfl) dX5_share_41 rfl ?_
        refine zV_aload_n (n := 45) C0 0 dX5_share_44 rfl rfl ?_
        refine zV_get (n := 48) (ref := RX5) C0 hinX5_share_X5 0 rfl rfl 33 (Nat.le_of_ble_eq_true rfl) mX5_share_2 rfl rfl dX5_share_45 rfl ?_
        refine zV_iload (n := 50) C0 4 dX5_share_48 rfl rfl ?_
        refine zV_aload_n (n := 51) C0 0 dX5_share_50 rfl rfl ?_
        refine zV_get (n := 54) (ref := RX5) C0 hinX5_share_X5 0 rfl rfl 25 (Nat.le_of_ble_eq_true rfl) mX5_share_3 rfl rfl dX5_share_51 rfl ?_
        refine zV_bipush (n := 56) (v := (-9 : Int32)) C0 dX5_share_54 rfl rfl ?_
        refine zjoin_of h (fun k_35 hk_35 h => ?_)
        have Jk_35 : ∀ (s_34 : Int32), k_35 (s_34) = some r → zV E (wM cI cZ q ad) 7 S_33 71 [(0, .ref q), (1, .int a1), (2, .int a2), (3, .int a3), (4, .int x4_7)] [.int s_34, .int x4_7, .ref (ad 33)] := by
          intro s_34 h
          replace h := hk_35 _ h
          obtain ⟨hg_36, h⟩ := gd_of h
          refine zV_iast (n := 72) C0 14 0 rfl rfl hg_36 (S_33.1, S_33.2.1, zur S_33.2.2 33 (upd (S_33.2.2 33) (x4_7).toNatClampNeg s_34)) (wM_a33 cI cZ q ad S_33 (upd (S_33.2.2 33) (x4_7).toNatClampNeg s_34)) dX5_share_71 rfl ?_
          refine zV_topS (fun S_37 eS_37 => ?_)
          replace h := zlet_of eS_37 h
          clear eS_37
          refine zV_iinc (n := 75) C0 4 (v := (x4_7 + (1 : Int32))) [(4, .int (x4_7 + (1 : Int32))), (0, .ref q), (1, .int a1), (2, .int a2), (3, .int a3)] dX5_share_72 rfl rfl rfl (Nat.le_of_ble_eq_true rfl) rfl ?_
          refine zV_goto (tgt := 26) C0 dX5_share_75 rfl ?_
          refine zV_sub [1, 2, 3, 4, 0] rfl ?_
          exact Jrec_9 (x4_7 + (1 : Int32)) S_37 h
        clear hk_35
        refine zV_icmp_ne (tgt := 63) (n := 59) C0 dX5_share_56 rfl rfl (fun hb_38 => ?_) (fun hb_38 => ?_)
        · replace h := if_f hb_38 h
          refine zV_sipush (n := 66) (v := (200 : Int32)) C0 dX5_share_63 rfl rfl ?_
          refine zV_aload_n (n := 67) C0 0 dX5_share_66 rfl rfl ?_
          refine zV_get (n := 70) (ref := RX5) C0 hinX5_share_X5 0 rfl rfl 26 (Nat.le_of_ble_eq_true rfl) mX5_share_4 rfl rfl dX5_share_67 rfl ?_
          refine zV_isub (n := 71) C0 dX5_share_70  rfl ?_
          exact Jk_35 ((200 : Int32) - (S_33.1 26)) h
        · replace h := if_t hb_38 h
          refine zV_iconst (n := 60) (v := (0 : Int32)) C0 dX5_share_59 rfl rfl ?_
          refine zV_goto (tgt := 71) C0 dX5_share_60 rfl ?_
          exact Jk_35 (0 : Int32) h
    · replace h := if_f hb_40 h
      refine zV_sub [] rfl ?_
      exact Jk_4  h
set_option maxRecDepth 20000 in
theorem mX5_see_0 : Cond.fieldLink RX5 63 "LeggedThroughModel" "thrown" "I" ∈ wsX5_see := by decide +kernel
set_option maxRecDepth 20000 in
theorem mX5_see_1 : Cond.constantLong RX5 207 (5 : Int64) ∈ wsX5_see := by decide +kernel
set_option maxRecDepth 20000 in
theorem mX5_see_2 : Cond.constantLong RX5 128 (3 : Int64) ∈ wsX5_see := by decide +kernel
set_option maxRecDepth 20000 in
theorem mX5_see_3 : Cond.fieldLink RX5 121 "LeggedThroughModel" "seen" "I" ∈ wsX5_see := by decide +kernel
set_option maxRecDepth 20000 in
theorem mX5_see_4 : Cond.fieldLink RX5 48 "LeggedThroughModel" "seenStep" "[I" ∈ wsX5_see := by decide +kernel
set_option maxRecDepth 20000 in
theorem mX5_see_5 : Cond.fieldLink RX5 51 "LeggedThroughModel" "seenTime" "[I" ∈ wsX5_see := by decide +kernel
set_option maxRecDepth 20000 in
theorem hinX5_see_X5 : ∀ w ∈ u_ws RX5 TX5 37, w ∈ wsX5_see := fun w h => List.mem_cons_of_mem _ (List.mem_append_right _ h)
set_option maxRecDepth 20000 in
set_option maxHeartbeats 4000000 in
theorem k_X5_see {l : Launch} {D : va_G} {cI cZ : ClassId} {q : Nat} {ad : Nat → Nat} (a1 : Int32) (a2 : Int32)  (S : zS) (r : Int32 × zS) (h : f_X5_see a1 a2 S = some r) : zI l yX5_see wsX5_see (zRm 1 25) D (zty cI cZ) zNw (wM cI cZ q ad) [.ref q, .int a1, .int a2] S r := by
  refine zI_of (cc := cX5_see) (maxL := 3) (ty := .int) (by decide +kernel) rfl (Nat.le_of_ble_eq_true rfl) zNw_ok (fun E hE1 hE2 C0 hR => ?_)
  subst hE1; subst hE2
  replace C0 : zCx E (zRm 1 25) cX5_see 3 RX5 wsX5_see (zty cI cZ) zNw := C0
  show zV E (wM cI cZ q ad) 3 S 0 [(0, .ref q), (1, .int a1), (2, .int a2)] []
  delta f_X5_see at h
  refine zV_aload_n (n := 1) C0 0 dX5_see_0 rfl rfl ?_
  refine zV_iconst (n := 2) (v := (0 : Int32)) C0 dX5_see_1 rfl rfl ?_
  refine zV_put (n := 5) (ref := RX5) C0 hinX5_see_X5 0 rfl rfl 0 (Nat.le_of_ble_eq_true rfl) mX5_see_0 rfl tyX5 tyX5_ok nmX5 rfl (tyX5_ok 0 (Nat.le_of_ble_eq_true rfl)) rfl rfl (Nat.le_of_ble_eq_true rfl) (upd S.1 0 (0 : Int32), S.2) (wM_f0 cI cZ q ad S (0 : Int32)) dX5_see_2 rfl ?_
  refine zV_topS (fun S_1 eS_1 => ?_)
  replace h := zlet_of eS_1 h
  clear eS_1
  refine zV_iload_n (n := 6) C0 1 dX5_see_5 rfl rfl ?_
  refine zV_i2l (n := 7) C0 dX5_see_6  rfl ?_
  refine zV_lconst (n := 8) (v := (0 : Int64)) C0 dX5_see_7 rfl rfl ?_
  refine zV_ldc2 (n := 11) (v := (5 : Int64)) C0 dX5_see_8 mX5_see_1 rfl ?_
  obtain ⟨r_3, hc_2, h⟩ := ob_of h
  refine zV_callS0 (n := 14) (st := []) (As := [.long a1.toInt64, .long (0 : Int64), .long (5 : Int64)]) C0 (k_X5_in a1.toInt64 (0 : Int64) (5 : Int64) _ hc_2) gX5_see_X5_in rfl (hd_X5_in) rfl ⟨rfl, rfl⟩ ⟨Nat.le_of_ble_eq_true rfl, Nat.le_of_ble_eq_true rfl⟩ rfl (Nat.le_of_ble_eq_true rfl) dX5_see_11 rfl ?_
  refine zjoin_of h (fun k_4 hk_4 h => ?_)
  have Jk_4 : k_4 () = some r → zV E (wM cI cZ q ad) 3 S_1 29 [] [] := by
    intro  h
    replace h := hk_4 _ h
    refine zV_bipush (n := 31) (v := (-2 : Int32)) C0 dX5_see_29 rfl rfl ?_
    exact zretI hR h rfl dX5_see_31
  clear hk_4
  refine zV_if_eq (tgt := 29) (n := 17) C0 dX5_see_14 rfl rfl (fun hb_14 => ?_) (fun hb_14 => ?_)
  · replace h := if_t hb_14 h
    refine zV_sub [] rfl ?_
    exact Jk_4  h
  · replace h := if_f hb_14 h
    refine zV_iload_n (n := 18) C0 2 dX5_see_17 rfl rfl ?_
    refine zV_i2l (n := 19) C0 dX5_see_18  rfl ?_
    refine zV_lconst (n := 20) (v := (1 : Int64)) C0 dX5_see_19 rfl rfl ?_
    refine zV_ldc2 (n := 23) (v := (3 : Int64)) C0 dX5_see_20 mX5_see_2 rfl ?_
    obtain ⟨r_6, hc_5, h⟩ := ob_of h
    refine zV_callS0 (n := 26) (st := []) (As := [.long a2.toInt64, .long (1 : Int64), .long (3 : Int64)]) C0 (k_X5_in a2.toInt64 (1 : Int64) (3 : Int64) _ hc_5) gX5_see_X5_in rfl (hd_X5_in) rfl ⟨rfl, rfl⟩ ⟨Nat.le_of_ble_eq_true rfl, Nat.le_of_ble_eq_true rfl⟩ rfl (Nat.le_of_ble_eq_true rfl) dX5_see_23 rfl ?_
    refine zV_if_ne (tgt := 32) (n := 29) C0 dX5_see_26 rfl rfl (fun hb_13 => ?_) (fun hb_13 => ?_)
    · replace h := if_f hb_13 h
      refine zV_aload_n (n := 33) C0 0 dX5_see_32 rfl rfl ?_
      refine zV_get (n := 36) (ref := RX5) C0 hinX5_see_X5 0 rfl rfl 21 (Nat.le_of_ble_eq_true rfl) mX5_see_3 rfl rfl dX5_see_33 rfl ?_
      refine zV_bipush (n := 38) (v := (6 : Int32)) C0 dX5_see_36 rfl rfl ?_
      refine zV_icmp_ne (tgt := 44) (n := 41) C0 dX5_see_38 rfl rfl (fun hb_12 => ?_) (fun hb_12 => ?_)
      · replace h := if_f hb_12 h
        refine zV_aload_n (n := 45) C0 0 dX5_see_44 rfl rfl ?_
        refine zV_get (n := 48) (ref := RX5) C0 hinX5_see_X5 0 rfl rfl 22 (Nat.le_of_ble_eq_true rfl) mX5_see_4 rfl rfl dX5_see_45 rfl ?_
        refine zV_aload_n (n := 49) C0 0 dX5_see_48 rfl rfl ?_
        refine zV_get (n := 52) (ref := RX5) C0 hinX5_see_X5 0 rfl rfl 21 (Nat.le_of_ble_eq_true rfl) mX5_see_3 rfl rfl dX5_see_49 rfl ?_
        refine zV_iload_n (n := 53) C0 1 dX5_see_52 rfl rfl ?_
        obtain ⟨hg_7, h⟩ := gd_of h
        refine zV_iast (n := 54) C0 12 0 rfl rfl hg_7 (S_1.1, S_1.2.1, zur S_1.2.2 22 (upd (S_1.2.2 22) ((S_1.1 21)).toNatClampNeg a1)) (wM_a22 cI cZ q ad S_1 (upd (S_1.2.2 22) ((S_1.1 21)).toNatClampNeg a1)) dX5_see_53 rfl ?_
        refine zV_topS (fun S_8 eS_8 => ?_)
        replace h := zlet_of eS_8 h
        clear eS_8
        refine zV_aload_n (n := 55) C0 0 dX5_see_54 rfl rfl ?_
        refine zV_get (n := 58) (ref := RX5) C0 hinX5_see_X5 0 rfl rfl 23 (Nat.le_of_ble_eq_true rfl) mX5_see_5 rfl rfl dX5_see_55 rfl ?_
        refine zV_aload_n (n := 59) C0 0 dX5_see_58 rfl rfl ?_
        refine zV_get (n := 62) (ref := RX5) C0 hinX5_see_X5 0 rfl rfl 21 (Nat.le_of_ble_eq_true rfl) mX5_see_3 rfl rfl dX5_see_59 rfl ?_
        refine zV_iload_n (n := 63) C0 2 dX5_see_62 rfl rfl ?_
        obtain ⟨hg_9, h⟩ := gd_of h
        refine zV_iast (n := 64) C0 13 0 rfl rfl hg_9 (S_8.1, S_8.2.1, zur S_8.2.2 23 (upd (S_8.2.2 23) ((S_8.1 21)).toNatClampNeg a2)) (wM_a23 cI cZ q ad S_8 (upd (S_8.2.2 23) ((S_8.1 21)).toNatClampNeg a2)) dX5_see_63 rfl ?_
        refine zV_topS (fun S_10 eS_10 => ?_)
        replace h := zlet_of eS_10 h
        clear eS_10
        refine zV_aload_n (n := 65) C0 0 dX5_see_64 rfl rfl ?_
        refine zV_dup (n := 66) C0 dX5_see_65 rfl rfl ?_
        refine zV_get (n := 69) (ref := RX5) C0 hinX5_see_X5 0 rfl rfl 21 (Nat.le_of_ble_eq_true rfl) mX5_see_3 rfl rfl dX5_see_66 rfl ?_
        refine zV_iconst (n := 70) (v := (1 : Int32)) C0 dX5_see_69 rfl rfl ?_
        refine zV_iadd (n := 71) C0 dX5_see_70  rfl ?_
        refine zV_put (n := 74) (ref := RX5) C0 hinX5_see_X5 0 rfl rfl 21 (Nat.le_of_ble_eq_true rfl) mX5_see_3 rfl tyX5 tyX5_ok nmX5 rfl (tyX5_ok 21 (Nat.le_of_ble_eq_true rfl)) rfl rfl (Nat.le_of_ble_eq_true rfl) (upd S_10.1 21 ((S_10.1 21) + (1 : Int32)), S_10.2) (wM_f21 cI cZ q ad S_10 ((S_10.1 21) + (1 : Int32))) dX5_see_71 rfl ?_
        refine zV_topS (fun S_11 eS_11 => ?_)
        replace h := zlet_of eS_11 h
        clear eS_11
        refine zV_aload_n (n := 75) C0 0 dX5_see_74 rfl rfl ?_
        refine zV_get (n := 78) (ref := RX5) C0 hinX5_see_X5 0 rfl rfl 21 (Nat.le_of_ble_eq_true rfl) mX5_see_3 rfl rfl dX5_see_75 rfl ?_
        exact zretI hR h rfl dX5_see_78
      · replace h := if_t hb_12 h
        refine zV_bipush (n := 43) (v := (-4 : Int32)) C0 dX5_see_41 rfl rfl ?_
        exact zretI hR h rfl dX5_see_43
    · replace h := if_t hb_13 h
      refine zV_sub [] rfl ?_
      exact Jk_4  h
set_option maxRecDepth 20000 in
theorem mX5_unsee_0 : Cond.fieldLink RX5 63 "LeggedThroughModel" "thrown" "I" ∈ wsX5_unsee := by decide +kernel
set_option maxRecDepth 20000 in
theorem mX5_unsee_1 : Cond.fieldLink RX5 121 "LeggedThroughModel" "seen" "I" ∈ wsX5_unsee := by decide +kernel
set_option maxRecDepth 20000 in
theorem hinX5_unsee_X5 : ∀ w ∈ u_ws RX5 TX5 37, w ∈ wsX5_unsee := fun w h => List.mem_cons_of_mem _ (List.mem_append_right _ h)
set_option maxRecDepth 20000 in
set_option maxHeartbeats 4000000 in
theorem k_X5_unsee {l : Launch} {D : va_G} {cI cZ : ClassId} {q : Nat} {ad : Nat → Nat}   (S : zS) (r : Int32 × zS) (h : f_X5_unsee  S = some r) : zI l yX5_unsee wsX5_unsee (zRm 0 0) D (zty cI cZ) zNw (wM cI cZ q ad) [.ref q] S r := by
  refine zI_of (cc := cX5_unsee) (maxL := 2) (ty := .int) (by decide +kernel) rfl (Nat.le_of_ble_eq_true rfl) zNw_ok (fun E hE1 hE2 C0 hR => ?_)
  subst hE1; subst hE2
  replace C0 : zCx E (zRm 0 0) cX5_unsee 2 RX5 wsX5_unsee (zty cI cZ) zNw := C0
  show zV E (wM cI cZ q ad) 2 S 0 [(0, .ref q)] []
  delta f_X5_unsee at h
  refine zV_aload_n (n := 1) C0 0 dX5_unsee_0 rfl rfl ?_
  refine zV_iconst (n := 2) (v := (0 : Int32)) C0 dX5_unsee_1 rfl rfl ?_
  refine zV_put (n := 5) (ref := RX5) C0 hinX5_unsee_X5 0 rfl rfl 0 (Nat.le_of_ble_eq_true rfl) mX5_unsee_0 rfl tyX5 tyX5_ok nmX5 rfl (tyX5_ok 0 (Nat.le_of_ble_eq_true rfl)) rfl rfl (Nat.le_of_ble_eq_true rfl) (upd S.1 0 (0 : Int32), S.2) (wM_f0 cI cZ q ad S (0 : Int32)) dX5_unsee_2 rfl ?_
  refine zV_topS (fun S_1 eS_1 => ?_)
  replace h := zlet_of eS_1 h
  clear eS_1
  refine zV_aload_n (n := 6) C0 0 dX5_unsee_5 rfl rfl ?_
  refine zV_get (n := 9) (ref := RX5) C0 hinX5_unsee_X5 0 rfl rfl 21 (Nat.le_of_ble_eq_true rfl) mX5_unsee_1 rfl rfl dX5_unsee_6 rfl ?_
  refine zV_topi (fun x1_2 ex1_2 => ?_)
  replace h := zlet_of ex1_2 h
  clear ex1_2
  refine zV_istore_n (n := 10) C0 [(1, .int x1_2), (0, .ref q)] dX5_unsee_9 rfl rfl (Nat.le_of_ble_eq_true rfl) rfl ?_
  refine zV_aload_n (n := 11) C0 1 dX5_unsee_10 rfl rfl ?_
  refine zV_iconst (n := 12) (v := (0 : Int32)) C0 dX5_unsee_11 rfl rfl ?_
  refine zV_put (n := 15) (ref := RX5) C0 hinX5_unsee_X5 0 rfl rfl 21 (Nat.le_of_ble_eq_true rfl) mX5_unsee_1 rfl tyX5 tyX5_ok nmX5 rfl (tyX5_ok 21 (Nat.le_of_ble_eq_true rfl)) rfl rfl (Nat.le_of_ble_eq_true rfl) (upd S_1.1 21 (0 : Int32), S_1.2) (wM_f21 cI cZ q ad S_1 (0 : Int32)) dX5_unsee_12 rfl ?_
  refine zV_topS (fun S_3 eS_3 => ?_)
  replace h := zlet_of eS_3 h
  clear eS_3
  refine zV_iload_n (n := 16) C0 0 dX5_unsee_15 rfl rfl ?_
  exact zretI hR h rfl dX5_unsee_16
set_option maxRecDepth 20000 in
theorem mX5_isSeen_0 : Cond.fieldLink RX5 121 "LeggedThroughModel" "seen" "I" ∈ wsX5_isSeen := by decide +kernel
set_option maxRecDepth 20000 in
theorem mX5_isSeen_1 : Cond.fieldLink RX5 48 "LeggedThroughModel" "seenStep" "[I" ∈ wsX5_isSeen := by decide +kernel
set_option maxRecDepth 20000 in
theorem mX5_isSeen_2 : Cond.fieldLink RX5 51 "LeggedThroughModel" "seenTime" "[I" ∈ wsX5_isSeen := by decide +kernel
set_option maxRecDepth 20000 in
theorem hinX5_isSeen_X5 : ∀ w ∈ u_ws RX5 TX5 37, w ∈ wsX5_isSeen := fun w h => List.mem_cons_of_mem _ (List.mem_append_right _ h)
set_option maxRecDepth 20000 in
set_option maxHeartbeats 4000000 in
theorem k_X5_isSeen {l : Launch} {D : va_G} {cI cZ : ClassId} {q : Nat} {ad : Nat → Nat} (a1 : Int32)  (S : zS) (r : Int32) (h : f_X5_isSeen a1 S = some r) : zI l yX5_isSeen wsX5_isSeen (zRm 1 23) D (zty cI cZ) zNw (wM cI cZ q ad) [.ref q, .int a1] S (r, S) := by
  refine zI_of (cc := cX5_isSeen) (maxL := 7) (ty := .boolean) (by decide +kernel) rfl (Nat.le_of_ble_eq_true rfl) zNw_ok (fun E hE1 hE2 C0 hR => ?_)
  subst hE1; subst hE2
  replace C0 : zCx E (zRm 1 23) cX5_isSeen 7 RX5 wsX5_isSeen (zty cI cZ) zNw := C0
  show zV E (wM cI cZ q ad) 7 S 0 [(0, .ref q), (1, .int a1)] []
  delta f_X5_isSeen at h
  refine zV_iconst (n := 1) (v := (0 : Int32)) C0 dX5_isSeen_0 rfl rfl ?_
  refine zV_istore_n (n := 2) C0 [(2, .int (0 : Int32)), (0, .ref q), (1, .int a1)] dX5_isSeen_1 rfl rfl (Nat.le_of_ble_eq_true rfl) rfl ?_
  refine zV_iconst (n := 3) (v := (1 : Int32)) C0 dX5_isSeen_2 rfl rfl ?_
  refine zV_istore_n (n := 4) C0 [(3, .int (1 : Int32)), (2, .int (0 : Int32)), (0, .ref q), (1, .int a1)] dX5_isSeen_3 rfl rfl (Nat.le_of_ble_eq_true rfl) rfl ?_
  refine zV_iconst (n := 5) (v := (0 : Int32)) C0 dX5_isSeen_4 rfl rfl ?_
  refine zV_istore (n := 7) C0 [(4, .int (0 : Int32)), (3, .int (1 : Int32)), (2, .int (0 : Int32)), (0, .ref q), (1, .int a1)] dX5_isSeen_5 rfl (Nat.le_of_ble_eq_true rfl) rfl ?_
  refine zV_sub [3, 4, 2, 1, 0] rfl ?_
  refine zfix_ind (fun e => zV E (wM cI cZ q ad) 7 S 7 [(0, .ref q), (1, .int a1), (2, .int e.1), (3, .int e.2.1), (4, .int e.2.2)] []) (fun rec_4 hrec_4 e h => ?_) zN ((0 : Int32), (1 : Int32), (0 : Int32)) h
  obtain ⟨x2_1, x3_2, x4_3⟩ := e
  have Jrec_4 : ∀ (x2_1 : Int32) (x3_2 : Int32) (x4_3 : Int32), rec_4 (x2_1, x3_2, x4_3) = some r → zV E (wM cI cZ q ad) 7 S 7 [(0, .ref q), (1, .int a1), (2, .int x2_1), (3, .int x3_2), (4, .int x4_3)] [] := fun x2_1 x3_2 x4_3 h => hrec_4 _ h
  clear hrec_4
  dsimp only [F_X5_isSeen_7] at h
  show zV E (wM cI cZ q ad) 7 S 7 [(0, .ref q), (1, .int a1), (2, .int x2_1), (3, .int x3_2), (4, .int x4_3)] []
  refine zV_iload (n := 9) C0 4 dX5_isSeen_7 rfl rfl ?_
  refine zV_bipush (n := 11) (v := (6 : Int32)) C0 dX5_isSeen_9 rfl rfl ?_
  refine zjoin_of h (fun k_5 hk_5 h => ?_)
  have Jk_5 : k_5 () = some r → zV E (wM cI cZ q ad) 7 S 97 [(3, .int x3_2)] [] := by
    intro  h
    replace h := hk_5 _ h
    refine zV_iload_n (n := 98) C0 0 dX5_isSeen_97 rfl rfl ?_
    obtain ⟨hz, h⟩ := gd_of h
    exact zretI1 hR h (znz hz) dX5_isSeen_98
  clear hk_5
  refine zV_icmp_ge (tgt := 97) (n := 14) C0 dX5_isSeen_11 rfl rfl (fun hb_28 => ?_) (fun hb_28 => ?_)
  · replace h := if_t hb_28 h
    refine zV_sub [3] rfl ?_
    exact Jk_5  h
  · replace h := if_f hb_28 h
    refine zV_iload_n (n := 15) C0 3 dX5_isSeen_14 rfl rfl ?_
    refine zV_if_eq (tgt := 97) (n := 18) C0 dX5_isSeen_15 rfl rfl (fun hb_27 => ?_) (fun hb_27 => ?_)
    · replace h := if_t hb_27 h
      refine zV_sub [3] rfl ?_
      exact Jk_5  h
    · replace h := if_f hb_27 h
      refine zV_iload_n (n := 19) C0 1 dX5_isSeen_18 rfl rfl ?_
      refine zV_iconst (n := 20) (v := (4 : Int32)) C0 dX5_isSeen_19 rfl rfl ?_
      refine zV_iload_n (n := 21) C0 2 dX5_isSeen_20 rfl rfl ?_
      obtain ⟨r_7, hc_6, h⟩ := ob_of h
      refine zV_callS0 (n := 24) (st := [.int a1]) (As := [.int (4 : Int32), .int x2_1]) C0 (k_X5_power (4 : Int32) x2_1 _ hc_6) gX5_isSeen_X5_power rfl (hd_X5_power) rfl ⟨rfl, rfl⟩ ⟨Nat.le_of_ble_eq_true rfl, Nat.le_of_ble_eq_true rfl⟩ rfl (Nat.le_of_ble_eq_true rfl) dX5_isSeen_21 rfl ?_
      obtain ⟨hg_8, h⟩ := gd_of h
      refine zV_idiv (n := 25) C0 dX5_isSeen_24 hg_8 rfl ?_
      refine zV_iconst (n := 26) (v := (4 : Int32)) C0 dX5_isSeen_25 rfl rfl ?_
      refine zV_irem (n := 27) C0 dX5_isSeen_26 (by decide) rfl ?_
      refine zV_topi (fun x5_9 ex5_9 => ?_)
      replace h := zlet_of ex5_9 h
      clear ex5_9
      refine zV_istore (n := 29) C0 [(5, .int x5_9), (0, .ref q), (1, .int a1), (2, .int x2_1), (3, .int x3_2), (4, .int x4_3)] dX5_isSeen_27 rfl (Nat.le_of_ble_eq_true rfl) rfl ?_
      refine zV_iconst (n := 30) (v := (0 : Int32)) C0 dX5_isSeen_29 rfl rfl ?_
      refine zV_istore (n := 32) C0 [(6, .int (0 : Int32)), (5, .int x5_9), (0, .ref q), (1, .int a1), (2, .int x2_1), (3, .int x3_2), (4, .int x4_3)] dX5_isSeen_30 rfl (Nat.le_of_ble_eq_true rfl) rfl ?_
      refine zV_sub [2, 3, 4, 5, 6, 1, 0] rfl ?_
      refine zfix_ind (fun e => zV E (wM cI cZ q ad) 7 S 32 [(0, .ref q), (1, .int a1), (2, .int x2_1), (3, .int e.1), (4, .int x4_3), (5, .int x5_9), (6, .int e.2)] []) (fun rec_12 hrec_12 e h => ?_) zN (x3_2, (0 : Int32)) h
      obtain ⟨x3_10, x6_11⟩ := e
      have Jrec_12 : ∀ (x3_10 : Int32) (x6_11 : Int32), rec_12 (x3_10, x6_11) = some r → zV E (wM cI cZ q ad) 7 S 32 [(0, .ref q), (1, .int a1), (2, .int x2_1), (3, .int x3_10), (4, .int x4_3), (5, .int x5_9), (6, .int x6_11)] [] := fun x3_10 x6_11 h => hrec_12 _ h
      clear hrec_12
      dsimp only [F_X5_isSeen_32] at h
      show zV E (wM cI cZ q ad) 7 S 32 [(0, .ref q), (1, .int a1), (2, .int x2_1), (3, .int x3_10), (4, .int x4_3), (5, .int x5_9), (6, .int x6_11)] []
      refine zV_iload (n := 34) C0 6 dX5_isSeen_32 rfl rfl ?_
      refine zV_aload_n (n := 35) C0 0 dX5_isSeen_34 rfl rfl ?_
      refine zV_get (n := 38) (ref := RX5) C0 hinX5_isSeen_X5 0 rfl rfl 21 (Nat.le_of_ble_eq_true rfl) mX5_isSeen_0 rfl rfl dX5_isSeen_35 rfl ?_
      refine zV_icmp_ge (tgt := 84) (n := 41) C0 dX5_isSeen_38 rfl rfl (fun hb_26 => ?_) (fun hb_26 => ?_)
      · replace h := if_t hb_26 h
        refine zV_iload_n (n := 85) C0 2 dX5_isSeen_84 rfl rfl ?_
        refine zV_iload (n := 87) C0 5 dX5_isSeen_85 rfl rfl ?_
        obtain ⟨r_14, hc_13, h⟩ := ob_of h
        refine zV_callS0 (n := 90) (st := []) (As := [.int x2_1, .int x5_9]) C0 (k_X5_next x2_1 x5_9 _ hc_13) gX5_isSeen_X5_next rfl (hd_X5_next) rfl ⟨rfl, rfl⟩ ⟨Nat.le_of_ble_eq_true rfl, Nat.le_of_ble_eq_true rfl⟩ rfl (Nat.le_of_ble_eq_true rfl) dX5_isSeen_87 rfl ?_
        refine zV_istore_n (n := 91) C0 [(2, .int r_14), (0, .ref q), (1, .int a1), (3, .int x3_10), (4, .int x4_3), (5, .int x5_9), (6, .int x6_11)] dX5_isSeen_90 rfl rfl (Nat.le_of_ble_eq_true rfl) rfl ?_
        refine zV_iinc (n := 94) C0 4 (v := (x4_3 + (1 : Int32))) [(4, .int (x4_3 + (1 : Int32))), (2, .int r_14), (0, .ref q), (1, .int a1), (3, .int x3_10), (5, .int x5_9), (6, .int x6_11)] dX5_isSeen_91 rfl rfl rfl (Nat.le_of_ble_eq_true rfl) rfl ?_
        refine zV_goto (tgt := 7) C0 dX5_isSeen_94 rfl ?_
        refine zV_sub [2, 3, 1, 4, 0] rfl ?_
        exact Jrec_4 r_14 x3_10 (x4_3 + (1 : Int32)) h
      · replace h := if_f hb_26 h
        refine zV_iload_n (n := 42) C0 3 dX5_isSeen_41 rfl rfl ?_
        refine zjoin_of h (fun k_16 hk_16 h => ?_)
        have Jk_16 : ∀ (s_15 : Int32), k_16 (s_15) = some r → zV E (wM cI cZ q ad) 7 S 77 [(0, .ref q), (1, .int a1), (2, .int x2_1), (4, .int x4_3), (5, .int x5_9), (6, .int x6_11)] [.int s_15] := by
          intro s_15 h
          replace h := hk_16 _ h
          refine zV_istore_n (n := 78) C0 [(3, .int s_15), (0, .ref q), (1, .int a1), (2, .int x2_1), (4, .int x4_3), (5, .int x5_9), (6, .int x6_11)] dX5_isSeen_77 rfl rfl (Nat.le_of_ble_eq_true rfl) rfl ?_
          refine zV_iinc (n := 81) C0 6 (v := (x6_11 + (1 : Int32))) [(6, .int (x6_11 + (1 : Int32))), (3, .int s_15), (0, .ref q), (1, .int a1), (2, .int x2_1), (4, .int x4_3), (5, .int x5_9)] dX5_isSeen_78 rfl rfl rfl (Nat.le_of_ble_eq_true rfl) rfl ?_
          refine zV_goto (tgt := 32) C0 dX5_isSeen_81 rfl ?_
          refine zV_sub [2, 3, 4, 1, 5, 6, 0] rfl ?_
          exact Jrec_12 s_15 (x6_11 + (1 : Int32)) h
        clear hk_16
        refine zjoin_of h (fun k_17 hk_17 h => ?_)
        have Jk_17 : k_17 () = some r → zV E (wM cI cZ q ad) 7 S 76 [(0, .ref q), (1, .int a1), (2, .int x2_1), (4, .int x4_3), (5, .int x5_9), (6, .int x6_11)] [] := by
          intro  h
          replace h := hk_17 _ h
          refine zV_iconst (n := 77) (v := (0 : Int32)) C0 dX5_isSeen_76 rfl rfl ?_
          exact Jk_16 (0 : Int32) h
        clear hk_17
        refine zV_if_eq (tgt := 76) (n := 45) C0 dX5_isSeen_42 rfl rfl (fun hb_25 => ?_) (fun hb_25 => ?_)
        · replace h := if_t hb_25 h
          refine zV_sub [0, 1, 2, 4, 5, 6] rfl ?_
          exact Jk_17  h
        · replace h := if_f hb_25 h
          refine zV_aload_n (n := 46) C0 0 dX5_isSeen_45 rfl rfl ?_
          refine zV_get (n := 49) (ref := RX5) C0 hinX5_isSeen_X5 0 rfl rfl 22 (Nat.le_of_ble_eq_true rfl) mX5_isSeen_1 rfl rfl dX5_isSeen_46 rfl ?_
          refine zV_iload (n := 51) C0 6 dX5_isSeen_49 rfl rfl ?_
          obtain ⟨hg_18, h⟩ := gd_of h
          refine zV_iald (n := 52) C0 12 0 rfl rfl hg_18 dX5_isSeen_51 rfl ?_
          refine zV_iload (n := 54) C0 4 dX5_isSeen_52 rfl rfl ?_
          refine zjoin_of h (fun k_19 hk_19 h => ?_)
          have Jk_19 : k_19 () = some r → zV E (wM cI cZ q ad) 7 S 72 [(0, .ref q), (1, .int a1), (2, .int x2_1), (4, .int x4_3), (5, .int x5_9), (6, .int x6_11)] [] := by
            intro  h
            replace h := hk_19 _ h
            refine zV_iconst (n := 73) (v := (1 : Int32)) C0 dX5_isSeen_72 rfl rfl ?_
            refine zV_goto (tgt := 77) C0 dX5_isSeen_73 rfl ?_
            exact Jk_16 (1 : Int32) h
          clear hk_19
          refine zV_icmp_ne (tgt := 72) (n := 57) C0 dX5_isSeen_54 rfl rfl (fun hb_24 => ?_) (fun hb_24 => ?_)
          · replace h := if_f hb_24 h
            refine zV_sub [0, 1, 2, 4, 5, 6] rfl ?_
            exact Jk_19  h
          · replace h := if_t hb_24 h
            refine zV_aload_n (n := 58) C0 0 dX5_isSeen_57 rfl rfl ?_
            refine zV_get (n := 61) (ref := RX5) C0 hinX5_isSeen_X5 0 rfl rfl 23 (Nat.le_of_ble_eq_true rfl) mX5_isSeen_2 rfl rfl dX5_isSeen_58 rfl ?_
            refine zV_iload (n := 63) C0 6 dX5_isSeen_61 rfl rfl ?_
            obtain ⟨hg_20, h⟩ := gd_of h
            refine zV_iald (n := 64) C0 13 0 rfl rfl hg_20 dX5_isSeen_63 rfl ?_
            refine zV_iload (n := 66) C0 5 dX5_isSeen_64 rfl rfl ?_
            obtain ⟨r_22, hc_21, h⟩ := ob_of h
            refine zV_callS0 (n := 69) (st := [.int (S.2.2 23 (x6_11).toNatClampNeg)]) (As := [.int x5_9]) C0 (k_X5_minutes x5_9 _ hc_21) gX5_isSeen_X5_minutes rfl (hd_X5_minutes) rfl ⟨rfl, rfl⟩ ⟨Nat.le_of_ble_eq_true rfl, Nat.le_of_ble_eq_true rfl⟩ rfl (Nat.le_of_ble_eq_true rfl) dX5_isSeen_66 rfl ?_
            refine zV_icmp_ne (tgt := 76) (n := 72) C0 dX5_isSeen_69 rfl rfl (fun hb_23 => ?_) (fun hb_23 => ?_)
            · replace h := if_f hb_23 h
              refine zV_sub [0, 1, 2, 4, 5, 6] rfl ?_
              exact Jk_17  h
            · replace h := if_t hb_23 h
              refine zV_sub [0, 1, 2, 4, 5, 6] rfl ?_
              exact Jk_19  h
set_option maxRecDepth 20000 in
theorem mX5_lives_0 : Cond.fieldLink RX5 63 "LeggedThroughModel" "thrown" "I" ∈ wsX5_lives := by decide +kernel
set_option maxRecDepth 20000 in
theorem mX5_lives_1 : Cond.constantLong RX5 209 (-1 : Int64) ∈ wsX5_lives := by decide +kernel
set_option maxRecDepth 20000 in
theorem mX5_lives_2 : Cond.constantLong RX5 128 (3 : Int64) ∈ wsX5_lives := by decide +kernel
set_option maxRecDepth 20000 in
theorem hinX5_lives_X5 : ∀ w ∈ u_ws RX5 TX5 37, w ∈ wsX5_lives := fun w h => List.mem_cons_of_mem _ (List.mem_append_right _ h)
set_option maxRecDepth 20000 in
set_option maxHeartbeats 4000000 in
theorem k_X5_lives {l : Launch} {D : va_G} {cI cZ : ClassId} {q : Nat} {ad : Nat → Nat} (a1 : Int32)  (S : zS) (r : Int32 × zS) (h : f_X5_lives a1 S = some r) : zI l yX5_lives wsX5_lives (zRm 2 49) D (zty cI cZ) zNw (wM cI cZ q ad) [.ref q, .int a1] S r := by
  refine zI_of (cc := cX5_lives) (maxL := 5) (ty := .int) (by decide +kernel) rfl (Nat.le_of_ble_eq_true rfl) zNw_ok (fun E hE1 hE2 C0 hR => ?_)
  subst hE1; subst hE2
  replace C0 : zCx E (zRm 2 49) cX5_lives 5 RX5 wsX5_lives (zty cI cZ) zNw := C0
  show zV E (wM cI cZ q ad) 5 S 0 [(0, .ref q), (1, .int a1)] []
  delta f_X5_lives at h
  refine zV_aload_n (n := 1) C0 0 dX5_lives_0 rfl rfl ?_
  refine zV_iconst (n := 2) (v := (0 : Int32)) C0 dX5_lives_1 rfl rfl ?_
  refine zV_put (n := 5) (ref := RX5) C0 hinX5_lives_X5 0 rfl rfl 0 (Nat.le_of_ble_eq_true rfl) mX5_lives_0 rfl tyX5 tyX5_ok nmX5 rfl (tyX5_ok 0 (Nat.le_of_ble_eq_true rfl)) rfl rfl (Nat.le_of_ble_eq_true rfl) (upd S.1 0 (0 : Int32), S.2) (wM_f0 cI cZ q ad S (0 : Int32)) dX5_lives_2 rfl ?_
  refine zV_topS (fun S_1 eS_1 => ?_)
  replace h := zlet_of eS_1 h
  clear eS_1
  refine zV_iload_n (n := 6) C0 1 dX5_lives_5 rfl rfl ?_
  refine zV_i2l (n := 7) C0 dX5_lives_6  rfl ?_
  refine zV_ldc2 (n := 10) (v := (-1 : Int64)) C0 dX5_lives_7 mX5_lives_1 rfl ?_
  refine zV_ldc2 (n := 13) (v := (3 : Int64)) C0 dX5_lives_10 mX5_lives_2 rfl ?_
  obtain ⟨r_3, hc_2, h⟩ := ob_of h
  refine zV_callS0 (n := 16) (st := []) (As := [.long a1.toInt64, .long (-1 : Int64), .long (3 : Int64)]) C0 (k_X5_in a1.toInt64 (-1 : Int64) (3 : Int64) _ hc_2) gX5_lives_X5_in rfl (hd_X5_in) rfl ⟨rfl, rfl⟩ ⟨Nat.le_of_ble_eq_true rfl, Nat.le_of_ble_eq_true rfl⟩ rfl (Nat.le_of_ble_eq_true rfl) dX5_lives_13 rfl ?_
  refine zV_if_ne (tgt := 22) (n := 19) C0 dX5_lives_16 rfl rfl (fun hb_25 => ?_) (fun hb_25 => ?_)
  · replace h := if_f hb_25 h
    refine zV_iconst (n := 23) (v := (0 : Int32)) C0 dX5_lives_22 rfl rfl ?_
    refine zV_istore_n (n := 24) C0 [(2, .int (0 : Int32)), (0, .ref q), (1, .int a1)] dX5_lives_23 rfl rfl (Nat.le_of_ble_eq_true rfl) rfl ?_
    refine zV_iconst (n := 25) (v := (0 : Int32)) C0 dX5_lives_24 rfl rfl ?_
    refine zV_istore_n (n := 26) C0 [(3, .int (0 : Int32)), (2, .int (0 : Int32)), (0, .ref q), (1, .int a1)] dX5_lives_25 rfl rfl (Nat.le_of_ble_eq_true rfl) rfl ?_
    refine zV_iconst (n := 27) (v := (0 : Int32)) C0 dX5_lives_26 rfl rfl ?_
    refine zV_istore (n := 29) C0 [(4, .int (0 : Int32)), (3, .int (0 : Int32)), (2, .int (0 : Int32)), (0, .ref q), (1, .int a1)] dX5_lives_27 rfl (Nat.le_of_ble_eq_true rfl) rfl ?_
    refine zV_sub [3, 4, 2, 1, 0] rfl ?_
    refine zfix_ind (fun e => zV E (wM cI cZ q ad) 5 S_1 29 [(0, .ref q), (1, .int a1), (2, .int e.1), (3, .int e.2.1), (4, .int e.2.2)] []) (fun rec_7 hrec_7 e h => ?_) zN ((0 : Int32), (0 : Int32), (0 : Int32)) h
    obtain ⟨x2_4, x3_5, x4_6⟩ := e
    have Jrec_7 : ∀ (x2_4 : Int32) (x3_5 : Int32) (x4_6 : Int32), rec_7 (x2_4, x3_5, x4_6) = some r → zV E (wM cI cZ q ad) 5 S_1 29 [(0, .ref q), (1, .int a1), (2, .int x2_4), (3, .int x3_5), (4, .int x4_6)] [] := fun x2_4 x3_5 x4_6 h => hrec_7 _ h
    clear hrec_7
    dsimp only [F_X5_lives_29] at h
    show zV E (wM cI cZ q ad) 5 S_1 29 [(0, .ref q), (1, .int a1), (2, .int x2_4), (3, .int x3_5), (4, .int x4_6)] []
    refine zV_iload (n := 31) C0 4 dX5_lives_29 rfl rfl ?_
    refine zV_sipush (n := 34) (v := (256 : Int32)) C0 dX5_lives_31 rfl rfl ?_
    refine zV_icmp_ge (tgt := 78) (n := 37) C0 dX5_lives_34 rfl rfl (fun hb_24 => ?_) (fun hb_24 => ?_)
    · replace h := if_t hb_24 h
      refine zV_iload_n (n := 79) C0 1 dX5_lives_78 rfl rfl ?_
      refine zjoin_of h (fun k_9 hk_9 h => ?_)
      have Jk_9 : ∀ (s_8 : Int32), k_9 (s_8) = some r → zV E (wM cI cZ q ad) 5 S_1 87 [] [.int s_8] := by
        intro s_8 h
        replace h := hk_9 _ h
        exact zretI hR h rfl dX5_lives_87
      clear hk_9
      refine zV_if_ge (tgt := 86) (n := 82) C0 dX5_lives_79 rfl rfl (fun hb_10 => ?_) (fun hb_10 => ?_)
      · replace h := if_t hb_10 h
        refine zV_iload_n (n := 87) C0 3 dX5_lives_86 rfl rfl ?_
        refine zV_sub [] rfl ?_
        exact Jk_9 x3_5 h
      · replace h := if_f hb_10 h
        refine zV_iload_n (n := 83) C0 2 dX5_lives_82 rfl rfl ?_
        refine zV_goto (tgt := 87) C0 dX5_lives_83 rfl ?_
        refine zV_sub [] rfl ?_
        exact Jk_9 x2_4 h
    · replace h := if_f hb_24 h
      refine zV_aload_n (n := 38) C0 0 dX5_lives_37 rfl rfl ?_
      refine zV_iload (n := 40) C0 4 dX5_lives_38 rfl rfl ?_
      obtain ⟨r_12, hc_11, h⟩ := ob_of h
      refine zV_callVI (n := 43) (st := []) (As := [.int x4_6]) C0 (k_X5_isSeen x4_6 S_1 _ hc_11) gX5_lives_X5_isSeen rfl (hd_X5_isSeen) rfl ⟨rfl, rfl⟩ ⟨Nat.le_of_ble_eq_true rfl, Nat.le_of_ble_eq_true rfl⟩ 0 rfl rfl rfl (Nat.le_of_ble_eq_true rfl) dX5_lives_40 rfl ?_
      refine zjoin_of h (fun k_15 hk_15 h => ?_)
      have Jk_15 : ∀ (x2_13 : Int32) (x3_14 : Int32), k_15 (x2_13, x3_14) = some r → zV E (wM cI cZ q ad) 5 S_1 72 [(0, .ref q), (1, .int a1), (2, .int x2_13), (3, .int x3_14), (4, .int x4_6)] [] := by
        intro x2_13 x3_14 h
        replace h := hk_15 _ h
        dsimp only at h
        refine zV_iinc (n := 75) C0 4 (v := (x4_6 + (1 : Int32))) [(4, .int (x4_6 + (1 : Int32))), (0, .ref q), (1, .int a1), (2, .int x2_13), (3, .int x3_14)] dX5_lives_72 rfl rfl rfl (Nat.le_of_ble_eq_true rfl) rfl ?_
        refine zV_goto (tgt := 29) C0 dX5_lives_75 rfl ?_
        refine zV_sub [1, 2, 3, 4, 0] rfl ?_
        exact Jrec_7 x2_13 x3_14 (x4_6 + (1 : Int32)) h
      clear hk_15
      refine zV_if_eq (tgt := 72) (n := 46) C0 dX5_lives_43 rfl rfl (fun hb_23 => ?_) (fun hb_23 => ?_)
      · replace h := if_t hb_23 h
        exact Jk_15 x2_4 x3_5 h
      · replace h := if_f hb_23 h
        refine zV_iinc (n := 49) C0 2 (v := (x2_4 + (1 : Int32))) [(2, .int (x2_4 + (1 : Int32))), (0, .ref q), (1, .int a1), (3, .int x3_5), (4, .int x4_6)] dX5_lives_46 rfl rfl rfl (Nat.le_of_ble_eq_true rfl) rfl ?_
        refine zV_iload_n (n := 50) C0 3 dX5_lives_49 rfl rfl ?_
        refine zV_iload_n (n := 51) C0 2 dX5_lives_50 rfl rfl ?_
        refine zjoin_of h (fun k_17 hk_17 h => ?_)
        have Jk_17 : ∀ (s_16 : Int32), k_17 (s_16) = some r → zV E (wM cI cZ q ad) 5 S_1 70 [(0, .ref q), (1, .int a1), (2, .int (x2_4 + (1 : Int32))), (4, .int x4_6)] [.int s_16, .int x3_5] := by
          intro s_16 h
          replace h := hk_17 _ h
          refine zV_ior (n := 71) C0 dX5_lives_70  rfl ?_
          refine zV_topi (fun x3_18 ex3_18 => ?_)
          replace h := zlet_of ex3_18 h
          clear ex3_18
          refine zV_istore_n (n := 72) C0 [(3, .int x3_18), (0, .ref q), (1, .int a1), (2, .int (x2_4 + (1 : Int32))), (4, .int x4_6)] dX5_lives_71 rfl rfl (Nat.le_of_ble_eq_true rfl) rfl ?_
          refine zV_sub [1, 2, 3, 0, 4] rfl ?_
          exact Jk_15 (x2_4 + (1 : Int32)) x3_18 h
        clear hk_17
        refine zV_if_ge (tgt := 58) (n := 54) C0 dX5_lives_51 rfl rfl (fun hb_22 => ?_) (fun hb_22 => ?_)
        · replace h := if_t hb_22 h
          refine zV_iconst (n := 59) (v := (1 : Int32)) C0 dX5_lives_58 rfl rfl ?_
          refine zV_iload (n := 61) C0 4 dX5_lives_59 rfl rfl ?_
          refine zV_iconst (n := 62) (v := (4 : Int32)) C0 dX5_lives_61 rfl rfl ?_
          refine zV_iload_n (n := 63) C0 2 dX5_lives_62 rfl rfl ?_
          obtain ⟨r_20, hc_19, h⟩ := ob_of h
          refine zV_callS0 (n := 66) (st := [.int x4_6, .int (1 : Int32), .int x3_5]) (As := [.int (4 : Int32), .int a1]) C0 (k_X5_power (4 : Int32) a1 _ hc_19) gX5_lives_X5_power rfl (hd_X5_power) rfl ⟨rfl, rfl⟩ ⟨Nat.le_of_ble_eq_true rfl, Nat.le_of_ble_eq_true rfl⟩ rfl (Nat.le_of_ble_eq_true rfl) dX5_lives_63 rfl ?_
          obtain ⟨hg_21, h⟩ := gd_of h
          refine zV_idiv (n := 67) C0 dX5_lives_66 hg_21 rfl ?_
          refine zV_iconst (n := 68) (v := (4 : Int32)) C0 dX5_lives_67 rfl rfl ?_
          refine zV_irem (n := 69) C0 dX5_lives_68 (by decide) rfl ?_
          refine zV_ishl (n := 70) C0 dX5_lives_69  rfl ?_
          refine zV_sub [1, 2, 0, 4] rfl ?_
          exact Jk_17 (zshl (1 : Int32) (zrem (x4_6 / r_20) (4 : Int32))) h
        · replace h := if_f hb_22 h
          refine zV_iconst (n := 55) (v := (0 : Int32)) C0 dX5_lives_54 rfl rfl ?_
          refine zV_goto (tgt := 70) C0 dX5_lives_55 rfl ?_
          refine zV_sub [1, 2, 0, 4] rfl ?_
          exact Jk_17 (0 : Int32) h
  · replace h := if_t hb_25 h
    refine zV_bipush (n := 21) (v := (-2 : Int32)) C0 dX5_lives_19 rfl rfl ?_
    exact zretI hR h rfl dX5_lives_21
set_option maxRecDepth 20000 in
theorem mX5_findRests_0 : Cond.fieldLink RX5 214 "LeggedThroughModel" "restMany" "I" ∈ wsX5_findRests := by decide +kernel
set_option maxRecDepth 20000 in
theorem mX5_findRests_1 : Cond.fieldLink RX5 217 "LeggedThroughModel" "restFirst" "I" ∈ wsX5_findRests := by decide +kernel
set_option maxRecDepth 20000 in
theorem hinX5_findRests_X5 : ∀ w ∈ u_ws RX5 TX5 37, w ∈ wsX5_findRests := fun w h => List.mem_cons_of_mem _ (List.mem_append_right _ h)
set_option maxRecDepth 20000 in
set_option maxHeartbeats 4000000 in
theorem k_X5_findRests {l : Launch} {D : va_G} {cI cZ : ClassId} {q : Nat} {ad : Nat → Nat} (a1 : Int32) (a2 : Int32)  (S : zS) (r : zS) (h : f_X5_findRests a1 a2 S = some r) : zU l yX5_findRests wsX5_findRests (zRm 1 22) D (zty cI cZ) zNw (wM cI cZ q ad) [.ref q, .int a1, .int a2] S r := by
  refine zU_of (cc := cX5_findRests) (maxL := 7)  (by decide +kernel) rfl (Nat.le_of_ble_eq_true rfl) zNw_ok (fun E hE1 hE2 C0 hR => ?_)
  subst hE1; subst hE2
  replace C0 : zCx E (zRm 1 22) cX5_findRests 7 RX5 wsX5_findRests (zty cI cZ) zNw := C0
  show zV E (wM cI cZ q ad) 7 S 0 [(0, .ref q), (1, .int a1), (2, .int a2)] []
  delta f_X5_findRests at h
  refine zV_aload_n (n := 1) C0 0 dX5_findRests_0 rfl rfl ?_
  refine zV_iconst (n := 2) (v := (0 : Int32)) C0 dX5_findRests_1 rfl rfl ?_
  refine zV_put (n := 5) (ref := RX5) C0 hinX5_findRests_X5 0 rfl rfl 31 (Nat.le_of_ble_eq_true rfl) mX5_findRests_0 rfl tyX5 tyX5_ok nmX5 rfl (tyX5_ok 31 (Nat.le_of_ble_eq_true rfl)) rfl rfl (Nat.le_of_ble_eq_true rfl) (upd S.1 31 (0 : Int32), S.2) (wM_f31 cI cZ q ad S (0 : Int32)) dX5_findRests_2 rfl ?_
  refine zV_topS (fun S_1 eS_1 => ?_)
  replace h := zlet_of eS_1 h
  clear eS_1
  refine zV_aload_n (n := 6) C0 0 dX5_findRests_5 rfl rfl ?_
  refine zV_bipush (n := 8) (v := (-9 : Int32)) C0 dX5_findRests_6 rfl rfl ?_
  refine zV_put (n := 11) (ref := RX5) C0 hinX5_findRests_X5 0 rfl rfl 32 (Nat.le_of_ble_eq_true rfl) mX5_findRests_1 rfl tyX5 tyX5_ok nmX5 rfl (tyX5_ok 32 (Nat.le_of_ble_eq_true rfl)) rfl rfl (Nat.le_of_ble_eq_true rfl) (upd S_1.1 32 (-9 : Int32), S_1.2) (wM_f32 cI cZ q ad S_1 (-9 : Int32)) dX5_findRests_8 rfl ?_
  refine zV_topS (fun S_2 eS_2 => ?_)
  replace h := zlet_of eS_2 h
  clear eS_2
  refine zV_iconst (n := 12) (v := (0 : Int32)) C0 dX5_findRests_11 rfl rfl ?_
  refine zV_istore_n (n := 13) C0 [(3, .int (0 : Int32)), (0, .ref q), (1, .int a1), (2, .int a2)] dX5_findRests_12 rfl rfl (Nat.le_of_ble_eq_true rfl) rfl ?_
  refine zV_sub [1, 2, 3, 0] rfl ?_
  refine zfix_ind (fun e => zV E (wM cI cZ q ad) 7 e.2 13 [(0, .ref q), (1, .int a1), (2, .int a2), (3, .int e.1)] []) (fun rec_5 hrec_5 e h => ?_) zN ((0 : Int32), S_2) h
  obtain ⟨x3_3, S_4⟩ := e
  have Jrec_5 : ∀ (x3_3 : Int32) (S_4 : zS), rec_5 (x3_3, S_4) = some r → zV E (wM cI cZ q ad) 7 S_4 13 [(0, .ref q), (1, .int a1), (2, .int a2), (3, .int x3_3)] [] := fun x3_3 S_4 h => hrec_5 _ h
  clear hrec_5
  dsimp only [F_X5_findRests_13] at h
  show zV E (wM cI cZ q ad) 7 S_4 13 [(0, .ref q), (1, .int a1), (2, .int a2), (3, .int x3_3)] []
  refine zV_iload_n (n := 14) C0 3 dX5_findRests_13 rfl rfl ?_
  refine zV_iconst (n := 15) (v := (4 : Int32)) C0 dX5_findRests_14 rfl rfl ?_
  refine zV_icmp_ge (tgt := 153) (n := 18) C0 dX5_findRests_15 rfl rfl (fun hb_38 => ?_) (fun hb_38 => ?_)
  · replace h := if_t hb_38 h
    exact zretU hR h dX5_findRests_153
  · replace h := if_f hb_38 h
    refine zV_iconst (n := 19) (v := (0 : Int32)) C0 dX5_findRests_18 rfl rfl ?_
    refine zV_istore (n := 21) C0 [(4, .int (0 : Int32)), (0, .ref q), (1, .int a1), (2, .int a2), (3, .int x3_3)] dX5_findRests_19 rfl (Nat.le_of_ble_eq_true rfl) rfl ?_
    refine zV_sub [1, 2, 3, 4, 0] rfl ?_
    refine zfix_ind (fun e => zV E (wM cI cZ q ad) 7 e.2 21 [(0, .ref q), (1, .int a1), (2, .int a2), (3, .int x3_3), (4, .int e.1)] []) (fun rec_8 hrec_8 e h => ?_) zN ((0 : Int32), S_4) h
    obtain ⟨x4_6, S_7⟩ := e
    have Jrec_8 : ∀ (x4_6 : Int32) (S_7 : zS), rec_8 (x4_6, S_7) = some r → zV E (wM cI cZ q ad) 7 S_7 21 [(0, .ref q), (1, .int a1), (2, .int a2), (3, .int x3_3), (4, .int x4_6)] [] := fun x4_6 S_7 h => hrec_8 _ h
    clear hrec_8
    dsimp only [F_X5_findRests_21] at h
    show zV E (wM cI cZ q ad) 7 S_7 21 [(0, .ref q), (1, .int a1), (2, .int a2), (3, .int x3_3), (4, .int x4_6)] []
    refine zV_iload (n := 23) C0 4 dX5_findRests_21 rfl rfl ?_
    refine zV_iconst (n := 24) (v := (4 : Int32)) C0 dX5_findRests_23 rfl rfl ?_
    refine zV_icmp_ge (tgt := 147) (n := 27) C0 dX5_findRests_24 rfl rfl (fun hb_37 => ?_) (fun hb_37 => ?_)
    · replace h := if_t hb_37 h
      refine zV_iinc (n := 150) C0 3 (v := (x3_3 + (1 : Int32))) [(3, .int (x3_3 + (1 : Int32))), (0, .ref q), (1, .int a1), (2, .int a2), (4, .int x4_6)] dX5_findRests_147 rfl rfl rfl (Nat.le_of_ble_eq_true rfl) rfl ?_
      refine zV_goto (tgt := 13) C0 dX5_findRests_150 rfl ?_
      refine zV_sub [1, 2, 3, 0] rfl ?_
      exact Jrec_5 (x3_3 + (1 : Int32)) S_7 h
    · replace h := if_f hb_37 h
      refine zV_iconst (n := 28) (v := (1 : Int32)) C0 dX5_findRests_27 rfl rfl ?_
      refine zV_istore (n := 30) C0 [(5, .int (1 : Int32)), (0, .ref q), (1, .int a1), (2, .int a2), (3, .int x3_3), (4, .int x4_6)] dX5_findRests_28 rfl (Nat.le_of_ble_eq_true rfl) rfl ?_
      refine zV_iconst (n := 31) (v := (0 : Int32)) C0 dX5_findRests_30 rfl rfl ?_
      refine zV_istore (n := 33) C0 [(6, .int (0 : Int32)), (5, .int (1 : Int32)), (0, .ref q), (1, .int a1), (2, .int a2), (3, .int x3_3), (4, .int x4_6)] dX5_findRests_31 rfl (Nat.le_of_ble_eq_true rfl) rfl ?_
      refine zV_sub [2, 3, 4, 5, 6, 1, 0] rfl ?_
      refine zfix_ind (fun e => zV E (wM cI cZ q ad) 7 S_7 33 [(0, .ref q), (1, .int a1), (2, .int a2), (3, .int x3_3), (4, .int x4_6), (5, .int e.1), (6, .int e.2)] []) (fun rec_11 hrec_11 e h => ?_) zN ((1 : Int32), (0 : Int32)) h
      obtain ⟨x5_9, x6_10⟩ := e
      have Jrec_11 : ∀ (x5_9 : Int32) (x6_10 : Int32), rec_11 (x5_9, x6_10) = some r → zV E (wM cI cZ q ad) 7 S_7 33 [(0, .ref q), (1, .int a1), (2, .int a2), (3, .int x3_3), (4, .int x4_6), (5, .int x5_9), (6, .int x6_10)] [] := fun x5_9 x6_10 h => hrec_11 _ h
      clear hrec_11
      dsimp only [F_X5_findRests_33] at h
      show zV E (wM cI cZ q ad) 7 S_7 33 [(0, .ref q), (1, .int a1), (2, .int a2), (3, .int x3_3), (4, .int x4_6), (5, .int x5_9), (6, .int x6_10)] []
      refine zV_iload (n := 35) C0 6 dX5_findRests_33 rfl rfl ?_
      refine zV_iconst (n := 36) (v := (4 : Int32)) C0 dX5_findRests_35 rfl rfl ?_
      refine zV_icmp_ge (tgt := 92) (n := 39) C0 dX5_findRests_36 rfl rfl (fun hb_36 => ?_) (fun hb_36 => ?_)
      · replace h := if_t hb_36 h
        refine zV_aload_n (n := 93) C0 0 dX5_findRests_92 rfl rfl ?_
        refine zV_iload (n := 95) C0 5 dX5_findRests_93 rfl rfl ?_
        refine zjoin_of h (fun k_13 hk_13 h => ?_)
        have Jk_13 : ∀ (s_12 : Int32), k_13 (s_12) = some r → zV E (wM cI cZ q ad) 7 S_7 119 [(0, .ref q), (1, .int a1), (2, .int a2), (3, .int x3_3), (4, .int x4_6), (5, .int x5_9)] [.int s_12, .ref q] := by
          intro s_12 h
          replace h := hk_13 _ h
          refine zV_put (n := 122) (ref := RX5) C0 hinX5_findRests_X5 0 rfl rfl 32 (Nat.le_of_ble_eq_true rfl) mX5_findRests_1 rfl tyX5 tyX5_ok nmX5 rfl (tyX5_ok 32 (Nat.le_of_ble_eq_true rfl)) rfl rfl (Nat.le_of_ble_eq_true rfl) (upd S_7.1 32 s_12, S_7.2) (wM_f32 cI cZ q ad S_7 s_12) dX5_findRests_119 rfl ?_
          refine zV_topS (fun S_14 eS_14 => ?_)
          replace h := zlet_of eS_14 h
          clear eS_14
          refine zV_aload_n (n := 123) C0 0 dX5_findRests_122 rfl rfl ?_
          refine zV_dup (n := 124) C0 dX5_findRests_123 rfl rfl ?_
          refine zV_get (n := 127) (ref := RX5) C0 hinX5_findRests_X5 0 rfl rfl 31 (Nat.le_of_ble_eq_true rfl) mX5_findRests_0 rfl rfl dX5_findRests_124 rfl ?_
          refine zV_iload (n := 129) C0 5 dX5_findRests_127 rfl rfl ?_
          refine zjoin_of h (fun k_16 hk_16 h => ?_)
          have Jk_16 : ∀ (s_15 : Int32), k_16 (s_15) = some r → zV E (wM cI cZ q ad) 7 S_14 137 [(0, .ref q), (1, .int a1), (2, .int a2), (3, .int x3_3), (4, .int x4_6)] [.int s_15, .int (S_14.1 31), .ref q] := by
            intro s_15 h
            replace h := hk_16 _ h
            refine zV_iadd (n := 138) C0 dX5_findRests_137  rfl ?_
            refine zV_put (n := 141) (ref := RX5) C0 hinX5_findRests_X5 0 rfl rfl 31 (Nat.le_of_ble_eq_true rfl) mX5_findRests_0 rfl tyX5 tyX5_ok nmX5 rfl (tyX5_ok 31 (Nat.le_of_ble_eq_true rfl)) rfl rfl (Nat.le_of_ble_eq_true rfl) (upd S_14.1 31 ((S_14.1 31) + s_15), S_14.2) (wM_f31 cI cZ q ad S_14 ((S_14.1 31) + s_15)) dX5_findRests_138 rfl ?_
            refine zV_topS (fun S_17 eS_17 => ?_)
            replace h := zlet_of eS_17 h
            clear eS_17
            refine zV_iinc (n := 144) C0 4 (v := (x4_6 + (1 : Int32))) [(4, .int (x4_6 + (1 : Int32))), (0, .ref q), (1, .int a1), (2, .int a2), (3, .int x3_3)] dX5_findRests_141 rfl rfl rfl (Nat.le_of_ble_eq_true rfl) rfl ?_
            refine zV_goto (tgt := 21) C0 dX5_findRests_144 rfl ?_
            refine zV_sub [1, 2, 3, 4, 0] rfl ?_
            exact Jrec_8 (x4_6 + (1 : Int32)) S_17 h
          clear hk_16
          refine zV_if_eq (tgt := 136) (n := 132) C0 dX5_findRests_129 rfl rfl (fun hb_18 => ?_) (fun hb_18 => ?_)
          · replace h := if_t hb_18 h
            refine zV_iconst (n := 137) (v := (0 : Int32)) C0 dX5_findRests_136 rfl rfl ?_
            refine zV_sub [0, 1, 2, 3, 4] rfl ?_
            exact Jk_16 (0 : Int32) h
          · replace h := if_f hb_18 h
            refine zV_iconst (n := 133) (v := (1 : Int32)) C0 dX5_findRests_132 rfl rfl ?_
            refine zV_goto (tgt := 137) C0 dX5_findRests_133 rfl ?_
            refine zV_sub [0, 1, 2, 3, 4] rfl ?_
            exact Jk_16 (1 : Int32) h
        clear hk_13
        refine zjoin_of h (fun k_19 hk_19 h => ?_)
        have Jk_19 : k_19 () = some r → zV E (wM cI cZ q ad) 7 S_7 115 [(0, .ref q), (1, .int a1), (2, .int a2), (3, .int x3_3), (4, .int x4_6), (5, .int x5_9)] [.ref q] := by
          intro  h
          replace h := hk_19 _ h
          refine zV_aload_n (n := 116) C0 0 dX5_findRests_115 rfl rfl ?_
          refine zV_get (n := 119) (ref := RX5) C0 hinX5_findRests_X5 0 rfl rfl 32 (Nat.le_of_ble_eq_true rfl) mX5_findRests_1 rfl rfl dX5_findRests_116 rfl ?_
          exact Jk_13 (S_7.1 32) h
        clear hk_19
        refine zV_if_eq (tgt := 115) (n := 98) C0 dX5_findRests_95 rfl rfl (fun hb_21 => ?_) (fun hb_21 => ?_)
        · replace h := if_t hb_21 h
          refine zV_sub [0, 1, 2, 3, 4, 5] rfl ?_
          exact Jk_19  h
        · replace h := if_f hb_21 h
          refine zV_aload_n (n := 99) C0 0 dX5_findRests_98 rfl rfl ?_
          refine zV_get (n := 102) (ref := RX5) C0 hinX5_findRests_X5 0 rfl rfl 31 (Nat.le_of_ble_eq_true rfl) mX5_findRests_0 rfl rfl dX5_findRests_99 rfl ?_
          refine zV_if_ne (tgt := 115) (n := 105) C0 dX5_findRests_102 rfl rfl (fun hb_20 => ?_) (fun hb_20 => ?_)
          · replace h := if_f hb_20 h
            refine zV_sub [0, 1, 2, 3, 4, 5] rfl ?_
            exact Jk_19  h
          · replace h := if_t hb_20 h
            refine zV_bipush (n := 107) (v := (10 : Int32)) C0 dX5_findRests_105 rfl rfl ?_
            refine zV_iload_n (n := 108) C0 3 dX5_findRests_107 rfl rfl ?_
            refine zV_imul (n := 109) C0 dX5_findRests_108  rfl ?_
            refine zV_iload (n := 111) C0 4 dX5_findRests_109 rfl rfl ?_
            refine zV_iadd (n := 112) C0 dX5_findRests_111  rfl ?_
            refine zV_goto (tgt := 119) C0 dX5_findRests_112 rfl ?_
            refine zV_sub [0, 1, 2, 3, 4, 5] rfl ?_
            exact Jk_13 (((10 : Int32) * x3_3) + x4_6) h
      · replace h := if_f hb_36 h
        refine zV_iload (n := 41) C0 5 dX5_findRests_39 rfl rfl ?_
        refine zjoin_of h (fun k_23 hk_23 h => ?_)
        have Jk_23 : ∀ (s_22 : Int32), k_23 (s_22) = some r → zV E (wM cI cZ q ad) 7 S_7 84 [(0, .ref q), (1, .int a1), (2, .int a2), (3, .int x3_3), (4, .int x4_6), (6, .int x6_10)] [.int s_22] := by
          intro s_22 h
          replace h := hk_23 _ h
          refine zV_istore (n := 86) C0 [(5, .int s_22), (0, .ref q), (1, .int a1), (2, .int a2), (3, .int x3_3), (4, .int x4_6), (6, .int x6_10)] dX5_findRests_84 rfl (Nat.le_of_ble_eq_true rfl) rfl ?_
          refine zV_iinc (n := 89) C0 6 (v := (x6_10 + (1 : Int32))) [(6, .int (x6_10 + (1 : Int32))), (5, .int s_22), (0, .ref q), (1, .int a1), (2, .int a2), (3, .int x3_3), (4, .int x4_6)] dX5_findRests_86 rfl rfl rfl (Nat.le_of_ble_eq_true rfl) rfl ?_
          refine zV_goto (tgt := 33) C0 dX5_findRests_89 rfl ?_
          refine zV_sub [2, 3, 4, 5, 6, 1, 0] rfl ?_
          exact Jrec_11 s_22 (x6_10 + (1 : Int32)) h
        clear hk_23
        refine zjoin_of h (fun k_24 hk_24 h => ?_)
        have Jk_24 : k_24 () = some r → zV E (wM cI cZ q ad) 7 S_7 83 [(0, .ref q), (1, .int a1), (2, .int a2), (3, .int x3_3), (4, .int x4_6), (6, .int x6_10)] [] := by
          intro  h
          replace h := hk_24 _ h
          refine zV_iconst (n := 84) (v := (0 : Int32)) C0 dX5_findRests_83 rfl rfl ?_
          exact Jk_23 (0 : Int32) h
        clear hk_24
        refine zV_if_eq (tgt := 83) (n := 44) C0 dX5_findRests_41 rfl rfl (fun hb_35 => ?_) (fun hb_35 => ?_)
        · replace h := if_t hb_35 h
          refine zV_sub [0, 1, 2, 3, 4, 6] rfl ?_
          exact Jk_24  h
        · replace h := if_f hb_35 h
          refine zV_iload (n := 46) C0 6 dX5_findRests_44 rfl rfl ?_
          refine zV_iload (n := 48) C0 4 dX5_findRests_46 rfl rfl ?_
          refine zV_iload_n (n := 49) C0 1 dX5_findRests_48 rfl rfl ?_
          obtain ⟨r_26, hc_25, h⟩ := ob_of h
          refine zV_callS0 (n := 52) (st := []) (As := [.int x6_10, .int x4_6, .int a1]) C0 (k_X5_loss x6_10 x4_6 a1 _ hc_25) gX5_findRests_X5_loss rfl (hd_X5_loss) rfl ⟨rfl, rfl⟩ ⟨Nat.le_of_ble_eq_true rfl, Nat.le_of_ble_eq_true rfl⟩ rfl (Nat.le_of_ble_eq_true rfl) dX5_findRests_49 rfl ?_
          refine zV_iload_n (n := 53) C0 3 dX5_findRests_52 rfl rfl ?_
          refine zV_iload (n := 55) C0 4 dX5_findRests_53 rfl rfl ?_
          refine zV_iload_n (n := 56) C0 1 dX5_findRests_55 rfl rfl ?_
          obtain ⟨r_28, hc_27, h⟩ := ob_of h
          refine zV_callS0 (n := 59) (st := [.int r_26]) (As := [.int x3_3, .int x4_6, .int a1]) C0 (k_X5_loss x3_3 x4_6 a1 _ hc_27) gX5_findRests_X5_loss rfl (hd_X5_loss) rfl ⟨rfl, rfl⟩ ⟨Nat.le_of_ble_eq_true rfl, Nat.le_of_ble_eq_true rfl⟩ rfl (Nat.le_of_ble_eq_true rfl) dX5_findRests_56 rfl ?_
          refine zV_icmp_lt (tgt := 83) (n := 62) C0 dX5_findRests_59 rfl rfl (fun hb_34 => ?_) (fun hb_34 => ?_)
          · replace h := if_t hb_34 h
            refine zV_sub [0, 1, 2, 3, 4, 6] rfl ?_
            exact Jk_24  h
          · replace h := if_f hb_34 h
            refine zV_iload (n := 64) C0 6 dX5_findRests_62 rfl rfl ?_
            refine zV_iload_n (n := 65) C0 3 dX5_findRests_64 rfl rfl ?_
            refine zV_iload_n (n := 66) C0 2 dX5_findRests_65 rfl rfl ?_
            obtain ⟨r_30, hc_29, h⟩ := ob_of h
            refine zV_callS0 (n := 69) (st := []) (As := [.int x6_10, .int x3_3, .int a2]) C0 (k_X5_loss x6_10 x3_3 a2 _ hc_29) gX5_findRests_X5_loss rfl (hd_X5_loss) rfl ⟨rfl, rfl⟩ ⟨Nat.le_of_ble_eq_true rfl, Nat.le_of_ble_eq_true rfl⟩ rfl (Nat.le_of_ble_eq_true rfl) dX5_findRests_66 rfl ?_
            refine zV_iload (n := 71) C0 4 dX5_findRests_69 rfl rfl ?_
            refine zV_iload_n (n := 72) C0 3 dX5_findRests_71 rfl rfl ?_
            refine zV_iload_n (n := 73) C0 2 dX5_findRests_72 rfl rfl ?_
            obtain ⟨r_32, hc_31, h⟩ := ob_of h
            refine zV_callS0 (n := 76) (st := [.int r_30]) (As := [.int x4_6, .int x3_3, .int a2]) C0 (k_X5_loss x4_6 x3_3 a2 _ hc_31) gX5_findRests_X5_loss rfl (hd_X5_loss) rfl ⟨rfl, rfl⟩ ⟨Nat.le_of_ble_eq_true rfl, Nat.le_of_ble_eq_true rfl⟩ rfl (Nat.le_of_ble_eq_true rfl) dX5_findRests_73 rfl ?_
            refine zV_icmp_lt (tgt := 83) (n := 79) C0 dX5_findRests_76 rfl rfl (fun hb_33 => ?_) (fun hb_33 => ?_)
            · replace h := if_t hb_33 h
              refine zV_sub [0, 1, 2, 3, 4, 6] rfl ?_
              exact Jk_24  h
            · replace h := if_f hb_33 h
              refine zV_iconst (n := 80) (v := (1 : Int32)) C0 dX5_findRests_79 rfl rfl ?_
              refine zV_goto (tgt := 84) C0 dX5_findRests_80 rfl ?_
              refine zV_sub [0, 1, 2, 3, 4, 6] rfl ?_
              exact Jk_23 (1 : Int32) h
set_option maxRecDepth 20000 in
theorem mX5_rests_0 : Cond.fieldLink RX5 63 "LeggedThroughModel" "thrown" "I" ∈ wsX5_rests := by decide +kernel
set_option maxRecDepth 20000 in
theorem mX5_rests_1 : Cond.fieldLink RX5 20 "LeggedThroughModel" "load" "[I" ∈ wsX5_rests := by decide +kernel
set_option maxRecDepth 20000 in
theorem mX5_rests_2 : Cond.fieldLink RX5 217 "LeggedThroughModel" "restFirst" "I" ∈ wsX5_rests := by decide +kernel
set_option maxRecDepth 20000 in
theorem mX5_rests_3 : Cond.fieldLink RX5 214 "LeggedThroughModel" "restMany" "I" ∈ wsX5_rests := by decide +kernel
set_option maxRecDepth 20000 in
theorem hinX5_rests_X5 : ∀ w ∈ u_ws RX5 TX5 37, w ∈ wsX5_rests := fun w h => List.mem_cons_of_mem _ (List.mem_append_right _ h)
set_option maxRecDepth 20000 in
set_option maxHeartbeats 4000000 in
theorem k_X5_rests {l : Launch} {D : va_G} {cI cZ : ClassId} {q : Nat} {ad : Nat → Nat} (a1 : Int32) (a2 : Int32) (a3 : Int32)  (S : zS) (r : Int32 × zS) (h : f_X5_rests a1 a2 a3 S = some r) : zI l yX5_rests wsX5_rests (zRm 2 48) D (zty cI cZ) zNw (wM cI cZ q ad) [.ref q, .int a1, .int a2, .int a3] S r := by
  refine zI_of (cc := cX5_rests) (maxL := 4) (ty := .int) (by decide +kernel) rfl (Nat.le_of_ble_eq_true rfl) zNw_ok (fun E hE1 hE2 C0 hR => ?_)
  subst hE1; subst hE2
  replace C0 : zCx E (zRm 2 48) cX5_rests 4 RX5 wsX5_rests (zty cI cZ) zNw := C0
  show zV E (wM cI cZ q ad) 4 S 0 [(0, .ref q), (1, .int a1), (2, .int a2), (3, .int a3)] []
  delta f_X5_rests at h
  refine zV_aload_n (n := 1) C0 0 dX5_rests_0 rfl rfl ?_
  refine zV_iconst (n := 2) (v := (0 : Int32)) C0 dX5_rests_1 rfl rfl ?_
  refine zV_put (n := 5) (ref := RX5) C0 hinX5_rests_X5 0 rfl rfl 0 (Nat.le_of_ble_eq_true rfl) mX5_rests_0 rfl tyX5 tyX5_ok nmX5 rfl (tyX5_ok 0 (Nat.le_of_ble_eq_true rfl)) rfl rfl (Nat.le_of_ble_eq_true rfl) (upd S.1 0 (0 : Int32), S.2) (wM_f0 cI cZ q ad S (0 : Int32)) dX5_rests_2 rfl ?_
  refine zV_topS (fun S_1 eS_1 => ?_)
  replace h := zlet_of eS_1 h
  clear eS_1
  refine zV_aload_n (n := 6) C0 0 dX5_rests_5 rfl rfl ?_
  refine zV_iload_n (n := 7) C0 1 dX5_rests_6 rfl rfl ?_
  obtain ⟨r_3, hc_2, h⟩ := ob_of h
  refine zV_callVI (n := 10) (st := []) (As := [.int a1]) C0 (k_X5_noBoat a1 S_1 _ hc_2) gX5_rests_X5_noBoat rfl (hd_X5_noBoat) rfl ⟨rfl, rfl⟩ ⟨Nat.le_of_ble_eq_true rfl, Nat.le_of_ble_eq_true rfl⟩ 0 rfl rfl rfl (Nat.le_of_ble_eq_true rfl) dX5_rests_7 rfl ?_
  refine zjoin_of h (fun k_4 hk_4 h => ?_)
  have Jk_4 : k_4 () = some r → zV E (wM cI cZ q ad) 4 S_1 21 [] [] := by
    intro  h
    replace h := hk_4 _ h
    refine zV_iconst (n := 22) (v := (-1 : Int32)) C0 dX5_rests_21 rfl rfl ?_
    exact zretI hR h rfl dX5_rests_22
  clear hk_4
  refine zV_if_ne (tgt := 21) (n := 13) C0 dX5_rests_10 rfl rfl (fun hb_20 => ?_) (fun hb_20 => ?_)
  · replace h := if_f hb_20 h
    refine zV_sub [] rfl ?_
    exact Jk_4  h
  · replace h := if_t hb_20 h
    refine zV_aload_n (n := 14) C0 0 dX5_rests_13 rfl rfl ?_
    refine zV_iload_n (n := 15) C0 2 dX5_rests_14 rfl rfl ?_
    obtain ⟨r_6, hc_5, h⟩ := ob_of h
    refine zV_callVI (n := 18) (st := []) (As := [.int a2]) C0 (k_X5_noBoat a2 S_1 _ hc_5) gX5_rests_X5_noBoat rfl (hd_X5_noBoat) rfl ⟨rfl, rfl⟩ ⟨Nat.le_of_ble_eq_true rfl, Nat.le_of_ble_eq_true rfl⟩ 0 rfl rfl rfl (Nat.le_of_ble_eq_true rfl) dX5_rests_15 rfl ?_
    refine zV_if_eq (tgt := 23) (n := 21) C0 dX5_rests_18 rfl rfl (fun hb_19 => ?_) (fun hb_19 => ?_)
    · replace h := if_t hb_19 h
      refine zV_iload_n (n := 24) C0 1 dX5_rests_23 rfl rfl ?_
      refine zV_iload_n (n := 25) C0 2 dX5_rests_24 rfl rfl ?_
      refine zjoin_of h (fun k_7 hk_7 h => ?_)
      have Jk_7 : k_7 () = some r → zV E (wM cI cZ q ad) 4 S_1 38 [] [] := by
        intro  h
        replace h := hk_7 _ h
        refine zV_bipush (n := 40) (v := (-2 : Int32)) C0 dX5_rests_38 rfl rfl ?_
        exact zretI hR h rfl dX5_rests_40
      clear hk_7
      refine zV_icmp_eq (tgt := 38) (n := 28) C0 dX5_rests_25 rfl rfl (fun hb_18 => ?_) (fun hb_18 => ?_)
      · replace h := if_t hb_18 h
        refine zV_sub [] rfl ?_
        exact Jk_7  h
      · replace h := if_f hb_18 h
        refine zV_iload_n (n := 29) C0 3 dX5_rests_28 rfl rfl ?_
        refine zV_i2l (n := 30) C0 dX5_rests_29  rfl ?_
        refine zV_lconst (n := 31) (v := (0 : Int64)) C0 dX5_rests_30 rfl rfl ?_
        refine zV_lconst (n := 32) (v := (1 : Int64)) C0 dX5_rests_31 rfl rfl ?_
        obtain ⟨r_9, hc_8, h⟩ := ob_of h
        refine zV_callS0 (n := 35) (st := []) (As := [.long a3.toInt64, .long (0 : Int64), .long (1 : Int64)]) C0 (k_X5_in a3.toInt64 (0 : Int64) (1 : Int64) _ hc_8) gX5_rests_X5_in rfl (hd_X5_in) rfl ⟨rfl, rfl⟩ ⟨Nat.le_of_ble_eq_true rfl, Nat.le_of_ble_eq_true rfl⟩ rfl (Nat.le_of_ble_eq_true rfl) dX5_rests_32 rfl ?_
        refine zV_if_ne (tgt := 41) (n := 38) C0 dX5_rests_35 rfl rfl (fun hb_17 => ?_) (fun hb_17 => ?_)
        · replace h := if_f hb_17 h
          refine zV_aload_n (n := 42) C0 0 dX5_rests_41 rfl rfl ?_
          refine zV_aload_n (n := 43) C0 0 dX5_rests_42 rfl rfl ?_
          refine zV_get (n := 46) (ref := RX5) C0 hinX5_rests_X5 0 rfl rfl 8 (Nat.le_of_ble_eq_true rfl) mX5_rests_1 rfl rfl dX5_rests_43 rfl ?_
          refine zV_iload_n (n := 47) C0 1 dX5_rests_46 rfl rfl ?_
          obtain ⟨hg_10, h⟩ := gd_of h
          refine zV_iald (n := 48) C0 3 0 rfl rfl hg_10 dX5_rests_47 rfl ?_
          refine zV_aload_n (n := 49) C0 0 dX5_rests_48 rfl rfl ?_
          refine zV_get (n := 52) (ref := RX5) C0 hinX5_rests_X5 0 rfl rfl 8 (Nat.le_of_ble_eq_true rfl) mX5_rests_1 rfl rfl dX5_rests_49 rfl ?_
          refine zV_iload_n (n := 53) C0 2 dX5_rests_52 rfl rfl ?_
          obtain ⟨hg_11, h⟩ := gd_of h
          refine zV_iald (n := 54) C0 3 0 rfl rfl hg_11 dX5_rests_53 rfl ?_
          obtain ⟨S_13, hc_12, h⟩ := ob_of h
          refine zV_callVU (n := 57) (st := []) (As := [.int (S_1.2.2 8 (a1).toNatClampNeg), .int (S_1.2.2 8 (a2).toNatClampNeg)]) C0 (k_X5_findRests (S_1.2.2 8 (a1).toNatClampNeg) (S_1.2.2 8 (a2).toNatClampNeg) S_1 _ hc_12) gX5_rests_X5_findRests rfl (hd_X5_findRests) rfl ⟨rfl, rfl⟩ ⟨Nat.le_of_ble_eq_true rfl, Nat.le_of_ble_eq_true rfl⟩ 0 rfl rfl rfl (Nat.le_of_ble_eq_true rfl) dX5_rests_54 rfl ?_
          refine zV_iload_n (n := 58) C0 3 dX5_rests_57 rfl rfl ?_
          refine zjoin_of h (fun k_15 hk_15 h => ?_)
          have Jk_15 : ∀ (s_14 : Int32), k_15 (s_14) = some r → zV E (wM cI cZ q ad) 4 S_13 72 [] [.int s_14] := by
            intro s_14 h
            replace h := hk_15 _ h
            exact zretI hR h rfl dX5_rests_72
          clear hk_15
          refine zV_if_ne (tgt := 68) (n := 61) C0 dX5_rests_58 rfl rfl (fun hb_16 => ?_) (fun hb_16 => ?_)
          · replace h := if_f hb_16 h
            refine zV_aload_n (n := 69) C0 0 dX5_rests_68 rfl rfl ?_
            refine zV_get (n := 72) (ref := RX5) C0 hinX5_rests_X5 0 rfl rfl 32 (Nat.le_of_ble_eq_true rfl) mX5_rests_2 rfl rfl dX5_rests_69 rfl ?_
            refine zV_sub [] rfl ?_
            exact Jk_15 (S_13.1 32) h
          · replace h := if_t hb_16 h
            refine zV_aload_n (n := 62) C0 0 dX5_rests_61 rfl rfl ?_
            refine zV_get (n := 65) (ref := RX5) C0 hinX5_rests_X5 0 rfl rfl 31 (Nat.le_of_ble_eq_true rfl) mX5_rests_3 rfl rfl dX5_rests_62 rfl ?_
            refine zV_goto (tgt := 72) C0 dX5_rests_65 rfl ?_
            refine zV_sub [] rfl ?_
            exact Jk_15 (S_13.1 31) h
        · replace h := if_t hb_17 h
          refine zV_sub [] rfl ?_
          exact Jk_7  h
    · replace h := if_f hb_19 h
      refine zV_sub [] rfl ?_
      exact Jk_4  h
set_option maxRecDepth 20000 in
theorem mX5_chance_0 : Cond.fieldLink RX5 63 "LeggedThroughModel" "thrown" "I" ∈ wsX5_chance := by decide +kernel
set_option maxRecDepth 20000 in
theorem mX5_chance_1 : Cond.constantLong RX5 226 (60 : Int64) ∈ wsX5_chance := by decide +kernel
set_option maxRecDepth 20000 in
theorem mX5_chance_2 : Cond.constantLong RX5 228 (10 : Int64) ∈ wsX5_chance := by decide +kernel
set_option maxRecDepth 20000 in
theorem mX5_chance_3 : Cond.fieldLink RX5 13 "LeggedThroughModel" "steps" "I" ∈ wsX5_chance := by decide +kernel
set_option maxRecDepth 20000 in
theorem mX5_chance_4 : Cond.fieldLink RX5 29 "LeggedThroughModel" "page" "[I" ∈ wsX5_chance := by decide +kernel
set_option maxRecDepth 20000 in
theorem hinX5_chance_X5 : ∀ w ∈ u_ws RX5 TX5 37, w ∈ wsX5_chance := fun w h => List.mem_cons_of_mem _ (List.mem_append_right _ h)
set_option maxRecDepth 20000 in
set_option maxHeartbeats 4000000 in
theorem k_X5_chance {l : Launch} {D : va_G} {cI cZ : ClassId} {q : Nat} {ad : Nat → Nat} (a1 : Int32) (a2 : Int32) (a3 : Int32) (a4 : Int32)  (S : zS) (r : Int32 × zS) (h : f_X5_chance a1 a2 a3 a4 S = some r) : zI l yX5_chance wsX5_chance (zRm 2 47) D (zty cI cZ) zNw (wM cI cZ q ad) [.ref q, .int a1, .int a2, .int a3, .int a4] S r := by
  refine zI_of (cc := cX5_chance) (maxL := 13) (ty := .int) (by decide +kernel) rfl (Nat.le_of_ble_eq_true rfl) zNw_ok (fun E hE1 hE2 C0 hR => ?_)
  subst hE1; subst hE2
  replace C0 : zCx E (zRm 2 47) cX5_chance 13 RX5 wsX5_chance (zty cI cZ) zNw := C0
  show zV E (wM cI cZ q ad) 13 S 0 [(0, .ref q), (1, .int a1), (2, .int a2), (3, .int a3), (4, .int a4)] []
  delta f_X5_chance at h
  refine zV_aload_n (n := 1) C0 0 dX5_chance_0 rfl rfl ?_
  refine zV_iconst (n := 2) (v := (0 : Int32)) C0 dX5_chance_1 rfl rfl ?_
  refine zV_put (n := 5) (ref := RX5) C0 hinX5_chance_X5 0 rfl rfl 0 (Nat.le_of_ble_eq_true rfl) mX5_chance_0 rfl tyX5 tyX5_ok nmX5 rfl (tyX5_ok 0 (Nat.le_of_ble_eq_true rfl)) rfl rfl (Nat.le_of_ble_eq_true rfl) (upd S.1 0 (0 : Int32), S.2) (wM_f0 cI cZ q ad S (0 : Int32)) dX5_chance_2 rfl ?_
  refine zV_topS (fun S_1 eS_1 => ?_)
  replace h := zlet_of eS_1 h
  clear eS_1
  refine zV_aload_n (n := 6) C0 0 dX5_chance_5 rfl rfl ?_
  refine zV_iload_n (n := 7) C0 1 dX5_chance_6 rfl rfl ?_
  obtain ⟨r_3, hc_2, h⟩ := ob_of h
  refine zV_callVI (n := 10) (st := []) (As := [.int a1]) C0 (k_X5_noLegger a1 S_1 _ hc_2) gX5_chance_X5_noLegger rfl (hd_X5_noLegger) rfl ⟨rfl, rfl⟩ ⟨Nat.le_of_ble_eq_true rfl, Nat.le_of_ble_eq_true rfl⟩ 0 rfl rfl rfl (Nat.le_of_ble_eq_true rfl) dX5_chance_7 rfl ?_
  refine zV_if_eq (tgt := 15) (n := 13) C0 dX5_chance_10 rfl rfl (fun hb_47 => ?_) (fun hb_47 => ?_)
  · replace h := if_t hb_47 h
    refine zV_iload_n (n := 16) C0 2 dX5_chance_15 rfl rfl ?_
    refine zV_i2l (n := 17) C0 dX5_chance_16  rfl ?_
    refine zV_lconst (n := 18) (v := (0 : Int64)) C0 dX5_chance_17 rfl rfl ?_
    refine zV_ldc2 (n := 21) (v := (60 : Int64)) C0 dX5_chance_18 mX5_chance_1 rfl ?_
    obtain ⟨r_5, hc_4, h⟩ := ob_of h
    refine zV_callS0 (n := 24) (st := []) (As := [.long a2.toInt64, .long (0 : Int64), .long (60 : Int64)]) C0 (k_X5_in a2.toInt64 (0 : Int64) (60 : Int64) _ hc_4) gX5_chance_X5_in rfl (hd_X5_in) rfl ⟨rfl, rfl⟩ ⟨Nat.le_of_ble_eq_true rfl, Nat.le_of_ble_eq_true rfl⟩ rfl (Nat.le_of_ble_eq_true rfl) dX5_chance_21 rfl ?_
    refine zjoin_of h (fun k_6 hk_6 h => ?_)
    have Jk_6 : k_6 () = some r → zV E (wM cI cZ q ad) 13 S_1 39 [] [] := by
      intro  h
      replace h := hk_6 _ h
      refine zV_bipush (n := 41) (v := (-2 : Int32)) C0 dX5_chance_39 rfl rfl ?_
      exact zretI hR h rfl dX5_chance_41
    clear hk_6
    refine zV_if_eq (tgt := 39) (n := 27) C0 dX5_chance_24 rfl rfl (fun hb_46 => ?_) (fun hb_46 => ?_)
    · replace h := if_t hb_46 h
      refine zV_sub [] rfl ?_
      exact Jk_6  h
    · replace h := if_f hb_46 h
      refine zV_iload_n (n := 28) C0 3 dX5_chance_27 rfl rfl ?_
      refine zV_i2l (n := 29) C0 dX5_chance_28  rfl ?_
      refine zV_lconst (n := 30) (v := (0 : Int64)) C0 dX5_chance_29 rfl rfl ?_
      refine zV_ldc2 (n := 33) (v := (10 : Int64)) C0 dX5_chance_30 mX5_chance_2 rfl ?_
      obtain ⟨r_8, hc_7, h⟩ := ob_of h
      refine zV_callS0 (n := 36) (st := []) (As := [.long a3.toInt64, .long (0 : Int64), .long (10 : Int64)]) C0 (k_X5_in a3.toInt64 (0 : Int64) (10 : Int64) _ hc_7) gX5_chance_X5_in rfl (hd_X5_in) rfl ⟨rfl, rfl⟩ ⟨Nat.le_of_ble_eq_true rfl, Nat.le_of_ble_eq_true rfl⟩ rfl (Nat.le_of_ble_eq_true rfl) dX5_chance_33 rfl ?_
      refine zV_if_ne (tgt := 42) (n := 39) C0 dX5_chance_36 rfl rfl (fun hb_45 => ?_) (fun hb_45 => ?_)
      · replace h := if_f hb_45 h
        refine zV_iconst (n := 43) (v := (0 : Int32)) C0 dX5_chance_42 rfl rfl ?_
        refine zV_istore (n := 45) C0 [(5, .int (0 : Int32)), (0, .ref q), (1, .int a1), (2, .int a2), (3, .int a3), (4, .int a4)] dX5_chance_43 rfl (Nat.le_of_ble_eq_true rfl) rfl ?_
        refine zV_iconst (n := 46) (v := (0 : Int32)) C0 dX5_chance_45 rfl rfl ?_
        refine zV_istore (n := 48) C0 [(6, .int (0 : Int32)), (5, .int (0 : Int32)), (0, .ref q), (1, .int a1), (2, .int a2), (3, .int a3), (4, .int a4)] dX5_chance_46 rfl (Nat.le_of_ble_eq_true rfl) rfl ?_
        refine zV_sub [2, 3, 4, 5, 6, 1, 0] rfl ?_
        refine zfix_ind (fun e => zV E (wM cI cZ q ad) 13 S_1 48 [(0, .ref q), (1, .int a1), (2, .int a2), (3, .int a3), (4, .int a4), (5, .int e.1), (6, .int e.2)] []) (fun rec_11 hrec_11 e h => ?_) zN ((0 : Int32), (0 : Int32)) h
        obtain ⟨x5_9, x6_10⟩ := e
        have Jrec_11 : ∀ (x5_9 : Int32) (x6_10 : Int32), rec_11 (x5_9, x6_10) = some r → zV E (wM cI cZ q ad) 13 S_1 48 [(0, .ref q), (1, .int a1), (2, .int a2), (3, .int a3), (4, .int a4), (5, .int x5_9), (6, .int x6_10)] [] := fun x5_9 x6_10 h => hrec_11 _ h
        clear hrec_11
        dsimp only [F_X5_chance_48] at h
        show zV E (wM cI cZ q ad) 13 S_1 48 [(0, .ref q), (1, .int a1), (2, .int a2), (3, .int a3), (4, .int a4), (5, .int x5_9), (6, .int x6_10)] []
        refine zV_iload (n := 50) C0 6 dX5_chance_48 rfl rfl ?_
        refine zV_iconst (n := 51) (v := (1 : Int32)) C0 dX5_chance_50 rfl rfl ?_
        refine zV_aload_n (n := 52) C0 0 dX5_chance_51 rfl rfl ?_
        refine zV_get (n := 55) (ref := RX5) C0 hinX5_chance_X5 0 rfl rfl 4 (Nat.le_of_ble_eq_true rfl) mX5_chance_3 rfl rfl dX5_chance_52 rfl ?_
        refine zV_ishl (n := 56) C0 dX5_chance_55  rfl ?_
        refine zV_icmp_ge (tgt := 207) (n := 59) C0 dX5_chance_56 rfl rfl (fun hb_44 => ?_) (fun hb_44 => ?_)
        · replace h := if_t hb_44 h
          refine zV_iload (n := 209) C0 5 dX5_chance_207 rfl rfl ?_
          refine zV_bipush (n := 211) (v := (10 : Int32)) C0 dX5_chance_209 rfl rfl ?_
          refine zV_aload_n (n := 212) C0 0 dX5_chance_211 rfl rfl ?_
          refine zV_get (n := 215) (ref := RX5) C0 hinX5_chance_X5 0 rfl rfl 4 (Nat.le_of_ble_eq_true rfl) mX5_chance_3 rfl rfl dX5_chance_212 rfl ?_
          obtain ⟨r_13, hc_12, h⟩ := ob_of h
          refine zV_callS0 (n := 218) (st := [.int x5_9]) (As := [.int (10 : Int32), .int (S_1.1 4)]) C0 (k_X5_power (10 : Int32) (S_1.1 4) _ hc_12) gX5_chance_X5_power rfl (hd_X5_power) rfl ⟨rfl, rfl⟩ ⟨Nat.le_of_ble_eq_true rfl, Nat.le_of_ble_eq_true rfl⟩ rfl (Nat.le_of_ble_eq_true rfl) dX5_chance_215 rfl ?_
          refine zV_iload (n := 220) C0 4 dX5_chance_218 rfl rfl ?_
          obtain ⟨r_15, hc_14, h⟩ := ob_of h
          refine zV_callS0 (n := 223) (st := []) (As := [.int x5_9, .int r_13, .int a4]) C0 (k_X5_fraction x5_9 r_13 a4 _ hc_14) gX5_chance_X5_fraction rfl (hd_X5_fraction) rfl ⟨rfl, rfl⟩ ⟨Nat.le_of_ble_eq_true rfl, Nat.le_of_ble_eq_true rfl⟩ rfl (Nat.le_of_ble_eq_true rfl) dX5_chance_220 rfl ?_
          exact zretI hR h rfl dX5_chance_223
        · replace h := if_f hb_44 h
          refine zV_iconst (n := 60) (v := (0 : Int32)) C0 dX5_chance_59 rfl rfl ?_
          refine zV_istore (n := 62) C0 [(7, .int (0 : Int32)), (0, .ref q), (1, .int a1), (2, .int a2), (3, .int a3), (4, .int a4), (5, .int x5_9), (6, .int x6_10)] dX5_chance_60 rfl (Nat.le_of_ble_eq_true rfl) rfl ?_
          refine zV_iconst (n := 63) (v := (0 : Int32)) C0 dX5_chance_62 rfl rfl ?_
          refine zV_istore (n := 65) C0 [(8, .int (0 : Int32)), (7, .int (0 : Int32)), (0, .ref q), (1, .int a1), (2, .int a2), (3, .int a3), (4, .int a4), (5, .int x5_9), (6, .int x6_10)] dX5_chance_63 rfl (Nat.le_of_ble_eq_true rfl) rfl ?_
          refine zV_iconst (n := 66) (v := (1 : Int32)) C0 dX5_chance_65 rfl rfl ?_
          refine zV_istore (n := 68) C0 [(9, .int (1 : Int32)), (8, .int (0 : Int32)), (7, .int (0 : Int32)), (0, .ref q), (1, .int a1), (2, .int a2), (3, .int a3), (4, .int a4), (5, .int x5_9), (6, .int x6_10)] dX5_chance_66 rfl (Nat.le_of_ble_eq_true rfl) rfl ?_
          refine zV_iconst (n := 69) (v := (0 : Int32)) C0 dX5_chance_68 rfl rfl ?_
          refine zV_istore (n := 71) C0 [(10, .int (0 : Int32)), (9, .int (1 : Int32)), (8, .int (0 : Int32)), (7, .int (0 : Int32)), (0, .ref q), (1, .int a1), (2, .int a2), (3, .int a3), (4, .int a4), (5, .int x5_9), (6, .int x6_10)] dX5_chance_69 rfl (Nat.le_of_ble_eq_true rfl) rfl ?_
          refine zV_sub [4, 5, 6, 7, 8, 9, 10, 3, 2, 1, 0] rfl ?_
          refine zfix_ind (fun e => zV E (wM cI cZ q ad) 13 S_1 71 [(0, .ref q), (1, .int a1), (2, .int a2), (3, .int a3), (4, .int a4), (5, .int x5_9), (6, .int x6_10), (7, .int e.1), (8, .int e.2.1), (9, .int e.2.2.1), (10, .int e.2.2.2)] []) (fun rec_20 hrec_20 e h => ?_) zN ((0 : Int32), (0 : Int32), (1 : Int32), (0 : Int32)) h
          obtain ⟨x7_16, x8_17, x9_18, x10_19⟩ := e
          have Jrec_20 : ∀ (x7_16 : Int32) (x8_17 : Int32) (x9_18 : Int32) (x10_19 : Int32), rec_20 (x7_16, x8_17, x9_18, x10_19) = some r → zV E (wM cI cZ q ad) 13 S_1 71 [(0, .ref q), (1, .int a1), (2, .int a2), (3, .int a3), (4, .int a4), (5, .int x5_9), (6, .int x6_10), (7, .int x7_16), (8, .int x8_17), (9, .int x9_18), (10, .int x10_19)] [] := fun x7_16 x8_17 x9_18 x10_19 h => hrec_20 _ h
          clear hrec_20
          dsimp only [F_X5_chance_71] at h
          show zV E (wM cI cZ q ad) 13 S_1 71 [(0, .ref q), (1, .int a1), (2, .int a2), (3, .int a3), (4, .int a4), (5, .int x5_9), (6, .int x6_10), (7, .int x7_16), (8, .int x8_17), (9, .int x9_18), (10, .int x10_19)] []
          refine zV_iload (n := 73) C0 10 dX5_chance_71 rfl rfl ?_
          refine zV_aload_n (n := 74) C0 0 dX5_chance_73 rfl rfl ?_
          refine zV_get (n := 77) (ref := RX5) C0 hinX5_chance_X5 0 rfl rfl 4 (Nat.le_of_ble_eq_true rfl) mX5_chance_3 rfl rfl dX5_chance_74 rfl ?_
          refine zV_icmp_ge (tgt := 184) (n := 80) C0 dX5_chance_77 rfl rfl (fun hb_43 => ?_) (fun hb_43 => ?_)
          · replace h := if_t hb_43 h
            refine zV_iload (n := 186) C0 5 dX5_chance_184 rfl rfl ?_
            refine zV_iload (n := 188) C0 8 dX5_chance_186 rfl rfl ?_
            refine zV_iload_n (n := 189) C0 2 dX5_chance_188 rfl rfl ?_
            refine zjoin_of h (fun k_22 hk_22 h => ?_)
            have Jk_22 : ∀ (s_21 : Int32), k_22 (s_21) = some r → zV E (wM cI cZ q ad) 13 S_1 198 [(0, .ref q), (1, .int a1), (2, .int a2), (3, .int a3), (4, .int a4), (6, .int x6_10)] [.int s_21, .int x5_9] := by
              intro s_21 h
              replace h := hk_22 _ h
              refine zV_iadd (n := 199) C0 dX5_chance_198  rfl ?_
              refine zV_topi (fun x5_23 ex5_23 => ?_)
              replace h := zlet_of ex5_23 h
              clear ex5_23
              refine zV_istore (n := 201) C0 [(5, .int x5_23), (0, .ref q), (1, .int a1), (2, .int a2), (3, .int a3), (4, .int a4), (6, .int x6_10)] dX5_chance_199 rfl (Nat.le_of_ble_eq_true rfl) rfl ?_
              refine zV_iinc (n := 204) C0 6 (v := (x6_10 + (1 : Int32))) [(6, .int (x6_10 + (1 : Int32))), (5, .int x5_23), (0, .ref q), (1, .int a1), (2, .int a2), (3, .int a3), (4, .int a4)] dX5_chance_201 rfl rfl rfl (Nat.le_of_ble_eq_true rfl) rfl ?_
              refine zV_goto (tgt := 48) C0 dX5_chance_204 rfl ?_
              refine zV_sub [2, 3, 4, 5, 6, 1, 0] rfl ?_
              exact Jrec_11 x5_23 (x6_10 + (1 : Int32)) h
            clear hk_22
            refine zV_icmp_gt (tgt := 197) (n := 192) C0 dX5_chance_189 rfl rfl (fun hb_24 => ?_) (fun hb_24 => ?_)
            · replace h := if_t hb_24 h
              refine zV_iconst (n := 198) (v := (0 : Int32)) C0 dX5_chance_197 rfl rfl ?_
              refine zV_sub [0, 1, 2, 3, 4, 6] rfl ?_
              exact Jk_22 (0 : Int32) h
            · replace h := if_f hb_24 h
              refine zV_iload (n := 194) C0 9 dX5_chance_192 rfl rfl ?_
              refine zV_goto (tgt := 198) C0 dX5_chance_194 rfl ?_
              refine zV_sub [0, 1, 2, 3, 4, 6] rfl ?_
              exact Jk_22 x9_18 h
          · replace h := if_f hb_43 h
            refine zV_aload_n (n := 81) C0 0 dX5_chance_80 rfl rfl ?_
            refine zV_get (n := 84) (ref := RX5) C0 hinX5_chance_X5 0 rfl rfl 14 (Nat.le_of_ble_eq_true rfl) mX5_chance_4 rfl rfl dX5_chance_81 rfl ?_
            refine zV_iconst (n := 85) (v := (0 : Int32)) C0 dX5_chance_84 rfl rfl ?_
            refine zV_iconst (n := 86) (v := (4 : Int32)) C0 dX5_chance_85 rfl rfl ?_
            refine zV_iload_n (n := 87) C0 1 dX5_chance_86 rfl rfl ?_
            refine zV_imul (n := 88) C0 dX5_chance_87  rfl ?_
            refine zV_iadd (n := 89) C0 dX5_chance_88  rfl ?_
            refine zV_iload (n := 91) C0 7 dX5_chance_89 rfl rfl ?_
            refine zV_iadd (n := 92) C0 dX5_chance_91  rfl ?_
            obtain ⟨hg_25, h⟩ := gd_of h
            refine zV_iald (n := 93) C0 6 0 rfl rfl hg_25 dX5_chance_92 rfl ?_
            refine zV_topi (fun x11_26 ex11_26 => ?_)
            replace h := zlet_of ex11_26 h
            clear ex11_26
            refine zV_istore (n := 95) C0 [(11, .int x11_26), (0, .ref q), (1, .int a1), (2, .int a2), (3, .int a3), (4, .int a4), (5, .int x5_9), (6, .int x6_10), (7, .int x7_16), (8, .int x8_17), (9, .int x9_18), (10, .int x10_19)] dX5_chance_93 rfl (Nat.le_of_ble_eq_true rfl) rfl ?_
            refine zV_iload (n := 97) C0 7 dX5_chance_95 rfl rfl ?_
            refine zV_iload (n := 99) C0 11 dX5_chance_97 rfl rfl ?_
            obtain ⟨r_28, hc_27, h⟩ := ob_of h
            refine zV_callS0 (n := 102) (st := []) (As := [.int x6_10, .int x10_19]) C0 (k_X5_has x6_10 x10_19 _ hc_27) gX5_chance_X5_has rfl (hd_X5_has) rfl ⟨rfl, rfl⟩ ⟨Nat.le_of_ble_eq_true rfl, Nat.le_of_ble_eq_true rfl⟩ rfl (Nat.le_of_ble_eq_true rfl) dX5_chance_99 rfl ?_
            refine zV_istore (n := 104) C0 [(12, .int r_28), (11, .int x11_26), (0, .ref q), (1, .int a1), (2, .int a2), (3, .int a3), (4, .int a4), (5, .int x5_9), (6, .int x6_10), (7, .int x7_16), (8, .int x8_17), (9, .int x9_18), (10, .int x10_19)] dX5_chance_102 rfl (Nat.le_of_ble_eq_true rfl) rfl ?_
            refine zV_iload (n := 106) C0 10 dX5_chance_104 rfl rfl ?_
            refine zV_aload_n (n := 107) C0 2 dX5_chance_106 rfl rfl ?_
            refine zV_aload_n (n := 108) C0 2 dX5_chance_107 rfl rfl ?_
            refine zV_get (n := 111) (ref := RX5) C0 hinX5_chance_X5 0 rfl rfl 14 (Nat.le_of_ble_eq_true rfl) mX5_chance_4 rfl rfl dX5_chance_108 rfl ?_
            refine zV_iload_n (n := 112) C0 3 dX5_chance_111 rfl rfl ?_
            refine zV_iload (n := 114) C0 12 dX5_chance_112 rfl rfl ?_
            refine zV_iload (n := 116) C0 9 dX5_chance_114 rfl rfl ?_
            obtain ⟨r_30, hc_29, h⟩ := ob_of h
            refine zV_callVI (n := 119) (st := [.int x8_17]) (As := [.ref (ad 14), .int a1, .int x10_19, .int x7_16]) C0 (k_X5_takes 14 a1 x10_19 x7_16 (by decide) S_1 _ hc_29) gX5_chance_X5_takes rfl (hd_X5_takes) rfl ⟨rfl, rfl⟩ ⟨Nat.le_of_ble_eq_true rfl, Nat.le_of_ble_eq_true rfl⟩ 0 rfl rfl rfl (Nat.le_of_ble_eq_true rfl) dX5_chance_116 rfl ?_
            refine zV_iadd (n := 120) C0 dX5_chance_119  rfl ?_
            refine zV_topi (fun x8_31 ex8_31 => ?_)
            replace h := zlet_of ex8_31 h
            clear ex8_31
            refine zV_istore (n := 122) C0 [(8, .int x8_31), (12, .int r_28), (11, .int x11_26), (0, .ref q), (1, .int a1), (2, .int a2), (3, .int a3), (4, .int a4), (5, .int x5_9), (6, .int x6_10), (7, .int x7_16), (9, .int x9_18), (10, .int x10_19)] dX5_chance_120 rfl (Nat.le_of_ble_eq_true rfl) rfl ?_
            refine zV_iload (n := 124) C0 11 dX5_chance_122 rfl rfl ?_
            refine zV_iload (n := 126) C0 2 dX5_chance_124 rfl rfl ?_
            refine zV_iconst (n := 127) (v := (2 : Int32)) C0 dX5_chance_126 rfl rfl ?_
            refine zjoin_of h (fun k_33 hk_33 h => ?_)
            have Jk_33 : ∀ (s_32 : Int32), k_33 (s_32) = some r → zV E (wM cI cZ q ad) 13 S_1 157 [(0, .ref q), (1, .int a1), (2, .int a2), (3, .int a3), (4, .int a4), (5, .int x5_9), (6, .int x6_10), (7, .int x7_16), (8, .int x8_31), (10, .int x10_19), (11, .int x11_26), (12, .int r_28)] [.int s_32, .int x9_18] := by
              intro s_32 h
              replace h := hk_33 _ h
              refine zV_imul (n := 158) C0 dX5_chance_157  rfl ?_
              refine zV_topi (fun x9_34 ex9_34 => ?_)
              replace h := zlet_of ex9_34 h
              clear ex9_34
              refine zV_istore (n := 160) C0 [(9, .int x9_34), (0, .ref q), (1, .int a1), (2, .int a2), (3, .int a3), (4, .int a4), (5, .int x5_9), (6, .int x6_10), (7, .int x7_16), (8, .int x8_31), (10, .int x10_19), (11, .int x11_26), (12, .int r_28)] dX5_chance_158 rfl (Nat.le_of_ble_eq_true rfl) rfl ?_
              refine zV_iload (n := 162) C0 8 dX5_chance_160 rfl rfl ?_
              refine zV_iload (n := 164) C0 12 dX5_chance_162 rfl rfl ?_
              refine zjoin_of h (fun k_36 hk_36 h => ?_)
              have Jk_36 : ∀ (s_35 : Int32), k_36 (s_35) = some r → zV E (wM cI cZ q ad) 13 S_1 173 [(0, .ref q), (1, .int a1), (2, .int a2), (3, .int a3), (4, .int a4), (5, .int x5_9), (6, .int x6_10), (8, .int x8_31), (9, .int x9_34), (10, .int x10_19)] [.int s_35, .int x7_16] := by
                intro s_35 h
                replace h := hk_36 _ h
                obtain ⟨r_38, hc_37, h⟩ := ob_of h
                refine zV_callS0 (n := 176) (st := []) (As := [.int x7_16, .int s_35]) C0 (k_X5_next x7_16 s_35 _ hc_37) gX5_chance_X5_next rfl (hd_X5_next) rfl ⟨rfl, rfl⟩ ⟨Nat.le_of_ble_eq_true rfl, Nat.le_of_ble_eq_true rfl⟩ rfl (Nat.le_of_ble_eq_true rfl) dX5_chance_173 rfl ?_
                refine zV_istore (n := 178) C0 [(7, .int r_38), (0, .ref q), (1, .int a1), (2, .int a2), (3, .int a3), (4, .int a4), (5, .int x5_9), (6, .int x6_10), (8, .int x8_31), (9, .int x9_34), (10, .int x10_19)] dX5_chance_176 rfl (Nat.le_of_ble_eq_true rfl) rfl ?_
                refine zV_iinc (n := 181) C0 10 (v := (x10_19 + (1 : Int32))) [(10, .int (x10_19 + (1 : Int32))), (7, .int r_38), (0, .ref q), (1, .int a1), (2, .int a2), (3, .int a3), (4, .int a4), (5, .int x5_9), (6, .int x6_10), (8, .int x8_31), (9, .int x9_34)] dX5_chance_178 rfl rfl rfl (Nat.le_of_ble_eq_true rfl) rfl ?_
                refine zV_goto (tgt := 71) C0 dX5_chance_181 rfl ?_
                refine zV_sub [2, 3, 4, 5, 6, 7, 8, 1, 9, 10, 0] rfl ?_
                exact Jrec_20 r_38 x8_31 x9_34 (x10_19 + (1 : Int32)) h
              clear hk_36
              refine zV_if_eq (tgt := 171) (n := 167) C0 dX5_chance_164 rfl rfl (fun hb_39 => ?_) (fun hb_39 => ?_)
              · replace h := if_t hb_39 h
                refine zV_iload (n := 173) C0 11 dX5_chance_171 rfl rfl ?_
                refine zV_sub [1, 2, 3, 4, 5, 6, 7, 9, 0, 10] rfl ?_
                exact Jk_36 x11_26 h
              · replace h := if_f hb_39 h
                refine zV_iconst (n := 168) (v := (2 : Int32)) C0 dX5_chance_167 rfl rfl ?_
                refine zV_goto (tgt := 173) C0 dX5_chance_168 rfl ?_
                refine zV_sub [1, 2, 3, 4, 5, 6, 7, 9, 0, 10] rfl ?_
                exact Jk_36 (2 : Int32) h
            clear hk_33
            refine zV_icmp_ne (tgt := 144) (n := 130) C0 dX5_chance_127 rfl rfl (fun hb_42 => ?_) (fun hb_42 => ?_)
            · replace h := if_f hb_42 h
              refine zV_iload (n := 146) C0 1 dX5_chance_144 rfl rfl ?_
              refine zV_if_eq (tgt := 153) (n := 149) C0 dX5_chance_146 rfl rfl (fun hb_40 => ?_) (fun hb_40 => ?_)
              · replace h := if_t hb_40 h
                refine zV_bipush (n := 155) (v := (10 : Int32)) C0 dX5_chance_153 rfl rfl ?_
                refine zV_iload_n (n := 156) C0 6 dX5_chance_155 rfl rfl ?_
                refine zV_isub (n := 157) C0 dX5_chance_156  rfl ?_
                refine zV_sub [3, 4, 5, 6, 7, 8, 9, 10, 0, 12, 2, 1] rfl ?_
                exact Jk_33 ((10 : Int32) - a3) h
              · replace h := if_f hb_40 h
                refine zV_iload_n (n := 150) C0 6 dX5_chance_149 rfl rfl ?_
                refine zV_goto (tgt := 157) C0 dX5_chance_150 rfl ?_
                refine zV_sub [3, 4, 5, 6, 7, 8, 9, 10, 0, 12, 2, 1] rfl ?_
                exact Jk_33 a3 h
            · replace h := if_t hb_42 h
              refine zV_iload (n := 132) C0 1 dX5_chance_130 rfl rfl ?_
              refine zV_if_eq (tgt := 139) (n := 135) C0 dX5_chance_132 rfl rfl (fun hb_41 => ?_) (fun hb_41 => ?_)
              · replace h := if_t hb_41 h
                refine zV_bipush (n := 141) (v := (10 : Int32)) C0 dX5_chance_139 rfl rfl ?_
                refine zV_goto (tgt := 157) C0 dX5_chance_141 rfl ?_
                refine zV_sub [3, 4, 5, 6, 7, 8, 9, 10, 0, 12, 2, 1] rfl ?_
                exact Jk_33 (10 : Int32) h
              · replace h := if_f hb_41 h
                refine zV_iconst (n := 136) (v := (0 : Int32)) C0 dX5_chance_135 rfl rfl ?_
                refine zV_goto (tgt := 157) C0 dX5_chance_136 rfl ?_
                refine zV_sub [3, 4, 5, 6, 7, 8, 9, 10, 0, 12, 2, 1] rfl ?_
                exact Jk_33 (0 : Int32) h
      · replace h := if_t hb_45 h
        refine zV_sub [] rfl ?_
        exact Jk_6  h
  · replace h := if_f hb_47 h
    refine zV_iconst (n := 14) (v := (-1 : Int32)) C0 dX5_chance_13 rfl rfl ?_
    exact zretI hR h rfl dX5_chance_14
set_option maxRecDepth 20000 in
theorem mX5_seed_0 : Cond.fieldLink RX5 63 "LeggedThroughModel" "thrown" "I" ∈ wsX5_seed := by decide +kernel
set_option maxRecDepth 20000 in
theorem mX5_seed_1 : Cond.fieldLink RX5 230 "LeggedThroughModel" "seed" "J" ∈ wsX5_seed := by decide +kernel
set_option maxRecDepth 20000 in
theorem hinX5_seed_X5 : ∀ w ∈ u_ws RX5 TX5 37, w ∈ wsX5_seed := fun w h => List.mem_cons_of_mem _ (List.mem_append_right _ h)
set_option maxRecDepth 20000 in
set_option maxHeartbeats 4000000 in
theorem k_X5_seed {l : Launch} {D : va_G} {cI cZ : ClassId} {q : Nat} {ad : Nat → Nat} (b1 : Int64)  (S : zS) (r : Int64 × zS) (h : f_X5_seed b1 S = some r) : zJ l yX5_seed wsX5_seed (zRm 0 0) D (zty cI cZ) zNw (wM cI cZ q ad) [.ref q, .long b1] S r := by
  refine zJ_of (cc := cX5_seed) (maxL := 5)  (by decide +kernel) rfl (Nat.le_of_ble_eq_true rfl) zNw_ok (fun E hE1 hE2 C0 hR => ?_)
  subst hE1; subst hE2
  replace C0 : zCx E (zRm 0 0) cX5_seed 5 RX5 wsX5_seed (zty cI cZ) zNw := C0
  show zV E (wM cI cZ q ad) 5 S 0 [(0, .ref q), (1, .long b1)] []
  delta f_X5_seed at h
  refine zV_aload_n (n := 1) C0 0 dX5_seed_0 rfl rfl ?_
  refine zV_iconst (n := 2) (v := (0 : Int32)) C0 dX5_seed_1 rfl rfl ?_
  refine zV_put (n := 5) (ref := RX5) C0 hinX5_seed_X5 0 rfl rfl 0 (Nat.le_of_ble_eq_true rfl) mX5_seed_0 rfl tyX5 tyX5_ok nmX5 rfl (tyX5_ok 0 (Nat.le_of_ble_eq_true rfl)) rfl rfl (Nat.le_of_ble_eq_true rfl) (upd S.1 0 (0 : Int32), S.2) (wM_f0 cI cZ q ad S (0 : Int32)) dX5_seed_2 rfl ?_
  refine zV_topS (fun S_1 eS_1 => ?_)
  replace h := zlet_of eS_1 h
  clear eS_1
  refine zV_aload_n (n := 6) C0 0 dX5_seed_5 rfl rfl ?_
  refine zV_get (n := 9) (ref := RX5) C0 hinX5_seed_X5 0 rfl rfl 24 (Nat.le_of_ble_eq_true rfl) mX5_seed_1 rfl rfl dX5_seed_6 rfl ?_
  refine zV_topl (fun x3_2 ex3_2 => ?_)
  replace h := zlet_of ex3_2 h
  clear ex3_2
  refine zV_lstore_n (n := 10) C0 [(3, .long x3_2), (0, .ref q), (1, .long b1)] dX5_seed_9 rfl rfl (Nat.le_of_ble_eq_true rfl) rfl ?_
  refine zV_aload_n (n := 11) C0 1 dX5_seed_10 rfl rfl ?_
  refine zV_lload_n (n := 12) C0 2 dX5_seed_11 rfl rfl ?_
  refine zV_put (n := 15) (ref := RX5) C0 hinX5_seed_X5 0 rfl rfl 24 (Nat.le_of_ble_eq_true rfl) mX5_seed_1 rfl tyX5 tyX5_ok nmX5 rfl (tyX5_ok 24 (Nat.le_of_ble_eq_true rfl)) rfl rfl (Nat.le_of_ble_eq_true rfl) (S_1.1, b1, S_1.2.2) (wM_f24 cI cZ q ad S_1 b1) dX5_seed_12 rfl ?_
  refine zV_topS (fun S_3 eS_3 => ?_)
  replace h := zlet_of eS_3 h
  clear eS_3
  refine zV_lload_n (n := 16) C0 0 dX5_seed_15 rfl rfl ?_
  exact zretJ hR h dX5_seed_16
set_option maxRecDepth 20000 in
theorem mX5_goSoonest_0 : Cond.fieldLink RX5 73 "LeggedThroughModel" "boats" "I" ∈ wsX5_goSoonest := by decide +kernel
set_option maxRecDepth 20000 in
theorem mX5_goSoonest_1 : Cond.fieldLink RX5 184 "LeggedThroughModel" "soonRow" "I" ∈ wsX5_goSoonest := by decide +kernel
set_option maxRecDepth 20000 in
theorem mX5_goSoonest_2 : Cond.fieldLink RX5 35 "LeggedThroughModel" "base" "[I" ∈ wsX5_goSoonest := by decide +kernel
set_option maxRecDepth 20000 in
theorem hinX5_goSoonest_X5 : ∀ w ∈ u_ws RX5 TX5 37, w ∈ wsX5_goSoonest := fun w h => List.mem_cons_of_mem _ (List.mem_append_right _ h)
set_option maxRecDepth 20000 in
set_option maxHeartbeats 4000000 in
theorem k_X5_goSoonest {l : Launch} {D : va_G} {cI cZ : ClassId} {q : Nat} {ad : Nat → Nat}   (S : zS) (r : zS) (h : f_X5_goSoonest  S = some r) : zU l yX5_goSoonest wsX5_goSoonest (zRm 4 102) D (zty cI cZ) zNw (wM cI cZ q ad) [.ref q] S r := by
  refine zU_of (cc := cX5_goSoonest) (maxL := 3)  (by decide +kernel) rfl (Nat.le_of_ble_eq_true rfl) zNw_ok (fun E hE1 hE2 C0 hR => ?_)
  subst hE1; subst hE2
  replace C0 : zCx E (zRm 4 102) cX5_goSoonest 3 RX5 wsX5_goSoonest (zty cI cZ) zNw := C0
  show zV E (wM cI cZ q ad) 3 S 0 [(0, .ref q)] []
  delta f_X5_goSoonest at h
  refine zV_aload_n (n := 1) C0 0 dX5_goSoonest_0 rfl rfl ?_
  refine zV_get (n := 4) (ref := RX5) C0 hinX5_goSoonest_X5 0 rfl rfl 7 (Nat.le_of_ble_eq_true rfl) mX5_goSoonest_0 rfl rfl dX5_goSoonest_1 rfl ?_
  refine zV_iconst (n := 5) (v := (1 : Int32)) C0 dX5_goSoonest_4 rfl rfl ?_
  refine zV_isub (n := 6) C0 dX5_goSoonest_5  rfl ?_
  refine zV_topi (fun x1_1 ex1_1 => ?_)
  replace h := zlet_of ex1_1 h
  clear ex1_1
  refine zV_istore_n (n := 7) C0 [(1, .int x1_1), (0, .ref q)] dX5_goSoonest_6 rfl rfl (Nat.le_of_ble_eq_true rfl) rfl ?_
  refine zV_sub [1, 0] rfl ?_
  refine zfix_ind (fun e => zV E (wM cI cZ q ad) 3 e.2 7 [(0, .ref q), (1, .int e.1)] []) (fun rec_4 hrec_4 e h => ?_) zN (x1_1, S) h
  obtain ⟨x1_2, S_3⟩ := e
  have Jrec_4 : ∀ (x1_2 : Int32) (S_3 : zS), rec_4 (x1_2, S_3) = some r → zV E (wM cI cZ q ad) 3 S_3 7 [(0, .ref q), (1, .int x1_2)] [] := fun x1_2 S_3 h => hrec_4 _ h
  clear hrec_4
  dsimp only [F_X5_goSoonest_7] at h
  show zV E (wM cI cZ q ad) 3 S_3 7 [(0, .ref q), (1, .int x1_2)] []
  refine zV_iload_n (n := 8) C0 1 dX5_goSoonest_7 rfl rfl ?_
  refine zjoin_of h (fun k_5 hk_5 h => ?_)
  have Jk_5 : k_5 () = some r → zV E (wM cI cZ q ad) 3 S_3 66 [] [] := by
    intro  h
    replace h := hk_5 _ h
    exact zretU hR h dX5_goSoonest_66
  clear hk_5
  refine zV_if_lt (tgt := 66) (n := 11) C0 dX5_goSoonest_8 rfl rfl (fun hb_13 => ?_) (fun hb_13 => ?_)
  · replace h := if_t hb_13 h
    refine zV_sub [] rfl ?_
    exact Jk_5  h
  · replace h := if_f hb_13 h
    refine zV_aload_n (n := 12) C0 0 dX5_goSoonest_11 rfl rfl ?_
    refine zV_get (n := 15) (ref := RX5) C0 hinX5_goSoonest_X5 0 rfl rfl 30 (Nat.le_of_ble_eq_true rfl) mX5_goSoonest_1 rfl rfl dX5_goSoonest_12 rfl ?_
    refine zV_bipush (n := 17) (v := (-9 : Int32)) C0 dX5_goSoonest_15 rfl rfl ?_
    refine zV_icmp_eq (tgt := 66) (n := 20) C0 dX5_goSoonest_17 rfl rfl (fun hb_12 => ?_) (fun hb_12 => ?_)
    · replace h := if_t hb_12 h
      refine zV_sub [] rfl ?_
      exact Jk_5  h
    · replace h := if_f hb_12 h
      refine zV_aload_n (n := 21) C0 0 dX5_goSoonest_20 rfl rfl ?_
      refine zV_get (n := 24) (ref := RX5) C0 hinX5_goSoonest_X5 0 rfl rfl 30 (Nat.le_of_ble_eq_true rfl) mX5_goSoonest_1 rfl rfl dX5_goSoonest_21 rfl ?_
      refine zV_sipush (n := 27) (v := (1000 : Int32)) C0 dX5_goSoonest_24 rfl rfl ?_
      refine zV_iload_n (n := 28) C0 1 dX5_goSoonest_27 rfl rfl ?_
      obtain ⟨r_7, hc_6, h⟩ := ob_of h
      refine zV_callS0 (n := 31) (st := [.int (S_3.1 30)]) (As := [.int (1000 : Int32), .int x1_2]) C0 (k_X5_power (1000 : Int32) x1_2 _ hc_6) gX5_goSoonest_X5_power rfl (hd_X5_power) rfl ⟨rfl, rfl⟩ ⟨Nat.le_of_ble_eq_true rfl, Nat.le_of_ble_eq_true rfl⟩ rfl (Nat.le_of_ble_eq_true rfl) dX5_goSoonest_28 rfl ?_
      obtain ⟨hg_8, h⟩ := gd_of h
      refine zV_idiv (n := 32) C0 dX5_goSoonest_31 hg_8 rfl ?_
      refine zV_sipush (n := 35) (v := (1000 : Int32)) C0 dX5_goSoonest_32 rfl rfl ?_
      refine zV_irem (n := 36) C0 dX5_goSoonest_35 (by decide) rfl ?_
      refine zV_topi (fun x2_9 ex2_9 => ?_)
      replace h := zlet_of ex2_9 h
      clear ex2_9
      refine zV_istore_n (n := 37) C0 [(2, .int x2_9), (0, .ref q), (1, .int x1_2)] dX5_goSoonest_36 rfl rfl (Nat.le_of_ble_eq_true rfl) rfl ?_
      refine zV_aload_n (n := 38) C0 1 dX5_goSoonest_37 rfl rfl ?_
      refine zV_aload_n (n := 39) C0 1 dX5_goSoonest_38 rfl rfl ?_
      refine zV_get (n := 42) (ref := RX5) C0 hinX5_goSoonest_X5 0 rfl rfl 16 (Nat.le_of_ble_eq_true rfl) mX5_goSoonest_2 rfl rfl dX5_goSoonest_39 rfl ?_
      refine zV_iload_n (n := 43) C0 0 dX5_goSoonest_42 rfl rfl ?_
      refine zV_bipush (n := 45) (v := (100 : Int32)) C0 dX5_goSoonest_43 rfl rfl ?_
      refine zV_idiv (n := 46) C0 dX5_goSoonest_45 (by decide) rfl ?_
      refine zV_iload_n (n := 47) C0 0 dX5_goSoonest_46 rfl rfl ?_
      refine zV_bipush (n := 49) (v := (10 : Int32)) C0 dX5_goSoonest_47 rfl rfl ?_
      refine zV_idiv (n := 50) C0 dX5_goSoonest_49 (by decide) rfl ?_
      refine zV_bipush (n := 52) (v := (10 : Int32)) C0 dX5_goSoonest_50 rfl rfl ?_
      refine zV_irem (n := 53) C0 dX5_goSoonest_52 (by decide) rfl ?_
      refine zV_iload_n (n := 54) C0 0 dX5_goSoonest_53 rfl rfl ?_
      refine zV_bipush (n := 56) (v := (10 : Int32)) C0 dX5_goSoonest_54 rfl rfl ?_
      refine zV_irem (n := 57) C0 dX5_goSoonest_56 (by decide) rfl ?_
      obtain ⟨S_11, hc_10, h⟩ := ob_of h
      refine zV_callVU (n := 60) (st := []) (As := [.ref (ad 16), .int (x2_9 / (100 : Int32)), .int (zrem (x2_9 / (10 : Int32)) (10 : Int32)), .int (zrem x2_9 (10 : Int32))]) C0 (k_X5_goLeg 16 (x2_9 / (100 : Int32)) (zrem (x2_9 / (10 : Int32)) (10 : Int32)) (zrem x2_9 (10 : Int32)) (by decide) S_3 _ hc_10) gX5_goSoonest_X5_goLeg rfl (hd_X5_goLeg) rfl ⟨rfl, rfl⟩ ⟨Nat.le_of_ble_eq_true rfl, Nat.le_of_ble_eq_true rfl⟩ 0 rfl rfl rfl (Nat.le_of_ble_eq_true rfl) dX5_goSoonest_57 rfl ?_
      refine zV_iinc (n := 63) C0 2 (v := (x1_2 + (-1 : Int32))) [(1, .int (x1_2 + (-1 : Int32))), (2, .int x2_9), (0, .ref q)] dX5_goSoonest_60 rfl rfl rfl (Nat.le_of_ble_eq_true rfl) rfl ?_
      refine zV_goto (tgt := 7) C0 dX5_goSoonest_63 rfl ?_
      refine zV_sub [2, 0] rfl ?_
      exact Jrec_4 (x1_2 + (-1 : Int32)) S_11 h
set_option maxRecDepth 20000 in
theorem mX5_days_0 : Cond.fieldLink RX5 63 "LeggedThroughModel" "thrown" "I" ∈ wsX5_days := by decide +kernel
set_option maxRecDepth 20000 in
theorem mX5_days_1 : Cond.constantLong RX5 234 (30 : Int64) ∈ wsX5_days := by decide +kernel
set_option maxRecDepth 20000 in
theorem mX5_days_2 : Cond.fieldLink RX5 29 "LeggedThroughModel" "page" "[I" ∈ wsX5_days := by decide +kernel
set_option maxRecDepth 20000 in
theorem mX5_days_3 : Cond.fieldLink RX5 35 "LeggedThroughModel" "base" "[I" ∈ wsX5_days := by decide +kernel
set_option maxRecDepth 20000 in
theorem mX5_days_4 : Cond.fieldLink RX5 230 "LeggedThroughModel" "seed" "J" ∈ wsX5_days := by decide +kernel
set_option maxRecDepth 20000 in
theorem mX5_days_5 : Cond.constantLong RX5 236 (6364136223846793005 : Int64) ∈ wsX5_days := by decide +kernel
set_option maxRecDepth 20000 in
theorem mX5_days_6 : Cond.constantLong RX5 238 (1442695040888963407 : Int64) ∈ wsX5_days := by decide +kernel
set_option maxRecDepth 20000 in
theorem mX5_days_7 : Cond.constantLong RX5 240 (20 : Int64) ∈ wsX5_days := by decide +kernel
set_option maxRecDepth 20000 in
theorem hinX5_days_X5 : ∀ w ∈ u_ws RX5 TX5 37, w ∈ wsX5_days := fun w h => List.mem_cons_of_mem _ (List.mem_append_right _ h)
set_option maxRecDepth 20000 in
set_option maxHeartbeats 4000000 in
theorem k_X5_days {l : Launch} {D : va_G} {cI cZ : ClassId} {q : Nat} {ad : Nat → Nat} (a1 : Int32)  (S : zS) (r : Int32 × zS) (h : f_X5_days a1 S = some r) : zI l yX5_days wsX5_days (zRm 5 132) D (zty cI cZ) zNw (wM cI cZ q ad) [.ref q, .int a1] S r := by
  refine zI_of (cc := cX5_days) (maxL := 4) (ty := .int) (by decide +kernel) rfl (Nat.le_of_ble_eq_true rfl) zNw_ok (fun E hE1 hE2 C0 hR => ?_)
  subst hE1; subst hE2
  replace C0 : zCx E (zRm 5 132) cX5_days 4 RX5 wsX5_days (zty cI cZ) zNw := C0
  show zV E (wM cI cZ q ad) 4 S 0 [(0, .ref q), (1, .int a1)] []
  delta f_X5_days at h
  refine zV_aload_n (n := 1) C0 0 dX5_days_0 rfl rfl ?_
  refine zV_iconst (n := 2) (v := (0 : Int32)) C0 dX5_days_1 rfl rfl ?_
  refine zV_put (n := 5) (ref := RX5) C0 hinX5_days_X5 0 rfl rfl 0 (Nat.le_of_ble_eq_true rfl) mX5_days_0 rfl tyX5 tyX5_ok nmX5 rfl (tyX5_ok 0 (Nat.le_of_ble_eq_true rfl)) rfl rfl (Nat.le_of_ble_eq_true rfl) (upd S.1 0 (0 : Int32), S.2) (wM_f0 cI cZ q ad S (0 : Int32)) dX5_days_2 rfl ?_
  refine zV_topS (fun S_1 eS_1 => ?_)
  replace h := zlet_of eS_1 h
  clear eS_1
  refine zV_iload_n (n := 6) C0 1 dX5_days_5 rfl rfl ?_
  refine zV_i2l (n := 7) C0 dX5_days_6  rfl ?_
  refine zV_lconst (n := 8) (v := (1 : Int64)) C0 dX5_days_7 rfl rfl ?_
  refine zV_ldc2 (n := 11) (v := (30 : Int64)) C0 dX5_days_8 mX5_days_1 rfl ?_
  obtain ⟨r_3, hc_2, h⟩ := ob_of h
  refine zV_callS0 (n := 14) (st := []) (As := [.long a1.toInt64, .long (1 : Int64), .long (30 : Int64)]) C0 (k_X5_in a1.toInt64 (1 : Int64) (30 : Int64) _ hc_2) gX5_days_X5_in rfl (hd_X5_in) rfl ⟨rfl, rfl⟩ ⟨Nat.le_of_ble_eq_true rfl, Nat.le_of_ble_eq_true rfl⟩ rfl (Nat.le_of_ble_eq_true rfl) dX5_days_11 rfl ?_
  refine zV_if_ne (tgt := 20) (n := 17) C0 dX5_days_14 rfl rfl (fun hb_31 => ?_) (fun hb_31 => ?_)
  · replace h := if_f hb_31 h
    refine zV_aload_n (n := 21) C0 0 dX5_days_20 rfl rfl ?_
    refine zV_get (n := 24) (ref := RX5) C0 hinX5_days_X5 0 rfl rfl 14 (Nat.le_of_ble_eq_true rfl) mX5_days_2 rfl rfl dX5_days_21 rfl ?_
    refine zV_aload_n (n := 25) C0 0 dX5_days_24 rfl rfl ?_
    refine zV_get (n := 28) (ref := RX5) C0 hinX5_days_X5 0 rfl rfl 16 (Nat.le_of_ble_eq_true rfl) mX5_days_3 rfl rfl dX5_days_25 rfl ?_
    obtain ⟨S_5, hc_4, h⟩ := ob_of h
    refine zV_callSU (n := 31) (st := []) (As := [.ref (ad 14), .ref (ad 16)]) C0 (k_X5_copy 14 16 (by decide) (by decide) S_1 _ hc_4) gX5_days_X5_copy rfl (hd_X5_copy) rfl ⟨rfl, rfl⟩ ⟨Nat.le_of_ble_eq_true rfl, Nat.le_of_ble_eq_true rfl⟩ rfl (Nat.le_of_ble_eq_true rfl) dX5_days_28 rfl ?_
    refine zV_iconst (n := 32) (v := (0 : Int32)) C0 dX5_days_31 rfl rfl ?_
    refine zV_istore_n (n := 33) C0 [(2, .int (0 : Int32)), (0, .ref q), (1, .int a1)] dX5_days_32 rfl rfl (Nat.le_of_ble_eq_true rfl) rfl ?_
    refine zV_sub [1, 2, 0] rfl ?_
    refine zfix_ind (fun e => zV E (wM cI cZ q ad) 4 e.2 33 [(0, .ref q), (1, .int a1), (2, .int e.1)] []) (fun rec_8 hrec_8 e h => ?_) zN ((0 : Int32), S_5) h
    obtain ⟨x2_6, S_7⟩ := e
    have Jrec_8 : ∀ (x2_6 : Int32) (S_7 : zS), rec_8 (x2_6, S_7) = some r → zV E (wM cI cZ q ad) 4 S_7 33 [(0, .ref q), (1, .int a1), (2, .int x2_6)] [] := fun x2_6 S_7 h => hrec_8 _ h
    clear hrec_8
    dsimp only [F_X5_days_33] at h
    show zV E (wM cI cZ q ad) 4 S_7 33 [(0, .ref q), (1, .int a1), (2, .int x2_6)] []
    refine zV_iload_n (n := 34) C0 2 dX5_days_33 rfl rfl ?_
    refine zV_iload_n (n := 35) C0 1 dX5_days_34 rfl rfl ?_
    refine zV_icmp_ge (tgt := 145) (n := 38) C0 dX5_days_35 rfl rfl (fun hb_30 => ?_) (fun hb_30 => ?_)
    · replace h := if_t hb_30 h
      refine zV_aload_n (n := 146) C0 0 dX5_days_145 rfl rfl ?_
      refine zV_get (n := 149) (ref := RX5) C0 hinX5_days_X5 0 rfl rfl 16 (Nat.le_of_ble_eq_true rfl) mX5_days_3 rfl rfl dX5_days_146 rfl ?_
      refine zV_bipush (n := 151) (v := (21 : Int32)) C0 dX5_days_149 rfl rfl ?_
      obtain ⟨hg_9, h⟩ := gd_of h
      refine zV_iald (n := 152) C0 8 0 rfl rfl hg_9 dX5_days_151 rfl ?_
      refine zV_aload_n (n := 153) C0 0 dX5_days_152 rfl rfl ?_
      refine zV_get (n := 156) (ref := RX5) C0 hinX5_days_X5 0 rfl rfl 14 (Nat.le_of_ble_eq_true rfl) mX5_days_2 rfl rfl dX5_days_153 rfl ?_
      refine zV_bipush (n := 158) (v := (21 : Int32)) C0 dX5_days_156 rfl rfl ?_
      obtain ⟨hg_10, h⟩ := gd_of h
      refine zV_iald (n := 159) C0 6 0 rfl rfl hg_10 dX5_days_158 rfl ?_
      refine zV_isub (n := 160) C0 dX5_days_159  rfl ?_
      exact zretI hR h rfl dX5_days_160
    · replace h := if_f hb_30 h
      refine zV_aload_n (n := 39) C0 0 dX5_days_38 rfl rfl ?_
      refine zV_aload_n (n := 40) C0 0 dX5_days_39 rfl rfl ?_
      refine zV_get (n := 43) (ref := RX5) C0 hinX5_days_X5 0 rfl rfl 24 (Nat.le_of_ble_eq_true rfl) mX5_days_4 rfl rfl dX5_days_40 rfl ?_
      refine zV_ldc2 (n := 46) (v := (6364136223846793005 : Int64)) C0 dX5_days_43 mX5_days_5 rfl ?_
      refine zV_lmul (n := 47) C0 dX5_days_46  rfl ?_
      refine zV_ldc2 (n := 50) (v := (1442695040888963407 : Int64)) C0 dX5_days_47 mX5_days_6 rfl ?_
      refine zV_ladd (n := 51) C0 dX5_days_50  rfl ?_
      refine zV_put (n := 54) (ref := RX5) C0 hinX5_days_X5 0 rfl rfl 24 (Nat.le_of_ble_eq_true rfl) mX5_days_4 rfl tyX5 tyX5_ok nmX5 rfl (tyX5_ok 24 (Nat.le_of_ble_eq_true rfl)) rfl rfl (Nat.le_of_ble_eq_true rfl) (S_7.1, ((S_7.2.1 * (6364136223846793005 : Int64)) + (1442695040888963407 : Int64)), S_7.2.2) (wM_f24 cI cZ q ad S_7 ((S_7.2.1 * (6364136223846793005 : Int64)) + (1442695040888963407 : Int64))) dX5_days_51 rfl ?_
      refine zV_topS (fun S_11 eS_11 => ?_)
      replace h := zlet_of eS_11 h
      clear eS_11
      refine zV_aload_n (n := 55) C0 0 dX5_days_54 rfl rfl ?_
      refine zV_get (n := 58) (ref := RX5) C0 hinX5_days_X5 0 rfl rfl 24 (Nat.le_of_ble_eq_true rfl) mX5_days_4 rfl rfl dX5_days_55 rfl ?_
      refine zV_bipush (n := 60) (v := (33 : Int32)) C0 dX5_days_58 rfl rfl ?_
      refine zV_lushr (n := 61) C0 dX5_days_60  rfl ?_
      refine zV_ldc2 (n := 64) (v := (20 : Int64)) C0 dX5_days_61 mX5_days_7 rfl ?_
      refine zV_lrem (n := 65) C0 dX5_days_64 (by decide) rfl ?_
      refine zV_l2i (n := 66) C0 dX5_days_65  rfl ?_
      refine zV_topi (fun x3_12 ex3_12 => ?_)
      replace h := zlet_of ex3_12 h
      clear ex3_12
      refine zV_istore_n (n := 67) C0 [(3, .int x3_12), (0, .ref q), (1, .int a1), (2, .int x2_6)] dX5_days_66 rfl rfl (Nat.le_of_ble_eq_true rfl) rfl ?_
      refine zV_iload_n (n := 68) C0 0 dX5_days_67 rfl rfl ?_
      refine zV_iconst (n := 69) (v := (4 : Int32)) C0 dX5_days_68 rfl rfl ?_
      refine zV_idiv (n := 70) C0 dX5_days_69 (by decide) rfl ?_
      refine zV_iconst (n := 71) (v := (4 : Int32)) C0 dX5_days_70 rfl rfl ?_
      refine zjoin_of h (fun k_14 hk_14 h => ?_)
      have Jk_14 : ∀ (S_13 : zS), k_14 (S_13) = some r → zV E (wM cI cZ q ad) 4 S_13 139 [(0, .ref q), (1, .int a1), (2, .int x2_6)] [] := by
        intro S_13 h
        replace h := hk_14 _ h
        refine zV_iinc (n := 142) C0 2 (v := (x2_6 + (1 : Int32))) [(2, .int (x2_6 + (1 : Int32))), (0, .ref q), (1, .int a1)] dX5_days_139 rfl rfl rfl (Nat.le_of_ble_eq_true rfl) rfl ?_
        refine zV_goto (tgt := 33) C0 dX5_days_142 rfl ?_
        refine zV_sub [1, 2, 0] rfl ?_
        exact Jrec_8 (x2_6 + (1 : Int32)) S_13 h
      clear hk_14
      refine zV_icmp_ge (tgt := 123) (n := 74) C0 dX5_days_71 rfl rfl (fun hb_29 => ?_) (fun hb_29 => ?_)
      · replace h := if_t hb_29 h
        refine zV_aload_n (n := 124) C0 1 dX5_days_123 rfl rfl ?_
        refine zV_get (n := 127) (ref := RX5) C0 hinX5_days_X5 0 rfl rfl 16 (Nat.le_of_ble_eq_true rfl) mX5_days_3 rfl rfl dX5_days_124 rfl ?_
        refine zV_bipush (n := 129) (v := (20 : Int32)) C0 dX5_days_127 rfl rfl ?_
        refine zV_iconst (n := 130) (v := (0 : Int32)) C0 dX5_days_129 rfl rfl ?_
        obtain ⟨hg_15, h⟩ := gd_of h
        refine zV_iast (n := 131) C0 8 0 rfl rfl hg_15 (S_11.1, S_11.2.1, zur S_11.2.2 16 (upd (S_11.2.2 16) ((20 : Int32)).toNatClampNeg (0 : Int32))) (wM_a16 cI cZ q ad S_11 (upd (S_11.2.2 16) ((20 : Int32)).toNatClampNeg (0 : Int32))) dX5_days_130 rfl ?_
        refine zV_topS (fun S_16 eS_16 => ?_)
        replace h := zlet_of eS_16 h
        clear eS_16
        refine zV_aload_n (n := 132) C0 1 dX5_days_131 rfl rfl ?_
        obtain ⟨S_18, hc_17, h⟩ := ob_of h
        refine zV_callVU (n := 135) (st := []) (As := []) C0 (k_X5_findSoonest  S_16 _ hc_17) gX5_days_X5_findSoonest rfl (hd_X5_findSoonest) rfl ⟨rfl, rfl⟩ ⟨Nat.le_of_ble_eq_true rfl, Nat.le_of_ble_eq_true rfl⟩ 0 rfl rfl rfl (Nat.le_of_ble_eq_true rfl) dX5_days_132 rfl ?_
        refine zV_aload_n (n := 136) C0 1 dX5_days_135 rfl rfl ?_
        obtain ⟨S_20, hc_19, h⟩ := ob_of h
        refine zV_callVU (n := 139) (st := []) (As := []) C0 (k_X5_goSoonest  S_18 _ hc_19) gX5_days_X5_goSoonest rfl (hd_X5_goSoonest) rfl ⟨rfl, rfl⟩ ⟨Nat.le_of_ble_eq_true rfl, Nat.le_of_ble_eq_true rfl⟩ 0 rfl rfl rfl (Nat.le_of_ble_eq_true rfl) dX5_days_136 rfl ?_
        refine zV_sub [1, 2, 3] rfl ?_
        exact Jk_14 S_20 h
      · replace h := if_f hb_29 h
        refine zV_aload_n (n := 75) C0 1 dX5_days_74 rfl rfl ?_
        refine zV_get (n := 78) (ref := RX5) C0 hinX5_days_X5 0 rfl rfl 16 (Nat.le_of_ble_eq_true rfl) mX5_days_3 rfl rfl dX5_days_75 rfl ?_
        refine zV_iconst (n := 79) (v := (0 : Int32)) C0 dX5_days_78 rfl rfl ?_
        refine zV_iconst (n := 80) (v := (4 : Int32)) C0 dX5_days_79 rfl rfl ?_
        refine zV_iload_n (n := 81) C0 0 dX5_days_80 rfl rfl ?_
        refine zV_iconst (n := 82) (v := (4 : Int32)) C0 dX5_days_81 rfl rfl ?_
        refine zV_irem (n := 83) C0 dX5_days_82 (by decide) rfl ?_
        refine zV_imul (n := 84) C0 dX5_days_83  rfl ?_
        refine zV_iadd (n := 85) C0 dX5_days_84  rfl ?_
        refine zV_iload_n (n := 86) C0 0 dX5_days_85 rfl rfl ?_
        refine zV_iconst (n := 87) (v := (4 : Int32)) C0 dX5_days_86 rfl rfl ?_
        refine zV_idiv (n := 88) C0 dX5_days_87 (by decide) rfl ?_
        refine zV_iadd (n := 89) C0 dX5_days_88  rfl ?_
        refine zV_aload_n (n := 90) C0 1 dX5_days_89 rfl rfl ?_
        refine zV_iload_n (n := 91) C0 0 dX5_days_90 rfl rfl ?_
        refine zV_iconst (n := 92) (v := (4 : Int32)) C0 dX5_days_91 rfl rfl ?_
        refine zV_irem (n := 93) C0 dX5_days_92 (by decide) rfl ?_
        obtain ⟨r_22, hc_21, h⟩ := ob_of h
        refine zV_callVI (n := 96) (st := [.int (((0 : Int32) + ((4 : Int32) * (zrem x3_12 (4 : Int32)))) + (x3_12 / (4 : Int32))), .ref (ad 16)]) (As := [.int (zrem x3_12 (4 : Int32))]) C0 (k_X5_noLegger (zrem x3_12 (4 : Int32)) S_11 _ hc_21) gX5_days_X5_noLegger rfl (hd_X5_noLegger) rfl ⟨rfl, rfl⟩ ⟨Nat.le_of_ble_eq_true rfl, Nat.le_of_ble_eq_true rfl⟩ 0 rfl rfl rfl (Nat.le_of_ble_eq_true rfl) dX5_days_93 rfl ?_
        refine zjoin_of h (fun k_24 hk_24 h => ?_)
        have Jk_24 : ∀ (s_23 : Int32), k_24 (s_23) = some r → zV E (wM cI cZ q ad) 4 S_11 119 [(0, .ref q), (1, .int a1), (2, .int x2_6)] [.int s_23, .int (((0 : Int32) + ((4 : Int32) * (zrem x3_12 (4 : Int32)))) + (x3_12 / (4 : Int32))), .ref (ad 16)] := by
          intro s_23 h
          replace h := hk_24 _ h
          obtain ⟨hg_25, h⟩ := gd_of h
          refine zV_iast (n := 120) C0 8 0 rfl rfl hg_25 (S_11.1, S_11.2.1, zur S_11.2.2 16 (upd (S_11.2.2 16) ((((0 : Int32) + ((4 : Int32) * (zrem x3_12 (4 : Int32)))) + (x3_12 / (4 : Int32)))).toNatClampNeg s_23)) (wM_a16 cI cZ q ad S_11 (upd (S_11.2.2 16) ((((0 : Int32) + ((4 : Int32) * (zrem x3_12 (4 : Int32)))) + (x3_12 / (4 : Int32)))).toNatClampNeg s_23)) dX5_days_119 rfl ?_
          refine zV_topS (fun S_26 eS_26 => ?_)
          replace h := zlet_of eS_26 h
          clear eS_26
          refine zV_goto (tgt := 139) C0 dX5_days_120 rfl ?_
          exact Jk_14 S_26 h
        clear hk_24
        refine zV_if_eq (tgt := 118) (n := 99) C0 dX5_days_96 rfl rfl (fun hb_28 => ?_) (fun hb_28 => ?_)
        · replace h := if_t hb_28 h
          refine zV_iconst (n := 119) (v := (2 : Int32)) C0 dX5_days_118 rfl rfl ?_
          refine zV_sub [1, 2, 3] rfl ?_
          exact Jk_24 (2 : Int32) h
        · replace h := if_f hb_28 h
          refine zV_aload_n (n := 100) C0 1 dX5_days_99 rfl rfl ?_
          refine zV_get (n := 103) (ref := RX5) C0 hinX5_days_X5 0 rfl rfl 16 (Nat.le_of_ble_eq_true rfl) mX5_days_3 rfl rfl dX5_days_100 rfl ?_
          refine zV_iconst (n := 104) (v := (0 : Int32)) C0 dX5_days_103 rfl rfl ?_
          refine zV_iconst (n := 105) (v := (4 : Int32)) C0 dX5_days_104 rfl rfl ?_
          refine zV_iload_n (n := 106) C0 0 dX5_days_105 rfl rfl ?_
          refine zV_iconst (n := 107) (v := (4 : Int32)) C0 dX5_days_106 rfl rfl ?_
          refine zV_irem (n := 108) C0 dX5_days_107 (by decide) rfl ?_
          refine zV_imul (n := 109) C0 dX5_days_108  rfl ?_
          refine zV_iadd (n := 110) C0 dX5_days_109  rfl ?_
          refine zV_iload_n (n := 111) C0 0 dX5_days_110 rfl rfl ?_
          refine zV_iconst (n := 112) (v := (4 : Int32)) C0 dX5_days_111 rfl rfl ?_
          refine zV_idiv (n := 113) C0 dX5_days_112 (by decide) rfl ?_
          refine zV_iadd (n := 114) C0 dX5_days_113  rfl ?_
          obtain ⟨hg_27, h⟩ := gd_of h
          refine zV_iald (n := 115) C0 8 0 rfl rfl hg_27 dX5_days_114 rfl ?_
          refine zV_goto (tgt := 119) C0 dX5_days_115 rfl ?_
          refine zV_sub [1, 2, 3] rfl ?_
          exact Jk_24 (S_11.2.2 16 ((((0 : Int32) + ((4 : Int32) * (zrem x3_12 (4 : Int32)))) + (x3_12 / (4 : Int32)))).toNatClampNeg) h
  · replace h := if_t hb_31 h
    refine zV_bipush (n := 19) (v := (-2 : Int32)) C0 dX5_days_17 rfl rfl ?_
    exact zretI hR h rfl dX5_days_19
set_option maxRecDepth 20000 in
theorem mX5_keep_0 : Cond.fieldLink RX5 63 "LeggedThroughModel" "thrown" "I" ∈ wsX5_keep := by decide +kernel
set_option maxRecDepth 20000 in
theorem mX5_keep_1 : Cond.fieldLink RX5 44 "LeggedThroughModel" "isKept" "[Z" ∈ wsX5_keep := by decide +kernel
set_option maxRecDepth 20000 in
theorem mX5_keep_2 : Cond.fieldLink RX5 29 "LeggedThroughModel" "page" "[I" ∈ wsX5_keep := by decide +kernel
set_option maxRecDepth 20000 in
theorem mX5_keep_3 : Cond.fieldLink RX5 41 "LeggedThroughModel" "kept" "[I" ∈ wsX5_keep := by decide +kernel
set_option maxRecDepth 20000 in
theorem hinX5_keep_X5 : ∀ w ∈ u_ws RX5 TX5 37, w ∈ wsX5_keep := fun w h => List.mem_cons_of_mem _ (List.mem_append_right _ h)
set_option maxRecDepth 20000 in
set_option maxHeartbeats 4000000 in
theorem k_X5_keep {l : Launch} {D : va_G} {cI cZ : ClassId} {q : Nat} {ad : Nat → Nat} (a1 : Int32)  (S : zS) (r : Int32 × zS) (h : f_X5_keep a1 S = some r) : zI l yX5_keep wsX5_keep (zRm 1 25) D (zty cI cZ) zNw (wM cI cZ q ad) [.ref q, .int a1] S r := by
  refine zI_of (cc := cX5_keep) (maxL := 3) (ty := .int) (by decide +kernel) rfl (Nat.le_of_ble_eq_true rfl) zNw_ok (fun E hE1 hE2 C0 hR => ?_)
  subst hE1; subst hE2
  replace C0 : zCx E (zRm 1 25) cX5_keep 3 RX5 wsX5_keep (zty cI cZ) zNw := C0
  show zV E (wM cI cZ q ad) 3 S 0 [(0, .ref q), (1, .int a1)] []
  delta f_X5_keep at h
  refine zV_aload_n (n := 1) C0 0 dX5_keep_0 rfl rfl ?_
  refine zV_iconst (n := 2) (v := (0 : Int32)) C0 dX5_keep_1 rfl rfl ?_
  refine zV_put (n := 5) (ref := RX5) C0 hinX5_keep_X5 0 rfl rfl 0 (Nat.le_of_ble_eq_true rfl) mX5_keep_0 rfl tyX5 tyX5_ok nmX5 rfl (tyX5_ok 0 (Nat.le_of_ble_eq_true rfl)) rfl rfl (Nat.le_of_ble_eq_true rfl) (upd S.1 0 (0 : Int32), S.2) (wM_f0 cI cZ q ad S (0 : Int32)) dX5_keep_2 rfl ?_
  refine zV_topS (fun S_1 eS_1 => ?_)
  replace h := zlet_of eS_1 h
  clear eS_1
  refine zV_iload_n (n := 6) C0 1 dX5_keep_5 rfl rfl ?_
  refine zV_i2l (n := 7) C0 dX5_keep_6  rfl ?_
  refine zV_lconst (n := 8) (v := (0 : Int64)) C0 dX5_keep_7 rfl rfl ?_
  refine zV_lconst (n := 9) (v := (1 : Int64)) C0 dX5_keep_8 rfl rfl ?_
  obtain ⟨r_3, hc_2, h⟩ := ob_of h
  refine zV_callS0 (n := 12) (st := []) (As := [.long a1.toInt64, .long (0 : Int64), .long (1 : Int64)]) C0 (k_X5_in a1.toInt64 (0 : Int64) (1 : Int64) _ hc_2) gX5_keep_X5_in rfl (hd_X5_in) rfl ⟨rfl, rfl⟩ ⟨Nat.le_of_ble_eq_true rfl, Nat.le_of_ble_eq_true rfl⟩ rfl (Nat.le_of_ble_eq_true rfl) dX5_keep_9 rfl ?_
  refine zV_if_ne (tgt := 17) (n := 15) C0 dX5_keep_12 rfl rfl (fun hb_14 => ?_) (fun hb_14 => ?_)
  · replace h := if_f hb_14 h
    refine zV_aload_n (n := 18) C0 0 dX5_keep_17 rfl rfl ?_
    refine zV_get (n := 21) (ref := RX5) C0 hinX5_keep_X5 0 rfl rfl 20 (Nat.le_of_ble_eq_true rfl) mX5_keep_1 rfl rfl dX5_keep_18 rfl ?_
    refine zV_iload_n (n := 22) C0 1 dX5_keep_21 rfl rfl ?_
    refine zV_iconst (n := 23) (v := (1 : Int32)) C0 dX5_keep_22 rfl rfl ?_
    obtain ⟨hg_4, h⟩ := gd_of h
    refine zV_zast (n := 24) C0 11 1 rfl rfl hg_4 (S_1.1, S_1.2.1, zur S_1.2.2 20 (upd (S_1.2.2 20) (a1).toNatClampNeg (vp_nar .boolean (1 : Int32)))) (wM_a20 cI cZ q ad S_1 (upd (S_1.2.2 20) (a1).toNatClampNeg (vp_nar .boolean (1 : Int32)))) dX5_keep_23 rfl ?_
    refine zV_topS (fun S_5 eS_5 => ?_)
    replace h := zlet_of eS_5 h
    clear eS_5
    refine zV_iconst (n := 25) (v := (0 : Int32)) C0 dX5_keep_24 rfl rfl ?_
    refine zV_istore_n (n := 26) C0 [(2, .int (0 : Int32)), (0, .ref q), (1, .int a1)] dX5_keep_25 rfl rfl (Nat.le_of_ble_eq_true rfl) rfl ?_
    refine zV_sub [1, 2, 0] rfl ?_
    refine zfix_ind (fun e => zV E (wM cI cZ q ad) 3 e.2 26 [(0, .ref q), (1, .int a1), (2, .int e.1)] []) (fun rec_8 hrec_8 e h => ?_) zN ((0 : Int32), S_5) h
    obtain ⟨x2_6, S_7⟩ := e
    have Jrec_8 : ∀ (x2_6 : Int32) (S_7 : zS), rec_8 (x2_6, S_7) = some r → zV E (wM cI cZ q ad) 3 S_7 26 [(0, .ref q), (1, .int a1), (2, .int x2_6)] [] := fun x2_6 S_7 h => hrec_8 _ h
    clear hrec_8
    dsimp only [F_X5_keep_26] at h
    show zV E (wM cI cZ q ad) 3 S_7 26 [(0, .ref q), (1, .int a1), (2, .int x2_6)] []
    refine zV_iload_n (n := 27) C0 2 dX5_keep_26 rfl rfl ?_
    refine zV_bipush (n := 29) (v := (22 : Int32)) C0 dX5_keep_27 rfl rfl ?_
    refine zV_icmp_ge (tgt := 55) (n := 32) C0 dX5_keep_29 rfl rfl (fun hb_13 => ?_) (fun hb_13 => ?_)
    · replace h := if_t hb_13 h
      refine zV_aload_n (n := 56) C0 0 dX5_keep_55 rfl rfl ?_
      refine zV_get (n := 59) (ref := RX5) C0 hinX5_keep_X5 0 rfl rfl 14 (Nat.le_of_ble_eq_true rfl) mX5_keep_2 rfl rfl dX5_keep_56 rfl ?_
      refine zV_bipush (n := 61) (v := (21 : Int32)) C0 dX5_keep_59 rfl rfl ?_
      obtain ⟨hg_9, h⟩ := gd_of h
      refine zV_iald (n := 62) C0 6 0 rfl rfl hg_9 dX5_keep_61 rfl ?_
      exact zretI hR h rfl dX5_keep_62
    · replace h := if_f hb_13 h
      refine zV_aload_n (n := 33) C0 0 dX5_keep_32 rfl rfl ?_
      refine zV_get (n := 36) (ref := RX5) C0 hinX5_keep_X5 0 rfl rfl 19 (Nat.le_of_ble_eq_true rfl) mX5_keep_3 rfl rfl dX5_keep_33 rfl ?_
      refine zV_bipush (n := 38) (v := (22 : Int32)) C0 dX5_keep_36 rfl rfl ?_
      refine zV_iload_n (n := 39) C0 1 dX5_keep_38 rfl rfl ?_
      refine zV_imul (n := 40) C0 dX5_keep_39  rfl ?_
      refine zV_iload_n (n := 41) C0 2 dX5_keep_40 rfl rfl ?_
      refine zV_iadd (n := 42) C0 dX5_keep_41  rfl ?_
      refine zV_aload_n (n := 43) C0 0 dX5_keep_42 rfl rfl ?_
      refine zV_get (n := 46) (ref := RX5) C0 hinX5_keep_X5 0 rfl rfl 14 (Nat.le_of_ble_eq_true rfl) mX5_keep_2 rfl rfl dX5_keep_43 rfl ?_
      refine zV_iload_n (n := 47) C0 2 dX5_keep_46 rfl rfl ?_
      obtain ⟨hg_10, h⟩ := gd_of h
      refine zV_iald (n := 48) C0 6 0 rfl rfl hg_10 dX5_keep_47 rfl ?_
      obtain ⟨hg_11, h⟩ := gd_of h
      refine zV_iast (n := 49) C0 10 0 rfl rfl hg_11 (S_7.1, S_7.2.1, zur S_7.2.2 19 (upd (S_7.2.2 19) ((((22 : Int32) * a1) + x2_6)).toNatClampNeg (S_7.2.2 14 (x2_6).toNatClampNeg))) (wM_a19 cI cZ q ad S_7 (upd (S_7.2.2 19) ((((22 : Int32) * a1) + x2_6)).toNatClampNeg (S_7.2.2 14 (x2_6).toNatClampNeg))) dX5_keep_48 rfl ?_
      refine zV_topS (fun S_12 eS_12 => ?_)
      replace h := zlet_of eS_12 h
      clear eS_12
      refine zV_iinc (n := 52) C0 2 (v := (x2_6 + (1 : Int32))) [(2, .int (x2_6 + (1 : Int32))), (0, .ref q), (1, .int a1)] dX5_keep_49 rfl rfl rfl (Nat.le_of_ble_eq_true rfl) rfl ?_
      refine zV_goto (tgt := 26) C0 dX5_keep_52 rfl ?_
      refine zV_sub [1, 2, 0] rfl ?_
      exact Jrec_8 (x2_6 + (1 : Int32)) S_12 h
  · replace h := if_t hb_14 h
    refine zV_iconst (n := 16) (v := (-1 : Int32)) C0 dX5_keep_15 rfl rfl ?_
    exact zretI hR h rfl dX5_keep_16
set_option maxRecDepth 20000 in
theorem mX5_again_0 : Cond.fieldLink RX5 63 "LeggedThroughModel" "thrown" "I" ∈ wsX5_again := by decide +kernel
set_option maxRecDepth 20000 in
theorem mX5_again_1 : Cond.fieldLink RX5 44 "LeggedThroughModel" "isKept" "[Z" ∈ wsX5_again := by decide +kernel
set_option maxRecDepth 20000 in
theorem mX5_again_2 : Cond.fieldLink RX5 107 "LeggedThroughModel" "acts" "I" ∈ wsX5_again := by decide +kernel
set_option maxRecDepth 20000 in
theorem mX5_again_3 : Cond.fieldLink RX5 29 "LeggedThroughModel" "page" "[I" ∈ wsX5_again := by decide +kernel
set_option maxRecDepth 20000 in
theorem mX5_again_4 : Cond.fieldLink RX5 41 "LeggedThroughModel" "kept" "[I" ∈ wsX5_again := by decide +kernel
set_option maxRecDepth 20000 in
theorem hinX5_again_X5 : ∀ w ∈ u_ws RX5 TX5 37, w ∈ wsX5_again := fun w h => List.mem_cons_of_mem _ (List.mem_append_right _ h)
set_option maxRecDepth 20000 in
set_option maxHeartbeats 4000000 in
theorem k_X5_again {l : Launch} {D : va_G} {cI cZ : ClassId} {q : Nat} {ad : Nat → Nat} (a1 : Int32)  (S : zS) (r : Int32 × zS) (h : f_X5_again a1 S = some r) : zI l yX5_again wsX5_again (zRm 1 25) D (zty cI cZ) zNw (wM cI cZ q ad) [.ref q, .int a1] S r := by
  refine zI_of (cc := cX5_again) (maxL := 3) (ty := .int) (by decide +kernel) rfl (Nat.le_of_ble_eq_true rfl) zNw_ok (fun E hE1 hE2 C0 hR => ?_)
  subst hE1; subst hE2
  replace C0 : zCx E (zRm 1 25) cX5_again 3 RX5 wsX5_again (zty cI cZ) zNw := C0
  show zV E (wM cI cZ q ad) 3 S 0 [(0, .ref q), (1, .int a1)] []
  delta f_X5_again at h
  refine zV_aload_n (n := 1) C0 0 dX5_again_0 rfl rfl ?_
  refine zV_iconst (n := 2) (v := (0 : Int32)) C0 dX5_again_1 rfl rfl ?_
  refine zV_put (n := 5) (ref := RX5) C0 hinX5_again_X5 0 rfl rfl 0 (Nat.le_of_ble_eq_true rfl) mX5_again_0 rfl tyX5 tyX5_ok nmX5 rfl (tyX5_ok 0 (Nat.le_of_ble_eq_true rfl)) rfl rfl (Nat.le_of_ble_eq_true rfl) (upd S.1 0 (0 : Int32), S.2) (wM_f0 cI cZ q ad S (0 : Int32)) dX5_again_2 rfl ?_
  refine zV_topS (fun S_1 eS_1 => ?_)
  replace h := zlet_of eS_1 h
  clear eS_1
  refine zV_iload_n (n := 6) C0 1 dX5_again_5 rfl rfl ?_
  refine zV_i2l (n := 7) C0 dX5_again_6  rfl ?_
  refine zV_lconst (n := 8) (v := (0 : Int64)) C0 dX5_again_7 rfl rfl ?_
  refine zV_lconst (n := 9) (v := (1 : Int64)) C0 dX5_again_8 rfl rfl ?_
  obtain ⟨r_3, hc_2, h⟩ := ob_of h
  refine zV_callS0 (n := 12) (st := []) (As := [.long a1.toInt64, .long (0 : Int64), .long (1 : Int64)]) C0 (k_X5_in a1.toInt64 (0 : Int64) (1 : Int64) _ hc_2) gX5_again_X5_in rfl (hd_X5_in) rfl ⟨rfl, rfl⟩ ⟨Nat.le_of_ble_eq_true rfl, Nat.le_of_ble_eq_true rfl⟩ rfl (Nat.le_of_ble_eq_true rfl) dX5_again_9 rfl ?_
  refine zV_if_ne (tgt := 17) (n := 15) C0 dX5_again_12 rfl rfl (fun hb_15 => ?_) (fun hb_15 => ?_)
  · replace h := if_f hb_15 h
    refine zV_aload_n (n := 18) C0 0 dX5_again_17 rfl rfl ?_
    refine zV_get (n := 21) (ref := RX5) C0 hinX5_again_X5 0 rfl rfl 20 (Nat.le_of_ble_eq_true rfl) mX5_again_1 rfl rfl dX5_again_18 rfl ?_
    refine zV_iload_n (n := 22) C0 1 dX5_again_21 rfl rfl ?_
    obtain ⟨hg_4, h⟩ := gd_of h
    refine zV_zald (n := 23) C0 11 1 rfl rfl hg_4 dX5_again_22 rfl ?_
    refine zV_if_ne (tgt := 29) (n := 26) C0 dX5_again_23 rfl rfl (fun hb_14 => ?_) (fun hb_14 => ?_)
    · replace h := if_f hb_14 h
      refine zV_iconst (n := 30) (v := (0 : Int32)) C0 dX5_again_29 rfl rfl ?_
      refine zV_istore_n (n := 31) C0 [(2, .int (0 : Int32)), (0, .ref q), (1, .int a1)] dX5_again_30 rfl rfl (Nat.le_of_ble_eq_true rfl) rfl ?_
      refine zV_sub [1, 2, 0] rfl ?_
      refine zfix_ind (fun e => zV E (wM cI cZ q ad) 3 e.2 31 [(0, .ref q), (1, .int a1), (2, .int e.1)] []) (fun rec_7 hrec_7 e h => ?_) zN ((0 : Int32), S_1) h
      obtain ⟨x2_5, S_6⟩ := e
      have Jrec_7 : ∀ (x2_5 : Int32) (S_6 : zS), rec_7 (x2_5, S_6) = some r → zV E (wM cI cZ q ad) 3 S_6 31 [(0, .ref q), (1, .int a1), (2, .int x2_5)] [] := fun x2_5 S_6 h => hrec_7 _ h
      clear hrec_7
      dsimp only [F_X5_again_31] at h
      show zV E (wM cI cZ q ad) 3 S_6 31 [(0, .ref q), (1, .int a1), (2, .int x2_5)] []
      refine zV_iload_n (n := 32) C0 2 dX5_again_31 rfl rfl ?_
      refine zV_bipush (n := 34) (v := (22 : Int32)) C0 dX5_again_32 rfl rfl ?_
      refine zV_icmp_ge (tgt := 60) (n := 37) C0 dX5_again_34 rfl rfl (fun hb_13 => ?_) (fun hb_13 => ?_)
      · replace h := if_t hb_13 h
        refine zV_aload_n (n := 61) C0 0 dX5_again_60 rfl rfl ?_
        refine zV_iconst (n := 62) (v := (0 : Int32)) C0 dX5_again_61 rfl rfl ?_
        refine zV_put (n := 65) (ref := RX5) C0 hinX5_again_X5 0 rfl rfl 18 (Nat.le_of_ble_eq_true rfl) mX5_again_2 rfl tyX5 tyX5_ok nmX5 rfl (tyX5_ok 18 (Nat.le_of_ble_eq_true rfl)) rfl rfl (Nat.le_of_ble_eq_true rfl) (upd S_6.1 18 (0 : Int32), S_6.2) (wM_f18 cI cZ q ad S_6 (0 : Int32)) dX5_again_62 rfl ?_
        refine zV_topS (fun S_8 eS_8 => ?_)
        replace h := zlet_of eS_8 h
        clear eS_8
        refine zV_aload_n (n := 66) C0 0 dX5_again_65 rfl rfl ?_
        refine zV_get (n := 69) (ref := RX5) C0 hinX5_again_X5 0 rfl rfl 14 (Nat.le_of_ble_eq_true rfl) mX5_again_3 rfl rfl dX5_again_66 rfl ?_
        refine zV_bipush (n := 71) (v := (21 : Int32)) C0 dX5_again_69 rfl rfl ?_
        obtain ⟨hg_9, h⟩ := gd_of h
        refine zV_iald (n := 72) C0 6 0 rfl rfl hg_9 dX5_again_71 rfl ?_
        exact zretI hR h rfl dX5_again_72
      · replace h := if_f hb_13 h
        refine zV_aload_n (n := 38) C0 0 dX5_again_37 rfl rfl ?_
        refine zV_get (n := 41) (ref := RX5) C0 hinX5_again_X5 0 rfl rfl 14 (Nat.le_of_ble_eq_true rfl) mX5_again_3 rfl rfl dX5_again_38 rfl ?_
        refine zV_iload_n (n := 42) C0 2 dX5_again_41 rfl rfl ?_
        refine zV_aload_n (n := 43) C0 0 dX5_again_42 rfl rfl ?_
        refine zV_get (n := 46) (ref := RX5) C0 hinX5_again_X5 0 rfl rfl 19 (Nat.le_of_ble_eq_true rfl) mX5_again_4 rfl rfl dX5_again_43 rfl ?_
        refine zV_bipush (n := 48) (v := (22 : Int32)) C0 dX5_again_46 rfl rfl ?_
        refine zV_iload_n (n := 49) C0 1 dX5_again_48 rfl rfl ?_
        refine zV_imul (n := 50) C0 dX5_again_49  rfl ?_
        refine zV_iload_n (n := 51) C0 2 dX5_again_50 rfl rfl ?_
        refine zV_iadd (n := 52) C0 dX5_again_51  rfl ?_
        obtain ⟨hg_10, h⟩ := gd_of h
        refine zV_iald (n := 53) C0 10 0 rfl rfl hg_10 dX5_again_52 rfl ?_
        obtain ⟨hg_11, h⟩ := gd_of h
        refine zV_iast (n := 54) C0 6 0 rfl rfl hg_11 (S_6.1, S_6.2.1, zur S_6.2.2 14 (upd (S_6.2.2 14) (x2_5).toNatClampNeg (S_6.2.2 19 ((((22 : Int32) * a1) + x2_5)).toNatClampNeg))) (wM_a14 cI cZ q ad S_6 (upd (S_6.2.2 14) (x2_5).toNatClampNeg (S_6.2.2 19 ((((22 : Int32) * a1) + x2_5)).toNatClampNeg))) dX5_again_53 rfl ?_
        refine zV_topS (fun S_12 eS_12 => ?_)
        replace h := zlet_of eS_12 h
        clear eS_12
        refine zV_iinc (n := 57) C0 2 (v := (x2_5 + (1 : Int32))) [(2, .int (x2_5 + (1 : Int32))), (0, .ref q), (1, .int a1)] dX5_again_54 rfl rfl rfl (Nat.le_of_ble_eq_true rfl) rfl ?_
        refine zV_goto (tgt := 31) C0 dX5_again_57 rfl ?_
        refine zV_sub [1, 2, 0] rfl ?_
        exact Jrec_7 (x2_5 + (1 : Int32)) S_12 h
    · replace h := if_t hb_14 h
      refine zV_bipush (n := 28) (v := (-3 : Int32)) C0 dX5_again_26 rfl rfl ?_
      exact zretI hR h rfl dX5_again_28
  · replace h := if_t hb_15 h
    refine zV_iconst (n := 16) (v := (-1 : Int32)) C0 dX5_again_15 rfl rfl ?_
    exact zretI hR h rfl dX5_again_16
