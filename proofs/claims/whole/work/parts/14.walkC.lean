/-! ===== the walks, printed by gen/walk.py ===== -/
set_option maxRecDepth 20000 in
theorem mX4_leastPair_0 : Cond.fieldLink RX4 19 "LeggedThrough" "plan" "LLeggedThrough$Plan;" ∈ wsX4_leastPair := by decide +kernel
set_option maxRecDepth 20000 in
theorem mX4_leastPair_1 : Cond.fieldLink RX4 26 "LeggedThrough" "state" "LLeggedThrough$State;" ∈ wsX4_leastPair := by decide +kernel
set_option maxRecDepth 20000 in
theorem mX4_leastPair_2 : Cond.methodLink RX4 258 Lib.Math.min.name ∈ wsX4_leastPair := by decide +kernel
set_option maxRecDepth 20000 in
theorem mX4_leastPair_3 : Cond.static Lib.Math.min.name ∈ wsX4_leastPair := by decide +kernel
set_option maxRecDepth 20000 in
theorem mX4_leastPair_4 : Cond.initialized "java/lang/Math" ∈ wsX4_leastPair := by decide +kernel
set_option maxRecDepth 20000 in
theorem mX4_leastPair_5 : Cond.code Lib.Math.min.name Lib.Math.min.code 2 (some .int) ∈ wsX4_leastPair := by decide +kernel
set_option maxRecDepth 20000 in
theorem hinX4_leastPair_X1 : ∀ w ∈ u_ws RX1 TX1 5, w ∈ wsX4_leastPair := fun w h => List.mem_cons_of_mem _ (List.mem_append_left _ (List.mem_append_right _ h))
set_option maxRecDepth 20000 in
theorem hinX4_leastPair_X2 : ∀ w ∈ u_ws RX2 TX2 4, w ∈ wsX4_leastPair := fun w h => List.mem_cons_of_mem _ (List.mem_append_right _ h)
set_option maxRecDepth 20000 in
theorem hinX4_leastPair_X4 : ∀ w ∈ u_ws RX4 TX4 10, w ∈ wsX4_leastPair := fun w h => List.mem_cons_of_mem _ (List.mem_append_left _ (List.mem_append_left _ (List.mem_append_right _ h)))
set_option maxRecDepth 20000 in
set_option maxHeartbeats 4000000 in
theorem k_X4_leastPair {l : Launch} {D : va_G} {cI cZ : ClassId} {q : Nat} {ad : Nat → Nat} (a1 : Int32)  (S : zS) (r : Int32) (h : f_X4_leastPair a1 S = some r) : zI l yX4_leastPair wsX4_leastPair (zRm 3 80) D (zty cI cZ) zNw (wC cI q ad) [.ref q, .int a1] S (r, S) := by
  refine zI_of (cc := cX4_leastPair) (maxL := 7) (ty := .int) (by decide +kernel) rfl (Nat.le_of_ble_eq_true rfl) zNw_ok (fun E hE1 hE2 C0 hR => ?_)
  subst hE1; subst hE2
  replace C0 : zCx E (zRm 3 80) cX4_leastPair 7 RX4 wsX4_leastPair (zty cI cZ) zNw := C0
  show zV E (wC cI q ad) 7 S 0 [(0, .ref q), (1, .int a1)] []
  delta f_X4_leastPair at h
  refine zV_bipush (n := 2) (v := (-9 : Int32)) C0 dX4_leastPair_0 rfl rfl ?_
  refine zV_istore_n (n := 3) C0 [(2, .int (-9 : Int32)), (0, .ref q), (1, .int a1)] dX4_leastPair_2 rfl rfl (Nat.le_of_ble_eq_true rfl) rfl ?_
  refine zV_iconst (n := 4) (v := (0 : Int32)) C0 dX4_leastPair_3 rfl rfl ?_
  refine zV_istore_n (n := 5) C0 [(3, .int (0 : Int32)), (2, .int (-9 : Int32)), (0, .ref q), (1, .int a1)] dX4_leastPair_4 rfl rfl (Nat.le_of_ble_eq_true rfl) rfl ?_
  refine zV_sub [2, 3, 1, 0] rfl ?_
  refine zfix_ind (fun e => zV E (wC cI q ad) 7 S 5 [(0, .ref q), (1, .int a1), (2, .int e.1), (3, .int e.2)] []) (fun rec_3 hrec_3 e h => ?_) zN ((-9 : Int32), (0 : Int32)) h
  obtain ⟨x2_1, x3_2⟩ := e
  have Jrec_3 : ∀ (x2_1 : Int32) (x3_2 : Int32), rec_3 (x2_1, x3_2) = some r → zV E (wC cI q ad) 7 S 5 [(0, .ref q), (1, .int a1), (2, .int x2_1), (3, .int x3_2)] [] := fun x2_1 x3_2 h => hrec_3 _ h
  clear hrec_3
  dsimp only [F_X4_leastPair_5] at h
  show zV E (wC cI q ad) 7 S 5 [(0, .ref q), (1, .int a1), (2, .int x2_1), (3, .int x3_2)] []
  refine zV_iload_n (n := 6) C0 3 dX4_leastPair_5 rfl rfl ?_
  refine zV_aload_n (n := 7) C0 0 dX4_leastPair_6 rfl rfl ?_
  refine zV_get (n := 10) (ref := RX4) C0 hinX4_leastPair_X4 0 rfl rfl 1 (Nat.le_of_ble_eq_true rfl) mX4_leastPair_0 rfl rfl dX4_leastPair_7 rfl ?_
  refine zV_getN (n := 13) (ref := RX1) C0 hinX4_leastPair_X1 2 rfl rfl 1 (Nat.le_of_ble_eq_true rfl) (fun hN => va_Nw.use rfl (hN _ (List.mem_of_getElem? (i := 2) rfl))) rfl rfl dX4_leastPair_10 rfl ?_
  refine zV_icmp_ge (tgt := 113) (n := 16) C0 dX4_leastPair_13 rfl rfl (fun hb_24 => ?_) (fun hb_24 => ?_)
  · replace h := if_t hb_24 h
    refine zV_iload_n (n := 114) C0 2 dX4_leastPair_113 rfl rfl ?_
    exact zretI1 hR h rfl dX4_leastPair_114
  · replace h := if_f hb_24 h
    refine zV_iload_n (n := 17) C0 3 dX4_leastPair_16 rfl rfl ?_
    refine zV_iconst (n := 18) (v := (1 : Int32)) C0 dX4_leastPair_17 rfl rfl ?_
    refine zV_iadd (n := 19) C0 dX4_leastPair_18  rfl ?_
    refine zV_topi (fun x4_4 ex4_4 => ?_)
    replace h := zlet_of ex4_4 h
    clear ex4_4
    refine zV_istore (n := 21) C0 [(4, .int x4_4), (0, .ref q), (1, .int a1), (2, .int x2_1), (3, .int x3_2)] dX4_leastPair_19 rfl (Nat.le_of_ble_eq_true rfl) rfl ?_
    refine zV_sub [1, 2, 3, 4, 0] rfl ?_
    refine zfix_ind (fun e => zV E (wC cI q ad) 7 S 21 [(0, .ref q), (1, .int a1), (2, .int e.1), (3, .int x3_2), (4, .int e.2)] []) (fun rec_7 hrec_7 e h => ?_) zN (x2_1, x4_4) h
    obtain ⟨x2_5, x4_6⟩ := e
    have Jrec_7 : ∀ (x2_5 : Int32) (x4_6 : Int32), rec_7 (x2_5, x4_6) = some r → zV E (wC cI q ad) 7 S 21 [(0, .ref q), (1, .int a1), (2, .int x2_5), (3, .int x3_2), (4, .int x4_6)] [] := fun x2_5 x4_6 h => hrec_7 _ h
    clear hrec_7
    dsimp only [F_X4_leastPair_21] at h
    show zV E (wC cI q ad) 7 S 21 [(0, .ref q), (1, .int a1), (2, .int x2_5), (3, .int x3_2), (4, .int x4_6)] []
    refine zV_iload (n := 23) C0 4 dX4_leastPair_21 rfl rfl ?_
    refine zV_aload_n (n := 24) C0 0 dX4_leastPair_23 rfl rfl ?_
    refine zV_get (n := 27) (ref := RX4) C0 hinX4_leastPair_X4 0 rfl rfl 1 (Nat.le_of_ble_eq_true rfl) mX4_leastPair_0 rfl rfl dX4_leastPair_24 rfl ?_
    refine zV_getN (n := 30) (ref := RX1) C0 hinX4_leastPair_X1 2 rfl rfl 1 (Nat.le_of_ble_eq_true rfl) (fun hN => va_Nw.use rfl (hN _ (List.mem_of_getElem? (i := 2) rfl))) rfl rfl dX4_leastPair_27 rfl ?_
    refine zV_icmp_ge (tgt := 107) (n := 33) C0 dX4_leastPair_30 rfl rfl (fun hb_23 => ?_) (fun hb_23 => ?_)
    · replace h := if_t hb_23 h
      refine zV_iinc (n := 110) C0 3 (v := (x3_2 + (1 : Int32))) [(3, .int (x3_2 + (1 : Int32))), (0, .ref q), (1, .int a1), (2, .int x2_5), (4, .int x4_6)] dX4_leastPair_107 rfl rfl rfl (Nat.le_of_ble_eq_true rfl) rfl ?_
      refine zV_goto (tgt := 5) C0 dX4_leastPair_110 rfl ?_
      refine zV_sub [1, 2, 3, 0] rfl ?_
      exact Jrec_3 x2_5 (x3_2 + (1 : Int32)) h
    · replace h := if_f hb_23 h
      refine zV_iload_n (n := 34) C0 1 dX4_leastPair_33 rfl rfl ?_
      refine zV_iload_n (n := 35) C0 3 dX4_leastPair_34 rfl rfl ?_
      obtain ⟨r_9, hc_8, h⟩ := ob_of h
      refine zV_callS0 (n := 38) (st := []) (As := [.int a1, .int x3_2]) C0 (k_X4_isIn a1 x3_2 _ hc_8) gX4_leastPair_X4_isIn rfl (hd_X4_isIn) rfl ⟨rfl, rfl⟩ ⟨Nat.le_of_ble_eq_true rfl, Nat.le_of_ble_eq_true rfl⟩ rfl (Nat.le_of_ble_eq_true rfl) dX4_leastPair_35 rfl ?_
      refine zjoin_of h (fun k_11 hk_11 h => ?_)
      have Jk_11 : ∀ (x2_10 : Int32), k_11 (x2_10) = some r → zV E (wC cI q ad) 7 S 101 [(0, .ref q), (1, .int a1), (2, .int x2_10), (3, .int x3_2), (4, .int x4_6)] [] := by
        intro x2_10 h
        replace h := hk_11 _ h
        refine zV_iinc (n := 104) C0 4 (v := (x4_6 + (1 : Int32))) [(4, .int (x4_6 + (1 : Int32))), (0, .ref q), (1, .int a1), (2, .int x2_10), (3, .int x3_2)] dX4_leastPair_101 rfl rfl rfl (Nat.le_of_ble_eq_true rfl) rfl ?_
        refine zV_goto (tgt := 21) C0 dX4_leastPair_104 rfl ?_
        refine zV_sub [1, 2, 3, 4, 0] rfl ?_
        exact Jrec_7 x2_10 (x4_6 + (1 : Int32)) h
      clear hk_11
      refine zV_if_eq (tgt := 101) (n := 41) C0 dX4_leastPair_38 rfl rfl (fun hb_22 => ?_) (fun hb_22 => ?_)
      · replace h := if_t hb_22 h
        exact Jk_11 x2_5 h
      · replace h := if_f hb_22 h
        refine zV_iload_n (n := 42) C0 1 dX4_leastPair_41 rfl rfl ?_
        refine zV_iload (n := 44) C0 4 dX4_leastPair_42 rfl rfl ?_
        obtain ⟨r_13, hc_12, h⟩ := ob_of h
        refine zV_callS0 (n := 47) (st := []) (As := [.int a1, .int x4_6]) C0 (k_X4_isIn a1 x4_6 _ hc_12) gX4_leastPair_X4_isIn rfl (hd_X4_isIn) rfl ⟨rfl, rfl⟩ ⟨Nat.le_of_ble_eq_true rfl, Nat.le_of_ble_eq_true rfl⟩ rfl (Nat.le_of_ble_eq_true rfl) dX4_leastPair_44 rfl ?_
        refine zV_if_eq (tgt := 101) (n := 50) C0 dX4_leastPair_47 rfl rfl (fun hb_21 => ?_) (fun hb_21 => ?_)
        · replace h := if_t hb_21 h
          exact Jk_11 x2_5 h
        · replace h := if_f hb_21 h
          refine zV_aload_n (n := 51) C0 0 dX4_leastPair_50 rfl rfl ?_
          refine zV_iload_n (n := 52) C0 3 dX4_leastPair_51 rfl rfl ?_
          refine zV_iload (n := 54) C0 4 dX4_leastPair_52 rfl rfl ?_
          refine zV_iconst (n := 55) (v := (0 : Int32)) C0 dX4_leastPair_54 rfl rfl ?_
          refine zV_iconst (n := 56) (v := (0 : Int32)) C0 dX4_leastPair_55 rfl rfl ?_
          refine zV_aload_n (n := 57) C0 0 dX4_leastPair_56 rfl rfl ?_
          refine zV_get (n := 60) (ref := RX4) C0 hinX4_leastPair_X4 0 rfl rfl 2 (Nat.le_of_ble_eq_true rfl) mX4_leastPair_1 rfl rfl dX4_leastPair_57 rfl ?_
          refine zV_getN (n := 63) (ref := RX2) C0 hinX4_leastPair_X2 3 rfl rfl 1 (Nat.le_of_ble_eq_true rfl) (fun hN => va_Nw.use rfl (hN _ (List.mem_of_getElem? (i := 4) rfl))) rfl rfl dX4_leastPair_60 rfl ?_
          obtain ⟨r_15, hc_14, h⟩ := ob_of h
          refine zV_callVI (n := 66) (st := []) (As := [.int x3_2, .int x4_6, .int (0 : Int32), .int (0 : Int32), .int (S.1 16)]) C0 (k_X4_pairMinutes x3_2 x4_6 (0 : Int32) (0 : Int32) (S.1 16) S _ hc_14) gX4_leastPair_X4_pairMinutes rfl (hd_X4_pairMinutes) rfl ⟨rfl, rfl⟩ ⟨Nat.le_of_ble_eq_true rfl, Nat.le_of_ble_eq_true rfl⟩ 0 rfl rfl rfl (Nat.le_of_ble_eq_true rfl) dX4_leastPair_63 rfl ?_
          refine zV_istore (n := 68) C0 [(5, .int r_15), (0, .ref q), (1, .int a1), (2, .int x2_5), (3, .int x3_2), (4, .int x4_6)] dX4_leastPair_66 rfl (Nat.le_of_ble_eq_true rfl) rfl ?_
          refine zV_iload (n := 70) C0 0 dX4_leastPair_68 rfl rfl ?_
          refine zV_bipush (n := 72) (v := (100 : Int32)) C0 dX4_leastPair_70 rfl rfl ?_
          refine zV_imul (n := 73) C0 dX4_leastPair_72  rfl ?_
          refine zV_bipush (n := 75) (v := (10 : Int32)) C0 dX4_leastPair_73 rfl rfl ?_
          refine zV_iload_n (n := 76) C0 4 dX4_leastPair_75 rfl rfl ?_
          refine zV_imul (n := 77) C0 dX4_leastPair_76  rfl ?_
          refine zV_iadd (n := 78) C0 dX4_leastPair_77  rfl ?_
          refine zV_iload (n := 80) C0 5 dX4_leastPair_78 rfl rfl ?_
          refine zV_iadd (n := 81) C0 dX4_leastPair_80  rfl ?_
          refine zV_topi (fun x6_16 ex6_16 => ?_)
          replace h := zlet_of ex6_16 h
          clear ex6_16
          refine zV_istore (n := 83) C0 [(6, .int x6_16), (5, .int r_15), (0, .ref q), (1, .int a1), (2, .int x2_5), (3, .int x3_2), (4, .int x4_6)] dX4_leastPair_81 rfl (Nat.le_of_ble_eq_true rfl) rfl ?_
          refine zV_iload_n (n := 84) C0 4 dX4_leastPair_83 rfl rfl ?_
          refine zV_bipush (n := 86) (v := (-9 : Int32)) C0 dX4_leastPair_84 rfl rfl ?_
          refine zjoin_of h (fun k_18 hk_18 h => ?_)
          have Jk_18 : ∀ (s_17 : Int32), k_18 (s_17) = some r → zV E (wC cI q ad) 7 S 100 [(0, .ref q), (1, .int a1), (3, .int x3_2), (4, .int x4_6)] [.int s_17] := by
            intro s_17 h
            replace h := hk_18 _ h
            refine zV_istore_n (n := 101) C0 [(2, .int s_17), (0, .ref q), (1, .int a1), (3, .int x3_2), (4, .int x4_6)] dX4_leastPair_100 rfl rfl (Nat.le_of_ble_eq_true rfl) rfl ?_
            refine zV_sub [1, 2, 0, 3, 4] rfl ?_
            exact Jk_11 s_17 h
          clear hk_18
          refine zV_icmp_ne (tgt := 94) (n := 89) C0 dX4_leastPair_86 rfl rfl (fun hb_20 => ?_) (fun hb_20 => ?_)
          · replace h := if_f hb_20 h
            refine zV_iload_n (n := 95) C0 4 dX4_leastPair_94 rfl rfl ?_
            refine zV_iload (n := 97) C0 0 dX4_leastPair_95 rfl rfl ?_
            refine zV_mmin (n := 100) C0 dX4_leastPair_97 mX4_leastPair_2 mX4_leastPair_3 mX4_leastPair_4 mX4_leastPair_5 (Nat.le_of_ble_eq_true rfl) (Nat.le_of_ble_eq_true rfl) rfl ?_
            refine zV_topi (fun t_19 et_19 => ?_)
            replace h := zlet_of et_19 h
            clear et_19
            refine zV_sub [2, 3, 5, 6] rfl ?_
            exact Jk_18 t_19 h
          · replace h := if_t hb_20 h
            refine zV_iload (n := 91) C0 0 dX4_leastPair_89 rfl rfl ?_
            refine zV_goto (tgt := 100) C0 dX4_leastPair_91 rfl ?_
            refine zV_sub [2, 3, 5, 6] rfl ?_
            exact Jk_18 x6_16 h
set_option maxRecDepth 20000 in
theorem mX4_best_0 : Cond.fieldLink RX4 19 "LeggedThrough" "plan" "LLeggedThrough$Plan;" ∈ wsX4_best := by decide +kernel
set_option maxRecDepth 20000 in
theorem hinX4_best_X4 : ∀ w ∈ u_ws RX4 TX4 10, w ∈ wsX4_best := fun w h => List.mem_cons_of_mem _ (List.mem_append_left _ (List.mem_append_left _ (List.mem_append_right _ h)))
set_option maxRecDepth 20000 in
set_option maxHeartbeats 4000000 in
theorem k_X4_best {l : Launch} {D : va_G} {cI cZ : ClassId} {q : Nat} {ad : Nat → Nat} (a1 : Int32) (a2 : Int32)  (S : zS) (r : Int32) (h : f_X4_best a1 a2 S = some r) : zI l yX4_best wsX4_best (zRm 4 106) D (zty cI cZ) zNw (wC cI q ad) [.ref q, .int a1, .int a2] S (r, S) := by
  refine zI_of (cc := cX4_best) (maxL := 4) (ty := .int) (by decide +kernel) rfl (Nat.le_of_ble_eq_true rfl) zNw_ok (fun E hE1 hE2 C0 hR => ?_)
  subst hE1; subst hE2
  replace C0 : zCx E (zRm 4 106) cX4_best 4 RX4 wsX4_best (zty cI cZ) zNw := C0
  show zV E (wC cI q ad) 4 S 0 [(0, .ref q), (1, .int a1), (2, .int a2)] []
  delta f_X4_best at h
  refine zV_aload_n (n := 1) C0 0 dX4_best_0 rfl rfl ?_
  refine zV_get (n := 4) (ref := RX4) C0 hinX4_best_X4 0 rfl rfl 1 (Nat.le_of_ble_eq_true rfl) mX4_best_0 rfl rfl dX4_best_1 rfl ?_
  refine zV_iload_n (n := 5) C0 1 dX4_best_4 rfl rfl ?_
  obtain ⟨r_2, hc_1, h⟩ := ob_of h
  refine zV_callVI (n := 8) (st := []) (As := [.int a1]) C0 (k_X1_hasBoat a1 S _ hc_1) gX4_best_X1_hasBoat rfl (hd_X1_hasBoat) rfl ⟨rfl, rfl⟩ ⟨Nat.le_of_ble_eq_true rfl, Nat.le_of_ble_eq_true rfl⟩ 2 rfl rfl rfl (Nat.le_of_ble_eq_true rfl) dX4_best_5 rfl ?_
  refine zV_if_ne (tgt := 13) (n := 11) C0 dX4_best_8 rfl rfl (fun hb_16 => ?_) (fun hb_16 => ?_)
  · replace h := if_f hb_16 h
    refine zV_iload_n (n := 14) C0 2 dX4_best_13 rfl rfl ?_
    refine zjoin_of h (fun k_3 hk_3 h => ?_)
    have Jk_3 : k_3 () = some r → zV E (wC cI q ad) 4 S 25 [(0, .ref q), (1, .int a1), (2, .int a2)] [] := by
      intro  h
      replace h := hk_3 _ h
      refine zV_aload_n (n := 26) C0 0 dX4_best_25 rfl rfl ?_
      refine zV_aload_n (n := 27) C0 0 dX4_best_26 rfl rfl ?_
      refine zV_get (n := 30) (ref := RX4) C0 hinX4_best_X4 0 rfl rfl 1 (Nat.le_of_ble_eq_true rfl) mX4_best_0 rfl rfl dX4_best_27 rfl ?_
      obtain ⟨r_5, hc_4, h⟩ := ob_of h
      refine zV_callVI (n := 33) (st := [.ref q]) (As := []) C0 (k_X1_allLeggers  S _ hc_4) gX4_best_X1_allLeggers rfl (hd_X1_allLeggers) rfl ⟨rfl, rfl⟩ ⟨Nat.le_of_ble_eq_true rfl, Nat.le_of_ble_eq_true rfl⟩ 2 rfl rfl rfl (Nat.le_of_ble_eq_true rfl) dX4_best_30 rfl ?_
      obtain ⟨r_7, hc_6, h⟩ := ob_of h
      refine zV_callVI (n := 36) (st := []) (As := [.int r_5]) C0 (k_X4_leastPair r_5 S _ hc_6) gX4_best_X4_leastPair rfl (hd_X4_leastPair) rfl ⟨rfl, rfl⟩ ⟨Nat.le_of_ble_eq_true rfl, Nat.le_of_ble_eq_true rfl⟩ 0 rfl rfl rfl (Nat.le_of_ble_eq_true rfl) dX4_best_33 rfl ?_
      refine zV_istore_n (n := 37) C0 [(3, .int r_7), (0, .ref q), (1, .int a1), (2, .int a2)] dX4_best_36 rfl rfl (Nat.le_of_ble_eq_true rfl) rfl ?_
      refine zV_iload_n (n := 38) C0 0 dX4_best_37 rfl rfl ?_
      refine zV_bipush (n := 40) (v := (-9 : Int32)) C0 dX4_best_38 rfl rfl ?_
      refine zV_icmp_ne (tgt := 46) (n := 43) C0 dX4_best_40 rfl rfl (fun hb_13 => ?_) (fun hb_13 => ?_)
      · replace h := if_f hb_13 h
        refine zV_iload_n (n := 47) C0 3 dX4_best_46 rfl rfl ?_
        refine zjoin_of h (fun k_9 hk_9 h => ?_)
        have Jk_9 : ∀ (s_8 : Int32), k_9 (s_8) = some r → zV E (wC cI q ad) 4 S 70 [] [.int s_8] := by
          intro s_8 h
          replace h := hk_9 _ h
          exact zretI1 hR h rfl dX4_best_70
        clear hk_9
        refine zV_if_ne (tgt := 57) (n := 50) C0 dX4_best_47 rfl rfl (fun hb_12 => ?_) (fun hb_12 => ?_)
        · replace h := if_f hb_12 h
          refine zV_iload_n (n := 58) C0 0 dX4_best_57 rfl rfl ?_
          refine zV_bipush (n := 60) (v := (100 : Int32)) C0 dX4_best_58 rfl rfl ?_
          refine zV_idiv (n := 61) C0 dX4_best_60 (by decide) rfl ?_
          refine zV_aload_n (n := 62) C0 1 dX4_best_61 rfl rfl ?_
          refine zV_get (n := 65) (ref := RX4) C0 hinX4_best_X4 0 rfl rfl 1 (Nat.le_of_ble_eq_true rfl) mX4_best_0 rfl rfl dX4_best_62 rfl ?_
          refine zV_iload_n (n := 66) C0 2 dX4_best_65 rfl rfl ?_
          obtain ⟨r_11, hc_10, h⟩ := ob_of h
          refine zV_callVI (n := 69) (st := [.int (r_7 / (100 : Int32))]) (As := [.int a1]) C0 (k_X1_loadOf a1 S _ hc_10) gX4_best_X1_loadOf rfl (hd_X1_loadOf) rfl ⟨rfl, rfl⟩ ⟨Nat.le_of_ble_eq_true rfl, Nat.le_of_ble_eq_true rfl⟩ 2 rfl rfl rfl (Nat.le_of_ble_eq_true rfl) dX4_best_66 rfl ?_
          refine zV_iadd (n := 70) C0 dX4_best_69  rfl ?_
          refine zV_sub [] rfl ?_
          exact Jk_9 ((r_7 / (100 : Int32)) + r_11) h
        · replace h := if_t hb_12 h
          refine zV_iload_n (n := 51) C0 0 dX4_best_50 rfl rfl ?_
          refine zV_bipush (n := 53) (v := (100 : Int32)) C0 dX4_best_51 rfl rfl ?_
          refine zV_irem (n := 54) C0 dX4_best_53 (by decide) rfl ?_
          refine zV_goto (tgt := 70) C0 dX4_best_54 rfl ?_
          refine zV_sub [] rfl ?_
          exact Jk_9 (zrem r_7 (100 : Int32)) h
      · replace h := if_t hb_13 h
        refine zV_bipush (n := 45) (v := (-9 : Int32)) C0 dX4_best_43 rfl rfl ?_
        exact zretI1 hR h rfl dX4_best_45
    clear hk_3
    refine zV_if_eq (tgt := 25) (n := 17) C0 dX4_best_14 rfl rfl (fun hb_15 => ?_) (fun hb_15 => ?_)
    · replace h := if_t hb_15 h
      exact Jk_3  h
    · replace h := if_f hb_15 h
      refine zV_iload_n (n := 18) C0 2 dX4_best_17 rfl rfl ?_
      refine zV_iconst (n := 19) (v := (1 : Int32)) C0 dX4_best_18 rfl rfl ?_
      refine zV_icmp_eq (tgt := 25) (n := 22) C0 dX4_best_19 rfl rfl (fun hb_14 => ?_) (fun hb_14 => ?_)
      · replace h := if_t hb_14 h
        exact Jk_3  h
      · replace h := if_f hb_14 h
        refine zV_bipush (n := 24) (v := (-2 : Int32)) C0 dX4_best_22 rfl rfl ?_
        exact zretI1 hR h rfl dX4_best_24
  · replace h := if_t hb_16 h
    refine zV_iconst (n := 12) (v := (-1 : Int32)) C0 dX4_best_11 rfl rfl ?_
    exact zretI1 hR h rfl dX4_best_12
set_option maxRecDepth 20000 in
theorem mX4_leastBegin_0 : Cond.constant RX4 261 (100000 : Int32) ∈ wsX4_leastBegin := by decide +kernel
set_option maxRecDepth 20000 in
theorem mX4_leastBegin_1 : Cond.fieldLink RX4 26 "LeggedThrough" "state" "LLeggedThrough$State;" ∈ wsX4_leastBegin := by decide +kernel
set_option maxRecDepth 20000 in
theorem mX4_leastBegin_2 : Cond.methodLink RX4 258 Lib.Math.min.name ∈ wsX4_leastBegin := by decide +kernel
set_option maxRecDepth 20000 in
theorem mX4_leastBegin_3 : Cond.static Lib.Math.min.name ∈ wsX4_leastBegin := by decide +kernel
set_option maxRecDepth 20000 in
theorem mX4_leastBegin_4 : Cond.initialized "java/lang/Math" ∈ wsX4_leastBegin := by decide +kernel
set_option maxRecDepth 20000 in
theorem mX4_leastBegin_5 : Cond.code Lib.Math.min.name Lib.Math.min.code 2 (some .int) ∈ wsX4_leastBegin := by decide +kernel
set_option maxRecDepth 20000 in
theorem hinX4_leastBegin_X2 : ∀ w ∈ u_ws RX2 TX2 4, w ∈ wsX4_leastBegin := fun w h => List.mem_cons_of_mem _ (List.mem_append_left _ (List.mem_append_right _ h))
set_option maxRecDepth 20000 in
theorem hinX4_leastBegin_X4 : ∀ w ∈ u_ws RX4 TX4 10, w ∈ wsX4_leastBegin := fun w h => List.mem_cons_of_mem _ (List.mem_append_left _ (List.mem_append_left _ (List.mem_append_right _ h)))
set_option maxRecDepth 20000 in
set_option maxHeartbeats 4000000 in
theorem k_X4_leastBegin {l : Launch} {D : va_G} {cI cZ : ClassId} {q : Nat} {ad : Nat → Nat} (a1 : Int32) (a2 : Int32)  (S : zS) (r : Int32) (h : f_X4_leastBegin a1 a2 S = some r) : zI l yX4_leastBegin wsX4_leastBegin (zRm 3 80) D (zty cI cZ) zNw (wC cI q ad) [.ref q, .int a1, .int a2] S (r, S) := by
  refine zI_of (cc := cX4_leastBegin) (maxL := 7) (ty := .int) (by decide +kernel) rfl (Nat.le_of_ble_eq_true rfl) zNw_ok (fun E hE1 hE2 C0 hR => ?_)
  subst hE1; subst hE2
  replace C0 : zCx E (zRm 3 80) cX4_leastBegin 7 RX4 wsX4_leastBegin (zty cI cZ) zNw := C0
  show zV E (wC cI q ad) 7 S 0 [(0, .ref q), (1, .int a1), (2, .int a2)] []
  delta f_X4_leastBegin at h
  refine zV_ldcw (n := 3) (v := (100000 : Int32)) C0 dX4_leastBegin_0 mX4_leastBegin_0 rfl ?_
  refine zV_istore_n (n := 4) C0 [(3, .int (100000 : Int32)), (0, .ref q), (1, .int a1), (2, .int a2)] dX4_leastBegin_3 rfl rfl (Nat.le_of_ble_eq_true rfl) rfl ?_
  refine zV_iconst (n := 5) (v := (0 : Int32)) C0 dX4_leastBegin_4 rfl rfl ?_
  refine zV_istore (n := 7) C0 [(4, .int (0 : Int32)), (3, .int (100000 : Int32)), (0, .ref q), (1, .int a1), (2, .int a2)] dX4_leastBegin_5 rfl (Nat.le_of_ble_eq_true rfl) rfl ?_
  refine zV_sub [2, 3, 4, 1, 0] rfl ?_
  refine zfix_ind (fun e => zV E (wC cI q ad) 7 S 7 [(0, .ref q), (1, .int a1), (2, .int a2), (3, .int e.1), (4, .int e.2)] []) (fun rec_3 hrec_3 e h => ?_) zN ((100000 : Int32), (0 : Int32)) h
  obtain ⟨x3_1, x4_2⟩ := e
  have Jrec_3 : ∀ (x3_1 : Int32) (x4_2 : Int32), rec_3 (x3_1, x4_2) = some r → zV E (wC cI q ad) 7 S 7 [(0, .ref q), (1, .int a1), (2, .int a2), (3, .int x3_1), (4, .int x4_2)] [] := fun x3_1 x4_2 h => hrec_3 _ h
  clear hrec_3
  dsimp only [F_X4_leastBegin_7] at h
  show zV E (wC cI q ad) 7 S 7 [(0, .ref q), (1, .int a1), (2, .int a2), (3, .int x3_1), (4, .int x4_2)] []
  refine zV_iload (n := 9) C0 4 dX4_leastBegin_7 rfl rfl ?_
  refine zV_iconst (n := 10) (v := (4 : Int32)) C0 dX4_leastBegin_9 rfl rfl ?_
  refine zV_icmp_ge (tgt := 72) (n := 13) C0 dX4_leastBegin_10 rfl rfl (fun hb_11 => ?_) (fun hb_11 => ?_)
  · replace h := if_t hb_11 h
    refine zV_iload_n (n := 73) C0 3 dX4_leastBegin_72 rfl rfl ?_
    exact zretI1 hR h rfl dX4_leastBegin_73
  · replace h := if_f hb_11 h
    refine zV_iconst (n := 14) (v := (0 : Int32)) C0 dX4_leastBegin_13 rfl rfl ?_
    refine zV_istore (n := 16) C0 [(5, .int (0 : Int32)), (0, .ref q), (1, .int a1), (2, .int a2), (3, .int x3_1), (4, .int x4_2)] dX4_leastBegin_14 rfl (Nat.le_of_ble_eq_true rfl) rfl ?_
    refine zV_sub [1, 2, 3, 4, 5, 0] rfl ?_
    refine zfix_ind (fun e => zV E (wC cI q ad) 7 S 16 [(0, .ref q), (1, .int a1), (2, .int a2), (3, .int e.1), (4, .int x4_2), (5, .int e.2)] []) (fun rec_6 hrec_6 e h => ?_) zN (x3_1, (0 : Int32)) h
    obtain ⟨x3_4, x5_5⟩ := e
    have Jrec_6 : ∀ (x3_4 : Int32) (x5_5 : Int32), rec_6 (x3_4, x5_5) = some r → zV E (wC cI q ad) 7 S 16 [(0, .ref q), (1, .int a1), (2, .int a2), (3, .int x3_4), (4, .int x4_2), (5, .int x5_5)] [] := fun x3_4 x5_5 h => hrec_6 _ h
    clear hrec_6
    dsimp only [F_X4_leastBegin_16] at h
    show zV E (wC cI q ad) 7 S 16 [(0, .ref q), (1, .int a1), (2, .int a2), (3, .int x3_4), (4, .int x4_2), (5, .int x5_5)] []
    refine zV_iload (n := 18) C0 5 dX4_leastBegin_16 rfl rfl ?_
    refine zV_iconst (n := 19) (v := (4 : Int32)) C0 dX4_leastBegin_18 rfl rfl ?_
    refine zV_icmp_ge (tgt := 66) (n := 22) C0 dX4_leastBegin_19 rfl rfl (fun hb_10 => ?_) (fun hb_10 => ?_)
    · replace h := if_t hb_10 h
      refine zV_iinc (n := 69) C0 4 (v := (x4_2 + (1 : Int32))) [(4, .int (x4_2 + (1 : Int32))), (0, .ref q), (1, .int a1), (2, .int a2), (3, .int x3_4), (5, .int x5_5)] dX4_leastBegin_66 rfl rfl rfl (Nat.le_of_ble_eq_true rfl) rfl ?_
      refine zV_goto (tgt := 7) C0 dX4_leastBegin_69 rfl ?_
      refine zV_sub [1, 2, 3, 4, 0] rfl ?_
      exact Jrec_3 x3_4 (x4_2 + (1 : Int32)) h
    · replace h := if_f hb_10 h
      refine zV_aload_n (n := 23) C0 0 dX4_leastBegin_22 rfl rfl ?_
      refine zV_iload_n (n := 24) C0 1 dX4_leastBegin_23 rfl rfl ?_
      refine zV_iload_n (n := 25) C0 2 dX4_leastBegin_24 rfl rfl ?_
      refine zV_iload (n := 27) C0 4 dX4_leastBegin_25 rfl rfl ?_
      refine zV_iload (n := 29) C0 5 dX4_leastBegin_27 rfl rfl ?_
      refine zV_aload_n (n := 30) C0 0 dX4_leastBegin_29 rfl rfl ?_
      refine zV_get (n := 33) (ref := RX4) C0 hinX4_leastBegin_X4 0 rfl rfl 2 (Nat.le_of_ble_eq_true rfl) mX4_leastBegin_1 rfl rfl dX4_leastBegin_30 rfl ?_
      refine zV_getN (n := 36) (ref := RX2) C0 hinX4_leastBegin_X2 3 rfl rfl 1 (Nat.le_of_ble_eq_true rfl) (fun hN => va_Nw.use rfl (hN _ (List.mem_of_getElem? (i := 4) rfl))) rfl rfl dX4_leastBegin_33 rfl ?_
      obtain ⟨r_8, hc_7, h⟩ := ob_of h
      refine zV_callVI (n := 39) (st := []) (As := [.int a1, .int a2, .int x4_2, .int x5_5, .int (S.1 16)]) C0 (k_X4_pairMinutes a1 a2 x4_2 x5_5 (S.1 16) S _ hc_7) gX4_leastBegin_X4_pairMinutes rfl (hd_X4_pairMinutes) rfl ⟨rfl, rfl⟩ ⟨Nat.le_of_ble_eq_true rfl, Nat.le_of_ble_eq_true rfl⟩ 0 rfl rfl rfl (Nat.le_of_ble_eq_true rfl) dX4_leastBegin_36 rfl ?_
      refine zV_istore (n := 41) C0 [(6, .int r_8), (0, .ref q), (1, .int a1), (2, .int a2), (3, .int x3_4), (4, .int x4_2), (5, .int x5_5)] dX4_leastBegin_39 rfl (Nat.le_of_ble_eq_true rfl) rfl ?_
      refine zV_iload_n (n := 42) C0 4 dX4_leastBegin_41 rfl rfl ?_
      refine zV_iload (n := 44) C0 0 dX4_leastBegin_42 rfl rfl ?_
      refine zV_bipush (n := 46) (v := (100 : Int32)) C0 dX4_leastBegin_44 rfl rfl ?_
      refine zV_imul (n := 47) C0 dX4_leastBegin_46  rfl ?_
      refine zV_bipush (n := 49) (v := (10 : Int32)) C0 dX4_leastBegin_47 rfl rfl ?_
      refine zV_iload (n := 51) C0 5 dX4_leastBegin_49 rfl rfl ?_
      refine zV_imul (n := 52) C0 dX4_leastBegin_51  rfl ?_
      refine zV_iadd (n := 53) C0 dX4_leastBegin_52  rfl ?_
      refine zV_iload (n := 55) C0 6 dX4_leastBegin_53 rfl rfl ?_
      refine zV_iadd (n := 56) C0 dX4_leastBegin_55  rfl ?_
      refine zV_mmin (n := 59) C0 dX4_leastBegin_56 mX4_leastBegin_2 mX4_leastBegin_3 mX4_leastBegin_4 mX4_leastBegin_5 (Nat.le_of_ble_eq_true rfl) (Nat.le_of_ble_eq_true rfl) rfl ?_
      refine zV_topi (fun t_9 et_9 => ?_)
      replace h := zlet_of et_9 h
      clear et_9
      refine zV_istore_n (n := 60) C0 [(3, .int t_9), (6, .int r_8), (0, .ref q), (1, .int a1), (2, .int a2), (4, .int x4_2), (5, .int x5_5)] dX4_leastBegin_59 rfl rfl (Nat.le_of_ble_eq_true rfl) rfl ?_
      refine zV_iinc (n := 63) C0 6 (v := (x5_5 + (1 : Int32))) [(5, .int (x5_5 + (1 : Int32))), (3, .int t_9), (6, .int r_8), (0, .ref q), (1, .int a1), (2, .int a2), (4, .int x4_2)] dX4_leastBegin_60 rfl rfl rfl (Nat.le_of_ble_eq_true rfl) rfl ?_
      refine zV_goto (tgt := 16) C0 dX4_leastBegin_63 rfl ?_
      refine zV_sub [3, 4, 5, 1, 6, 0] rfl ?_
      exact Jrec_6 t_9 (x5_5 + (1 : Int32)) h
set_option maxRecDepth 20000 in
theorem mX4_begin_0 : Cond.fieldLink RX4 19 "LeggedThrough" "plan" "LLeggedThrough$Plan;" ∈ wsX4_begin := by decide +kernel
set_option maxRecDepth 20000 in
theorem hinX4_begin_X4 : ∀ w ∈ u_ws RX4 TX4 10, w ∈ wsX4_begin := fun w h => List.mem_cons_of_mem _ (List.mem_append_left _ (List.mem_append_left _ (List.mem_append_right _ h)))
set_option maxRecDepth 20000 in
set_option maxHeartbeats 4000000 in
theorem k_X4_begin {l : Launch} {D : va_G} {cI cZ : ClassId} {q : Nat} {ad : Nat → Nat} (a1 : Int32) (a2 : Int32) (a3 : Int32) (a4 : Int32)  (S : zS) (r : Int32) (h : f_X4_begin a1 a2 a3 a4 S = some r) : zI l yX4_begin wsX4_begin (zRm 4 106) D (zty cI cZ) zNw (wC cI q ad) [.ref q, .int a1, .int a2, .int a3, .int a4] S (r, S) := by
  refine zI_of (cc := cX4_begin) (maxL := 7) (ty := .int) (by decide +kernel) rfl (Nat.le_of_ble_eq_true rfl) zNw_ok (fun E hE1 hE2 C0 hR => ?_)
  subst hE1; subst hE2
  replace C0 : zCx E (zRm 4 106) cX4_begin 7 RX4 wsX4_begin (zty cI cZ) zNw := C0
  show zV E (wC cI q ad) 7 S 0 [(0, .ref q), (1, .int a1), (2, .int a2), (3, .int a3), (4, .int a4)] []
  delta f_X4_begin at h
  refine zV_aload_n (n := 1) C0 0 dX4_begin_0 rfl rfl ?_
  refine zV_iload_n (n := 2) C0 1 dX4_begin_1 rfl rfl ?_
  refine zV_iload_n (n := 3) C0 2 dX4_begin_2 rfl rfl ?_
  refine zV_iload_n (n := 4) C0 3 dX4_begin_3 rfl rfl ?_
  obtain ⟨r_2, hc_1, h⟩ := ob_of h
  refine zV_callVI (n := 7) (st := []) (As := [.int a1, .int a2, .int a3]) C0 (k_X4_pairRefusal a1 a2 a3 S _ hc_1) gX4_begin_X4_pairRefusal rfl (hd_X4_pairRefusal) rfl ⟨rfl, rfl⟩ ⟨Nat.le_of_ble_eq_true rfl, Nat.le_of_ble_eq_true rfl⟩ 0 rfl rfl rfl (Nat.le_of_ble_eq_true rfl) dX4_begin_4 rfl ?_
  refine zV_istore (n := 9) C0 [(5, .int r_2), (0, .ref q), (1, .int a1), (2, .int a2), (3, .int a3), (4, .int a4)] dX4_begin_7 rfl (Nat.le_of_ble_eq_true rfl) rfl ?_
  refine zV_iload (n := 11) C0 0 dX4_begin_9 rfl rfl ?_
  refine zV_if_eq (tgt := 17) (n := 14) C0 dX4_begin_11 rfl rfl (fun hb_13 => ?_) (fun hb_13 => ?_)
  · replace h := if_t hb_13 h
    refine zV_iload (n := 19) C0 5 dX4_begin_17 rfl rfl ?_
    refine zjoin_of h (fun k_3 hk_3 h => ?_)
    have Jk_3 : k_3 () = some r → zV E (wC cI q ad) 7 S 31 [(0, .ref q), (1, .int a1), (2, .int a2), (3, .int a3), (4, .int a4)] [] := by
      intro  h
      replace h := hk_3 _ h
      refine zV_aload_n (n := 32) C0 0 dX4_begin_31 rfl rfl ?_
      refine zV_iload_n (n := 33) C0 2 dX4_begin_32 rfl rfl ?_
      refine zV_iload_n (n := 34) C0 3 dX4_begin_33 rfl rfl ?_
      obtain ⟨r_5, hc_4, h⟩ := ob_of h
      refine zV_callVI (n := 37) (st := []) (As := [.int a2, .int a3]) C0 (k_X4_leastBegin a2 a3 S _ hc_4) gX4_begin_X4_leastBegin rfl (hd_X4_leastBegin) rfl ⟨rfl, rfl⟩ ⟨Nat.le_of_ble_eq_true rfl, Nat.le_of_ble_eq_true rfl⟩ 0 rfl rfl rfl (Nat.le_of_ble_eq_true rfl) dX4_begin_34 rfl ?_
      refine zV_istore (n := 39) C0 [(6, .int r_5), (0, .ref q), (1, .int a1), (2, .int a2), (3, .int a3), (4, .int a4)] dX4_begin_37 rfl (Nat.le_of_ble_eq_true rfl) rfl ?_
      refine zV_iload (n := 41) C0 5 dX4_begin_39 rfl rfl ?_
      refine zjoin_of h (fun k_7 hk_7 h => ?_)
      have Jk_7 : ∀ (s_6 : Int32), k_7 (s_6) = some r → zV E (wC cI q ad) 7 S 66 [] [.int s_6] := by
        intro s_6 h
        replace h := hk_7 _ h
        exact zretI1 hR h rfl dX4_begin_66
      clear hk_7
      refine zV_if_ne (tgt := 52) (n := 44) C0 dX4_begin_41 rfl rfl (fun hb_10 => ?_) (fun hb_10 => ?_)
      · replace h := if_f hb_10 h
        refine zV_iload (n := 54) C0 0 dX4_begin_52 rfl rfl ?_
        refine zV_bipush (n := 56) (v := (100 : Int32)) C0 dX4_begin_54 rfl rfl ?_
        refine zV_idiv (n := 57) C0 dX4_begin_56 (by decide) rfl ?_
        refine zV_aload_n (n := 58) C0 1 dX4_begin_57 rfl rfl ?_
        refine zV_get (n := 61) (ref := RX4) C0 hinX4_begin_X4 0 rfl rfl 1 (Nat.le_of_ble_eq_true rfl) mX4_begin_0 rfl rfl dX4_begin_58 rfl ?_
        refine zV_iload_n (n := 62) C0 2 dX4_begin_61 rfl rfl ?_
        obtain ⟨r_9, hc_8, h⟩ := ob_of h
        refine zV_callVI (n := 65) (st := [.int (r_5 / (100 : Int32))]) (As := [.int a1]) C0 (k_X1_loadOf a1 S _ hc_8) gX4_begin_X1_loadOf rfl (hd_X1_loadOf) rfl ⟨rfl, rfl⟩ ⟨Nat.le_of_ble_eq_true rfl, Nat.le_of_ble_eq_true rfl⟩ 2 rfl rfl rfl (Nat.le_of_ble_eq_true rfl) dX4_begin_62 rfl ?_
        refine zV_iadd (n := 66) C0 dX4_begin_65  rfl ?_
        refine zV_sub [] rfl ?_
        exact Jk_7 ((r_5 / (100 : Int32)) + r_9) h
      · replace h := if_t hb_10 h
        refine zV_iload (n := 46) C0 0 dX4_begin_44 rfl rfl ?_
        refine zV_bipush (n := 48) (v := (100 : Int32)) C0 dX4_begin_46 rfl rfl ?_
        refine zV_irem (n := 49) C0 dX4_begin_48 (by decide) rfl ?_
        refine zV_goto (tgt := 66) C0 dX4_begin_49 rfl ?_
        refine zV_sub [] rfl ?_
        exact Jk_7 (zrem r_5 (100 : Int32)) h
    clear hk_3
    refine zV_if_eq (tgt := 31) (n := 22) C0 dX4_begin_19 rfl rfl (fun hb_12 => ?_) (fun hb_12 => ?_)
    · replace h := if_t hb_12 h
      refine zV_sub [1, 2, 3, 4, 5] rfl ?_
      exact Jk_3  h
    · replace h := if_f hb_12 h
      refine zV_iload (n := 24) C0 5 dX4_begin_22 rfl rfl ?_
      refine zV_iconst (n := 25) (v := (1 : Int32)) C0 dX4_begin_24 rfl rfl ?_
      refine zV_icmp_eq (tgt := 31) (n := 28) C0 dX4_begin_25 rfl rfl (fun hb_11 => ?_) (fun hb_11 => ?_)
      · replace h := if_t hb_11 h
        refine zV_sub [1, 2, 3, 4, 5] rfl ?_
        exact Jk_3  h
      · replace h := if_f hb_11 h
        refine zV_bipush (n := 30) (v := (-2 : Int32)) C0 dX4_begin_28 rfl rfl ?_
        exact zretI1 hR h rfl dX4_begin_30
  · replace h := if_f hb_13 h
    refine zV_iload (n := 16) C0 0 dX4_begin_14 rfl rfl ?_
    exact zretI1 hR h rfl dX4_begin_16
set_option maxRecDepth 20000 in
theorem mX4_nextToLeg_0 : Cond.fieldLink RX4 19 "LeggedThrough" "plan" "LLeggedThrough$Plan;" ∈ wsX4_nextToLeg := by decide +kernel
set_option maxRecDepth 20000 in
theorem mX4_nextToLeg_1 : Cond.fieldLink RX4 26 "LeggedThrough" "state" "LLeggedThrough$State;" ∈ wsX4_nextToLeg := by decide +kernel
set_option maxRecDepth 20000 in
theorem hinX4_nextToLeg_X1 : ∀ w ∈ u_ws RX1 TX1 5, w ∈ wsX4_nextToLeg := fun w h => List.mem_cons_of_mem _ (List.mem_append_left _ (List.mem_append_right _ h))
set_option maxRecDepth 20000 in
theorem hinX4_nextToLeg_X2 : ∀ w ∈ u_ws RX2 TX2 4, w ∈ wsX4_nextToLeg := fun w h => List.mem_cons_of_mem _ (List.mem_append_right _ h)
set_option maxRecDepth 20000 in
theorem hinX4_nextToLeg_X4 : ∀ w ∈ u_ws RX4 TX4 10, w ∈ wsX4_nextToLeg := fun w h => List.mem_cons_of_mem _ (List.mem_append_left _ (List.mem_append_left _ (List.mem_append_right _ h)))
set_option maxRecDepth 20000 in
set_option maxHeartbeats 4000000 in
theorem k_X4_nextToLeg {l : Launch} {D : va_G} {cI cZ : ClassId} {q : Nat} {ad : Nat → Nat} (a1 : Int32)  (S : zS) (r : Int32) (h : f_X4_nextToLeg a1 S = some r) : zI l yX4_nextToLeg wsX4_nextToLeg (zRm 1 21) D (zty cI cZ) zNw (wC cI q ad) [.ref q, .int a1] S (r, S) := by
  refine zI_of (cc := cX4_nextToLeg) (maxL := 3) (ty := .int) (by decide +kernel) rfl (Nat.le_of_ble_eq_true rfl) zNw_ok (fun E hE1 hE2 C0 hR => ?_)
  subst hE1; subst hE2
  replace C0 : zCx E (zRm 1 21) cX4_nextToLeg 3 RX4 wsX4_nextToLeg (zty cI cZ) zNw := C0
  show zV E (wC cI q ad) 3 S 0 [(0, .ref q), (1, .int a1)] []
  delta f_X4_nextToLeg at h
  refine zV_iload_n (n := 1) C0 1 dX4_nextToLeg_0 rfl rfl ?_
  refine zV_istore_n (n := 2) C0 [(2, .int a1), (0, .ref q), (1, .int a1)] dX4_nextToLeg_1 rfl rfl (Nat.le_of_ble_eq_true rfl) rfl ?_
  refine zV_sub [1, 0] rfl ?_
  refine zfix_ind (fun e => zV E (wC cI q ad) 3 S 2 [(0, .ref q), (2, .int e)] []) (fun rec_2 hrec_2 x2_1 h => ?_) zN a1 h
  have Jrec_2 : ∀ (x2_1 : Int32), rec_2 x2_1 = some r → zV E (wC cI q ad) 3 S 2 [(0, .ref q), (2, .int x2_1)] [] := fun x2_1 h => hrec_2 _ h
  clear hrec_2
  dsimp only [F_X4_nextToLeg_2] at h
  show zV E (wC cI q ad) 3 S 2 [(0, .ref q), (2, .int x2_1)] []
  refine zV_iload_n (n := 3) C0 1 dX4_nextToLeg_2 rfl rfl ?_
  refine zV_aload_n (n := 4) C0 0 dX4_nextToLeg_3 rfl rfl ?_
  refine zV_get (n := 7) (ref := RX4) C0 hinX4_nextToLeg_X4 0 rfl rfl 1 (Nat.le_of_ble_eq_true rfl) mX4_nextToLeg_0 rfl rfl dX4_nextToLeg_4 rfl ?_
  refine zV_getN (n := 10) (ref := RX1) C0 hinX4_nextToLeg_X1 2 rfl rfl 2 (Nat.le_of_ble_eq_true rfl) (fun hN => va_Nw.use rfl (hN _ (List.mem_of_getElem? (i := 3) rfl))) rfl rfl dX4_nextToLeg_7 rfl ?_
  refine zjoin_of h (fun k_3 hk_3 h => ?_)
  have Jk_3 : k_3 () = some r → zV E (wC cI q ad) 3 S 33 [(2, .int x2_1)] [] := by
    intro  h
    replace h := hk_3 _ h
    refine zV_iload_n (n := 34) C0 0 dX4_nextToLeg_33 rfl rfl ?_
    exact zretI1 hR h rfl dX4_nextToLeg_34
  clear hk_3
  refine zV_icmp_ge (tgt := 33) (n := 13) C0 dX4_nextToLeg_10 rfl rfl (fun hb_7 => ?_) (fun hb_7 => ?_)
  · replace h := if_t hb_7 h
    refine zV_sub [1] rfl ?_
    exact Jk_3  h
  · replace h := if_f hb_7 h
    refine zV_aload_n (n := 14) C0 0 dX4_nextToLeg_13 rfl rfl ?_
    refine zV_get (n := 17) (ref := RX4) C0 hinX4_nextToLeg_X4 0 rfl rfl 2 (Nat.le_of_ble_eq_true rfl) mX4_nextToLeg_1 rfl rfl dX4_nextToLeg_14 rfl ?_
    refine zV_getN (n := 20) (ref := RX2) C0 hinX4_nextToLeg_X2 3 rfl rfl 2 (Nat.le_of_ble_eq_true rfl) (fun hN => va_Nw.use rfl (hN _ (List.mem_of_getElem? (i := 5) rfl))) rfl rfl dX4_nextToLeg_17 rfl ?_
    refine zV_iload_n (n := 21) C0 1 dX4_nextToLeg_20 rfl rfl ?_
    obtain ⟨r_5, hc_4, h⟩ := ob_of h
    refine zV_callS0 (n := 24) (st := []) (As := [.int (S.1 17), .int x2_1]) C0 (k_X4_isIn (S.1 17) x2_1 _ hc_4) gX4_nextToLeg_X4_isIn rfl (hd_X4_isIn) rfl ⟨rfl, rfl⟩ ⟨Nat.le_of_ble_eq_true rfl, Nat.le_of_ble_eq_true rfl⟩ rfl (Nat.le_of_ble_eq_true rfl) dX4_nextToLeg_21 rfl ?_
    refine zV_if_eq (tgt := 33) (n := 27) C0 dX4_nextToLeg_24 rfl rfl (fun hb_6 => ?_) (fun hb_6 => ?_)
    · replace h := if_t hb_6 h
      refine zV_sub [1] rfl ?_
      exact Jk_3  h
    · replace h := if_f hb_6 h
      refine zV_iinc (n := 30) C0 1 (v := (x2_1 + (1 : Int32))) [(2, .int (x2_1 + (1 : Int32))), (0, .ref q)] dX4_nextToLeg_27 rfl rfl rfl (Nat.le_of_ble_eq_true rfl) rfl ?_
      refine zV_goto (tgt := 2) C0 dX4_nextToLeg_30 rfl ?_
      refine zV_sub [1, 0] rfl ?_
      exact Jrec_2 (x2_1 + (1 : Int32)) h
set_option maxRecDepth 20000 in
theorem mX4_leastBehind_0 : Cond.fieldLink RX4 19 "LeggedThrough" "plan" "LLeggedThrough$Plan;" ∈ wsX4_leastBehind := by decide +kernel
set_option maxRecDepth 20000 in
theorem hinX4_leastBehind_X4 : ∀ w ∈ u_ws RX4 TX4 10, w ∈ wsX4_leastBehind := fun w h => List.mem_cons_of_mem _ (List.mem_append_left _ (List.mem_append_left _ (List.mem_append_right _ h)))
theorem kb_X4_leastBehind {l : Launch} {D : va_G} {cI cZ : ClassId} {q : Nat} {ad : Nat → Nat} (n : Nat) (rec_ : Int32 × Int32 × Int32 × Int32 × Int64 → Option Int64) (S : zS) (hrec : ∀ (e : Int32 × Int32 × Int32 × Int32 × Int64) (r : Int64), rec_ e = some r → zJ l yX4_leastLegs wsX4_leastLegs (zRm (3 + 2 * n) (80 + n * 63)) D (zty cI cZ) zNw (wC cI q ad) [.ref q, .int e.1, .int e.2.1, .int e.2.2.1, .int e.2.2.2.1, .long e.2.2.2.2] S (r, S)) (a1 : Int32) (a2 : Int32) (a3 : Int32) (a4 : Int32) (a5 : Int32) (a6 : Int32) (b7 : Int64) (r : Int64) (h : g_X4_leastBehind S rec_ a1 a2 a3 a4 a5 a6 b7 = some r) : zJ l yX4_leastBehind wsX4_leastBehind (zRm (3 + 2 * n + 1) (80 + n * 63 + 33)) D (zty cI cZ) zNw (wC cI q ad) [.ref q, .int a1, .int a2, .int a3, .int a4, .int a5, .int a6, .long b7] S (r, S) := by
  refine zJ_of (cc := cX4_leastBehind) (maxL := 11)  (by decide +kernel) rfl (Nat.le_of_ble_eq_true rfl) zNw_ok (fun E hE1 hE2 C0 hR => ?_)
  subst hE1; subst hE2
  replace C0 : zCx E (zRm (3 + 2 * n + 1) (80 + n * 63 + 33)) cX4_leastBehind 11 RX4 wsX4_leastBehind (zty cI cZ) zNw := C0
  show zV E (wC cI q ad) 11 S 0 [(0, .ref q), (1, .int a1), (2, .int a2), (3, .int a3), (4, .int a4), (5, .int a5), (6, .int a6), (7, .long b7)] []
  delta g_X4_leastBehind at h
  refine zV_iload (n := 2) C0 5 dX4_leastBehind_0 rfl rfl ?_
  refine zV_aload_n (n := 3) C0 0 dX4_leastBehind_2 rfl rfl ?_
  refine zV_iload_n (n := 4) C0 2 dX4_leastBehind_3 rfl rfl ?_
  refine zV_iload_n (n := 5) C0 3 dX4_leastBehind_4 rfl rfl ?_
  refine zV_iconst (n := 6) (v := (0 : Int32)) C0 dX4_leastBehind_5 rfl rfl ?_
  refine zV_iconst (n := 7) (v := (0 : Int32)) C0 dX4_leastBehind_6 rfl rfl ?_
  refine zV_iload (n := 9) C0 4 dX4_leastBehind_7 rfl rfl ?_
  obtain ⟨r_2, hc_1, h⟩ := ob_of h
  refine zV_callVI (n := 12) (st := [.int a5]) (As := [.int a2, .int a3, .int (0 : Int32), .int (0 : Int32), .int a4]) C0 (k_X4_pairMinutes a2 a3 (0 : Int32) (0 : Int32) a4 S _ hc_1) gX4_leastBehind_X4_pairMinutes rfl (hd_X4_pairMinutes) rfl ⟨rfl, rfl⟩ ⟨by simp only [zRm]; omega, by simp only [zRm]; omega⟩ 0 rfl rfl rfl (Nat.le_of_ble_eq_true rfl) dX4_leastBehind_9 rfl ?_
  refine zV_iadd (n := 13) C0 dX4_leastBehind_12  rfl ?_
  refine zV_aload_n (n := 14) C0 0 dX4_leastBehind_13 rfl rfl ?_
  refine zV_get (n := 17) (ref := RX4) C0 hinX4_leastBehind_X4 0 rfl rfl 1 (Nat.le_of_ble_eq_true rfl) mX4_leastBehind_0 rfl rfl dX4_leastBehind_14 rfl ?_
  refine zV_iload_n (n := 18) C0 1 dX4_leastBehind_17 rfl rfl ?_
  obtain ⟨r_4, hc_3, h⟩ := ob_of h
  refine zV_callVI (n := 21) (st := [.int (a5 + r_2)]) (As := [.int a1]) C0 (k_X1_loadOf a1 S _ hc_3) gX4_leastBehind_X1_loadOf rfl (hd_X1_loadOf) rfl ⟨rfl, rfl⟩ ⟨by simp only [zRm]; omega, by simp only [zRm]; omega⟩ 2 rfl rfl rfl (Nat.le_of_ble_eq_true rfl) dX4_leastBehind_18 rfl ?_
  refine zV_iadd (n := 22) C0 dX4_leastBehind_21  rfl ?_
  refine zV_topi (fun x9_5 ex9_5 => ?_)
  replace h := zlet_of ex9_5 h
  clear ex9_5
  refine zV_istore (n := 24) C0 [(9, .int x9_5), (0, .ref q), (1, .int a1), (2, .int a2), (3, .int a3), (4, .int a4), (5, .int a5), (6, .int a6), (7, .long b7)] dX4_leastBehind_22 rfl (Nat.le_of_ble_eq_true rfl) rfl ?_
  refine zV_iload (n := 26) C0 7 dX4_leastBehind_24 rfl rfl ?_
  refine zV_sipush (n := 29) (v := (1000 : Int32)) C0 dX4_leastBehind_26 rfl rfl ?_
  refine zV_imul (n := 30) C0 dX4_leastBehind_29  rfl ?_
  refine zV_bipush (n := 32) (v := (100 : Int32)) C0 dX4_leastBehind_30 rfl rfl ?_
  refine zV_iload_n (n := 33) C0 2 dX4_leastBehind_32 rfl rfl ?_
  refine zV_imul (n := 34) C0 dX4_leastBehind_33  rfl ?_
  refine zV_iadd (n := 35) C0 dX4_leastBehind_34  rfl ?_
  refine zV_bipush (n := 37) (v := (10 : Int32)) C0 dX4_leastBehind_35 rfl rfl ?_
  refine zV_iload_n (n := 38) C0 3 dX4_leastBehind_37 rfl rfl ?_
  refine zV_imul (n := 39) C0 dX4_leastBehind_38  rfl ?_
  refine zV_iadd (n := 40) C0 dX4_leastBehind_39  rfl ?_
  refine zV_iload_n (n := 41) C0 4 dX4_leastBehind_40 rfl rfl ?_
  refine zV_iadd (n := 42) C0 dX4_leastBehind_41  rfl ?_
  refine zV_topi (fun x10_6 ex10_6 => ?_)
  replace h := zlet_of ex10_6 h
  clear ex10_6
  refine zV_istore (n := 44) C0 [(10, .int x10_6), (9, .int x9_5), (0, .ref q), (1, .int a1), (2, .int a2), (3, .int a3), (4, .int a4), (5, .int a5), (6, .int a6), (7, .long b7)] dX4_leastBehind_42 rfl (Nat.le_of_ble_eq_true rfl) rfl ?_
  refine zV_aload_n (n := 45) C0 2 dX4_leastBehind_44 rfl rfl ?_
  refine zV_iload_n (n := 46) C0 3 dX4_leastBehind_45 rfl rfl ?_
  refine zV_iconst (n := 47) (v := (1 : Int32)) C0 dX4_leastBehind_46 rfl rfl ?_
  refine zV_iadd (n := 48) C0 dX4_leastBehind_47  rfl ?_
  refine zV_iload (n := 50) C0 6 dX4_leastBehind_48 rfl rfl ?_
  refine zV_iload_n (n := 51) C0 4 dX4_leastBehind_50 rfl rfl ?_
  refine zV_iload_n (n := 52) C0 5 dX4_leastBehind_51 rfl rfl ?_
  obtain ⟨r_8, hc_7, h⟩ := ob_of h
  refine zV_callS0 (n := 55) (st := [.int (a1 + (1 : Int32)), .ref q]) (As := [.int a4, .int a2, .int a3]) C0 (k_X4_tireBoth a4 a2 a3 _ hc_7) gX4_leastBehind_X4_tireBoth rfl (hd_X4_tireBoth) rfl ⟨rfl, rfl⟩ ⟨by simp only [zRm]; omega, by simp only [zRm]; omega⟩ rfl (Nat.le_of_ble_eq_true rfl) dX4_leastBehind_52 rfl ?_
  refine zV_iload (n := 57) C0 1 dX4_leastBehind_55 rfl rfl ?_
  refine zV_iload (n := 59) C0 0 dX4_leastBehind_57 rfl rfl ?_
  refine zV_lload (n := 61) C0 9 dX4_leastBehind_59 rfl rfl ?_
  obtain ⟨r_10, hc_9, h⟩ := ob_of h
  refine zV_callVJ (n := 64) (st := []) (As := [.int (a1 + (1 : Int32)), .int r_8, .int x9_5, .int x10_6, .long b7]) C0 (hrec _ _ hc_9) gX4_leastBehind_X4_leastLegs rfl (hd_X4_leastLegs) rfl ⟨rfl, rfl⟩ ⟨by simp only [zRm]; omega, by simp only [zRm]; omega⟩ 0 rfl rfl rfl (Nat.le_of_ble_eq_true rfl) dX4_leastBehind_61 rfl ?_
  exact zretJ1 hR h dX4_leastBehind_64
set_option maxRecDepth 20000 in
theorem mX4_leastLegs_0 : Cond.constantLong RX4 162 (1000000000 : Int64) ∈ wsX4_leastLegs := by decide +kernel
set_option maxRecDepth 20000 in
theorem mX4_leastLegs_1 : Cond.fieldLink RX4 19 "LeggedThrough" "plan" "LLeggedThrough$Plan;" ∈ wsX4_leastLegs := by decide +kernel
set_option maxRecDepth 20000 in
theorem mX4_leastLegs_2 : Cond.methodLink RX4 274 Lib.MathLoose.min_long.x ∈ wsX4_leastLegs := by decide +kernel
set_option maxRecDepth 20000 in
theorem mX4_leastLegs_3 : Cond.static Lib.MathLoose.min_long.x ∈ wsX4_leastLegs := by decide +kernel
set_option maxRecDepth 20000 in
theorem mX4_leastLegs_4 : Cond.initialized "java/lang/Math" ∈ wsX4_leastLegs := by decide +kernel
set_option maxRecDepth 20000 in
theorem mX4_leastLegs_5 : Cond.code Lib.MathLoose.min_long.x Lib.MathLoose.min_long.code 4 (some .long) ∈ wsX4_leastLegs := by decide +kernel
set_option maxRecDepth 20000 in
theorem hinX4_leastLegs_X1 : ∀ w ∈ u_ws RX1 TX1 5, w ∈ wsX4_leastLegs := fun w h => List.mem_cons_of_mem _ (List.mem_append_left _ (List.mem_append_right _ h))
set_option maxRecDepth 20000 in
theorem hinX4_leastLegs_X4 : ∀ w ∈ u_ws RX4 TX4 10, w ∈ wsX4_leastLegs := fun w h => List.mem_cons_of_mem _ (List.mem_append_left _ (List.mem_append_left _ (List.mem_append_right _ h)))
set_option maxRecDepth 20000 in
set_option maxHeartbeats 4000000 in
theorem kr_X4_leastLegs {l : Launch} {D : va_G} {cI cZ : ClassId} {q : Nat} {ad : Nat → Nat} (S : zS) : ∀ (n : Nat) (e : Int32 × Int32 × Int32 × Int32 × Int64) (r : Int64), zfix (F_X4_leastLegs S) n e = some r → zJ l yX4_leastLegs wsX4_leastLegs (zRm (3 + 2 * n) (80 + n * 63)) D (zty cI cZ) zNw (wC cI q ad) [.ref q, .int e.1, .int e.2.1, .int e.2.2.1, .int e.2.2.2.1, .long e.2.2.2.2] S (r, S) := by
  refine zfix_indN (fun (n : Nat) (e : Int32 × Int32 × Int32 × Int32 × Int64) (r : Int64) => zJ l yX4_leastLegs wsX4_leastLegs (zRm (3 + 2 * n) (80 + n * 63)) D (zty cI cZ) zNw (wC cI q ad) [.ref q, .int e.1, .int e.2.1, .int e.2.2.1, .int e.2.2.2.1, .long e.2.2.2.2] S (r, S)) (fun n rec_ hrec e r h => ?_)
  obtain ⟨a1, a2, a3, a4, b5⟩ := e
  dsimp only [F_X4_leastLegs] at h
  refine zJ_of (cc := cX4_leastLegs) (maxL := 14)  (by decide +kernel) rfl (Nat.le_of_ble_eq_true rfl) zNw_ok (fun E hE1 hE2 C0 hR => ?_)
  subst hE1; subst hE2
  replace C0 : zCx E (zRm (3 + 2 * (n + 1)) (80 + (n + 1) * 63)) cX4_leastLegs 14 RX4 wsX4_leastLegs (zty cI cZ) zNw := C0
  show zV E (wC cI q ad) 14 S 0 [(0, .ref q), (1, .int a1), (2, .int a2), (3, .int a3), (4, .int a4), (5, .long b5)] []
  refine zV_iload_n (n := 1) C0 3 dX4_leastLegs_0 rfl rfl ?_
  refine zV_i2l (n := 2) C0 dX4_leastLegs_1  rfl ?_
  refine zV_ldc2 (n := 5) (v := (1000000000 : Int64)) C0 dX4_leastLegs_2 mX4_leastLegs_0 rfl ?_
  refine zV_lmul (n := 6) C0 dX4_leastLegs_5  rfl ?_
  refine zV_topl (fun x7_1 ex7_1 => ?_)
  replace h := zlet_of ex7_1 h
  clear ex7_1
  refine zV_lstore (n := 8) C0 [(7, .long x7_1), (0, .ref q), (1, .int a1), (2, .int a2), (3, .int a3), (4, .int a4), (5, .long b5)] dX4_leastLegs_6 rfl (Nat.le_of_ble_eq_true rfl) rfl ?_
  refine zV_lload (n := 10) C0 0 dX4_leastLegs_8 rfl rfl ?_
  refine zV_lload (n := 12) C0 6 dX4_leastLegs_10 rfl rfl ?_
  refine zV_lcmp (n := 13) C0 dX4_leastLegs_12  rfl ?_
  refine zV_if_lt (tgt := 19) (n := 16) C0 dX4_leastLegs_13 rfl rfl (fun hb_17 => ?_) (fun hb_17 => ?_)
  · replace h := if_t hb_17 h
    refine zV_aload_n (n := 20) C0 1 dX4_leastLegs_19 rfl rfl ?_
    refine zV_iload_n (n := 21) C0 2 dX4_leastLegs_20 rfl rfl ?_
    obtain ⟨r_3, hc_2, h⟩ := ob_of h
    refine zV_callVI (n := 24) (st := []) (As := [.int a1]) C0 (k_X4_nextToLeg a1 S _ hc_2) gX4_leastLegs_X4_nextToLeg rfl (hd_X4_nextToLeg) rfl ⟨rfl, rfl⟩ ⟨by simp only [zRm]; omega, by simp only [zRm]; omega⟩ 0 rfl rfl rfl (Nat.le_of_ble_eq_true rfl) dX4_leastLegs_21 rfl ?_
    refine zV_istore (n := 26) C0 [(9, .int r_3), (7, .long x7_1), (0, .ref q), (1, .int a1), (2, .int a2), (3, .int a3), (4, .int a4), (5, .long b5)] dX4_leastLegs_24 rfl (Nat.le_of_ble_eq_true rfl) rfl ?_
    refine zV_iload (n := 28) C0 0 dX4_leastLegs_26 rfl rfl ?_
    refine zV_aload_n (n := 29) C0 2 dX4_leastLegs_28 rfl rfl ?_
    refine zV_get (n := 32) (ref := RX4) C0 hinX4_leastLegs_X4 0 rfl rfl 1 (Nat.le_of_ble_eq_true rfl) mX4_leastLegs_1 rfl rfl dX4_leastLegs_29 rfl ?_
    refine zV_getN (n := 35) (ref := RX1) C0 hinX4_leastLegs_X1 2 rfl rfl 2 (Nat.le_of_ble_eq_true rfl) (fun hN => va_Nw.use rfl (hN _ (List.mem_of_getElem? (i := 3) rfl))) rfl rfl dX4_leastLegs_32 rfl ?_
    refine zV_icmp_lt (tgt := 50) (n := 38) C0 dX4_leastLegs_35 rfl rfl (fun hb_16 => ?_) (fun hb_16 => ?_)
    · replace h := if_t hb_16 h
      refine zV_lload (n := 52) C0 7 dX4_leastLegs_50 rfl rfl ?_
      refine zV_lstore (n := 54) C0 [(10, .long b5), (9, .int r_3), (7, .long x7_1), (0, .ref q), (1, .int a1), (2, .int a2), (3, .int a3), (4, .int a4), (5, .long b5)] dX4_leastLegs_52 rfl (Nat.le_of_ble_eq_true rfl) rfl ?_
      refine zV_iconst (n := 55) (v := (0 : Int32)) C0 dX4_leastLegs_54 rfl rfl ?_
      refine zV_istore (n := 57) C0 [(12, .int (0 : Int32)), (10, .long b5), (9, .int r_3), (7, .long x7_1), (0, .ref q), (1, .int a1), (2, .int a2), (3, .int a3), (4, .int a4), (5, .long b5)] dX4_leastLegs_55 rfl (Nat.le_of_ble_eq_true rfl) rfl ?_
      refine zV_sub [4, 6, 7, 8, 2, 1, 0] rfl ?_
      refine zfix_ind (fun e => zV E (wC cI q ad) 14 S 57 [(0, .ref q), (2, .int a2), (3, .int a3), (4, .int a4), (9, .int r_3), (10, .long e.1), (12, .int e.2)] []) (fun rec_6 hrec_6 e h => ?_) zN (b5, (0 : Int32)) h
      obtain ⟨x10_4, x12_5⟩ := e
      have Jrec_6 : ∀ (x10_4 : Int64) (x12_5 : Int32), rec_6 (x10_4, x12_5) = some r → zV E (wC cI q ad) 14 S 57 [(0, .ref q), (2, .int a2), (3, .int a3), (4, .int a4), (9, .int r_3), (10, .long x10_4), (12, .int x12_5)] [] := fun x10_4 x12_5 h => hrec_6 _ h
      clear hrec_6
      dsimp only [F_X4_leastLegs_57] at h
      show zV E (wC cI q ad) 14 S 57 [(0, .ref q), (2, .int a2), (3, .int a3), (4, .int a4), (9, .int r_3), (10, .long x10_4), (12, .int x12_5)] []
      refine zV_iload (n := 59) C0 6 dX4_leastLegs_57 rfl rfl ?_
      refine zV_aload_n (n := 60) C0 0 dX4_leastLegs_59 rfl rfl ?_
      refine zV_get (n := 63) (ref := RX4) C0 hinX4_leastLegs_X4 0 rfl rfl 1 (Nat.le_of_ble_eq_true rfl) mX4_leastLegs_1 rfl rfl dX4_leastLegs_60 rfl ?_
      refine zV_getN (n := 66) (ref := RX1) C0 hinX4_leastLegs_X1 2 rfl rfl 1 (Nat.le_of_ble_eq_true rfl) (fun hN => va_Nw.use rfl (hN _ (List.mem_of_getElem? (i := 2) rfl))) rfl rfl dX4_leastLegs_63 rfl ?_
      refine zV_icmp_ge (tgt := 117) (n := 69) C0 dX4_leastLegs_66 rfl rfl (fun hb_14 => ?_) (fun hb_14 => ?_)
      · replace h := if_t hb_14 h
        refine zV_lload (n := 119) C0 5 dX4_leastLegs_117 rfl rfl ?_
        exact zretJ1 hR h dX4_leastLegs_119
      · replace h := if_f hb_14 h
        refine zV_iload (n := 71) C0 6 dX4_leastLegs_69 rfl rfl ?_
        refine zV_iconst (n := 72) (v := (1 : Int32)) C0 dX4_leastLegs_71 rfl rfl ?_
        refine zV_iadd (n := 73) C0 dX4_leastLegs_72  rfl ?_
        refine zV_topi (fun x13_7 ex13_7 => ?_)
        replace h := zlet_of ex13_7 h
        clear ex13_7
        refine zV_istore (n := 75) C0 [(13, .int x13_7), (0, .ref q), (2, .int a2), (3, .int a3), (4, .int a4), (9, .int r_3), (10, .long x10_4), (12, .int x12_5)] dX4_leastLegs_73 rfl (Nat.le_of_ble_eq_true rfl) rfl ?_
        refine zV_sub [1, 2, 3, 4, 5, 6, 7, 0] rfl ?_
        refine zfix_ind (fun e => zV E (wC cI q ad) 14 S 75 [(0, .ref q), (2, .int a2), (3, .int a3), (4, .int a4), (9, .int r_3), (10, .long e.1), (12, .int x12_5), (13, .int e.2)] []) (fun rec_10 hrec_10 e h => ?_) zN (x10_4, x13_7) h
        obtain ⟨x10_8, x13_9⟩ := e
        have Jrec_10 : ∀ (x10_8 : Int64) (x13_9 : Int32), rec_10 (x10_8, x13_9) = some r → zV E (wC cI q ad) 14 S 75 [(0, .ref q), (2, .int a2), (3, .int a3), (4, .int a4), (9, .int r_3), (10, .long x10_8), (12, .int x12_5), (13, .int x13_9)] [] := fun x10_8 x13_9 h => hrec_10 _ h
        clear hrec_10
        dsimp only [F_X4_leastLegs_75] at h
        show zV E (wC cI q ad) 14 S 75 [(0, .ref q), (2, .int a2), (3, .int a3), (4, .int a4), (9, .int r_3), (10, .long x10_8), (12, .int x12_5), (13, .int x13_9)] []
        refine zV_iload (n := 77) C0 7 dX4_leastLegs_75 rfl rfl ?_
        refine zV_aload_n (n := 78) C0 0 dX4_leastLegs_77 rfl rfl ?_
        refine zV_get (n := 81) (ref := RX4) C0 hinX4_leastLegs_X4 0 rfl rfl 1 (Nat.le_of_ble_eq_true rfl) mX4_leastLegs_1 rfl rfl dX4_leastLegs_78 rfl ?_
        refine zV_getN (n := 84) (ref := RX1) C0 hinX4_leastLegs_X1 2 rfl rfl 1 (Nat.le_of_ble_eq_true rfl) (fun hN => va_Nw.use rfl (hN _ (List.mem_of_getElem? (i := 2) rfl))) rfl rfl dX4_leastLegs_81 rfl ?_
        refine zV_icmp_ge (tgt := 111) (n := 87) C0 dX4_leastLegs_84 rfl rfl (fun hb_13 => ?_) (fun hb_13 => ?_)
        · replace h := if_t hb_13 h
          refine zV_iinc (n := 114) C0 6 (v := (x12_5 + (1 : Int32))) [(12, .int (x12_5 + (1 : Int32))), (0, .ref q), (2, .int a2), (3, .int a3), (4, .int a4), (9, .int r_3), (10, .long x10_8), (13, .int x13_9)] dX4_leastLegs_111 rfl rfl rfl (Nat.le_of_ble_eq_true rfl) rfl ?_
          refine zV_goto (tgt := 57) C0 dX4_leastLegs_114 rfl ?_
          refine zV_sub [1, 2, 3, 4, 5, 6, 0] rfl ?_
          exact Jrec_6 x10_8 (x12_5 + (1 : Int32)) h
        · replace h := if_f hb_13 h
          refine zV_aload_n (n := 88) C0 0 dX4_leastLegs_87 rfl rfl ?_
          refine zV_iload (n := 90) C0 4 dX4_leastLegs_88 rfl rfl ?_
          refine zV_iload (n := 92) C0 6 dX4_leastLegs_90 rfl rfl ?_
          refine zV_iload (n := 94) C0 7 dX4_leastLegs_92 rfl rfl ?_
          refine zV_iload_n (n := 95) C0 1 dX4_leastLegs_94 rfl rfl ?_
          refine zV_iload_n (n := 96) C0 2 dX4_leastLegs_95 rfl rfl ?_
          refine zV_iload (n := 98) C0 3 dX4_leastLegs_96 rfl rfl ?_
          refine zV_lload (n := 100) C0 5 dX4_leastLegs_98 rfl rfl ?_
          obtain ⟨r_12, hc_11, h⟩ := ob_of h
          refine zV_callVJ (n := 103) (st := []) (As := [.int r_3, .int x12_5, .int x13_9, .int a2, .int a3, .int a4, .long x10_8]) C0 (kb_X4_leastBehind n rec_ S hrec r_3 x12_5 x13_9 a2 a3 a4 x10_8 _ hc_11) gX4_leastLegs_X4_leastBehind rfl (hd_X4_leastBehind) rfl ⟨rfl, rfl⟩ ⟨by simp only [zRm]; omega, by simp only [zRm]; omega⟩ 0 rfl rfl rfl (Nat.le_of_ble_eq_true rfl) dX4_leastLegs_100 rfl ?_
          refine zV_lstore (n := 105) C0 [(10, .long r_12), (0, .ref q), (2, .int a2), (3, .int a3), (4, .int a4), (9, .int r_3), (12, .int x12_5), (13, .int x13_9)] dX4_leastLegs_103 rfl (Nat.le_of_ble_eq_true rfl) rfl ?_
          refine zV_iinc (n := 108) C0 7 (v := (x13_9 + (1 : Int32))) [(13, .int (x13_9 + (1 : Int32))), (10, .long r_12), (0, .ref q), (2, .int a2), (3, .int a3), (4, .int a4), (9, .int r_3), (12, .int x12_5)] dX4_leastLegs_105 rfl rfl rfl (Nat.le_of_ble_eq_true rfl) rfl ?_
          refine zV_goto (tgt := 75) C0 dX4_leastLegs_108 rfl ?_
          refine zV_sub [2, 3, 4, 5, 6, 1, 7, 0] rfl ?_
          exact Jrec_10 r_12 (x13_9 + (1 : Int32)) h
    · replace h := if_f hb_16 h
      refine zV_lload (n := 40) C0 7 dX4_leastLegs_38 rfl rfl ?_
      refine zV_lload (n := 42) C0 1 dX4_leastLegs_40 rfl rfl ?_
      refine zV_iload (n := 44) C0 6 dX4_leastLegs_42 rfl rfl ?_
      refine zV_i2l (n := 45) C0 dX4_leastLegs_44  rfl ?_
      refine zV_ladd (n := 46) C0 dX4_leastLegs_45  rfl ?_
      refine zV_mmin_long (n := 49) C0 dX4_leastLegs_46 mX4_leastLegs_2 mX4_leastLegs_3 mX4_leastLegs_4 mX4_leastLegs_5 (by simp only [zRm]; omega) (by simp only [zRm, List.map_nil, List.sum_nil]; omega) rfl ?_
      refine zV_topl (fun t_15 et_15 => ?_)
      replace h := zlet_of et_15 h
      clear et_15
      exact zretJ1 hR h dX4_leastLegs_49
  · replace h := if_f hb_17 h
    refine zV_lload (n := 18) C0 6 dX4_leastLegs_16 rfl rfl ?_
    exact zretJ1 hR h dX4_leastLegs_18
set_option maxRecDepth 20000 in
set_option maxHeartbeats 4000000 in
theorem k_X4_leastLegs {l : Launch} {D : va_G} {cI cZ : ClassId} {q : Nat} {ad : Nat → Nat} (n : Nat) (a1 : Int32) (a2 : Int32) (a3 : Int32) (a4 : Int32) (b5 : Int64) (S : zS) (r : Int64) (h : zfix (F_X4_leastLegs S) n (a1, a2, a3, a4, b5) = some r) : zJ l yX4_leastLegs wsX4_leastLegs (zRm (3 + 2 * n) (80 + n * 63)) D (zty cI cZ) zNw (wC cI q ad) [.ref q, .int a1, .int a2, .int a3, .int a4, .long b5] S (r, S) := kr_X4_leastLegs S n (a1, a2, a3, a4, b5) r h
set_option maxRecDepth 20000 in
theorem mX4_soonestLegs_0 : Cond.fieldLink RX4 19 "LeggedThrough" "plan" "LLeggedThrough$Plan;" ∈ wsX4_soonestLegs := by decide +kernel
set_option maxRecDepth 20000 in
theorem mX4_soonestLegs_1 : Cond.fieldLink RX4 26 "LeggedThrough" "state" "LLeggedThrough$State;" ∈ wsX4_soonestLegs := by decide +kernel
set_option maxRecDepth 20000 in
theorem mX4_soonestLegs_2 : Cond.constantLong RX4 265 (1000000000000 : Int64) ∈ wsX4_soonestLegs := by decide +kernel
set_option maxRecDepth 20000 in
theorem mX4_soonestLegs_3 : Cond.constantLong RX4 160 (-9 : Int64) ∈ wsX4_soonestLegs := by decide +kernel
set_option maxRecDepth 20000 in
theorem hinX4_soonestLegs_X1 : ∀ w ∈ u_ws RX1 TX1 5, w ∈ wsX4_soonestLegs := fun w h => List.mem_cons_of_mem _ (List.mem_append_right _ h)
set_option maxRecDepth 20000 in
theorem hinX4_soonestLegs_X2 : ∀ w ∈ u_ws RX2 TX2 4, w ∈ wsX4_soonestLegs := fun w h => List.mem_cons_of_mem _ (List.mem_append_left _ (List.mem_append_right _ h))
set_option maxRecDepth 20000 in
theorem hinX4_soonestLegs_X4 : ∀ w ∈ u_ws RX4 TX4 10, w ∈ wsX4_soonestLegs := fun w h => List.mem_cons_of_mem _ (List.mem_append_left _ (List.mem_append_left _ (List.mem_append_right _ h)))
set_option maxRecDepth 20000 in
set_option maxHeartbeats 4000000 in
theorem k_X4_soonestLegs {l : Launch} {D : va_G} {cI cZ : ClassId} {q : Nat} {ad : Nat → Nat}   (S : zS) (r : Int64) (h : f_X4_soonestLegs  S = some r) : zJ l yX4_soonestLegs wsX4_soonestLegs (zRm 20 617) D (zty cI cZ) zNw (wC cI q ad) [.ref q] S (r, S) := by
  refine zJ_of (cc := cX4_soonestLegs) (maxL := 2)  (by decide +kernel) rfl (Nat.le_of_ble_eq_true rfl) zNw_ok (fun E hE1 hE2 C0 hR => ?_)
  subst hE1; subst hE2
  replace C0 : zCx E (zRm 20 617) cX4_soonestLegs 2 RX4 wsX4_soonestLegs (zty cI cZ) zNw := C0
  show zV E (wC cI q ad) 2 S 0 [(0, .ref q)] []
  delta f_X4_soonestLegs at h
  refine zV_aload_n (n := 1) C0 0 dX4_soonestLegs_0 rfl rfl ?_
  refine zV_get (n := 4) (ref := RX4) C0 hinX4_soonestLegs_X4 0 rfl rfl 1 (Nat.le_of_ble_eq_true rfl) mX4_soonestLegs_0 rfl rfl dX4_soonestLegs_1 rfl ?_
  obtain ⟨r_2, hc_1, h⟩ := ob_of h
  refine zV_callVI (n := 7) (st := []) (As := []) C0 (k_X1_allBoats  S _ hc_1) gX4_soonestLegs_X1_allBoats rfl (hd_X1_allBoats) rfl ⟨rfl, rfl⟩ ⟨Nat.le_of_ble_eq_true rfl, Nat.le_of_ble_eq_true rfl⟩ 2 rfl rfl rfl (Nat.le_of_ble_eq_true rfl) dX4_soonestLegs_4 rfl ?_
  refine zV_aload_n (n := 8) C0 0 dX4_soonestLegs_7 rfl rfl ?_
  refine zV_get (n := 11) (ref := RX4) C0 hinX4_soonestLegs_X4 0 rfl rfl 2 (Nat.le_of_ble_eq_true rfl) mX4_soonestLegs_1 rfl rfl dX4_soonestLegs_8 rfl ?_
  refine zV_getN (n := 14) (ref := RX2) C0 hinX4_soonestLegs_X2 3 rfl rfl 2 (Nat.le_of_ble_eq_true rfl) (fun hN => va_Nw.use rfl (hN _ (List.mem_of_getElem? (i := 5) rfl))) rfl rfl dX4_soonestLegs_11 rfl ?_
  refine zV_iconst (n := 15) (v := (-1 : Int32)) C0 dX4_soonestLegs_14 rfl rfl ?_
  refine zV_ixor (n := 16) C0 dX4_soonestLegs_15  rfl ?_
  refine zV_iand (n := 17) C0 dX4_soonestLegs_16  rfl ?_
  refine zV_topi (fun x1_3 ex1_3 => ?_)
  replace h := zlet_of ex1_3 h
  clear ex1_3
  refine zV_istore_n (n := 18) C0 [(1, .int x1_3), (0, .ref q)] dX4_soonestLegs_17 rfl rfl (Nat.le_of_ble_eq_true rfl) rfl ?_
  refine zV_iload_n (n := 19) C0 0 dX4_soonestLegs_18 rfl rfl ?_
  refine zjoin_of h (fun k_4 hk_4 h => ?_)
  have Jk_4 : k_4 () = some r → zV E (wC cI q ad) 2 S 37 [(0, .ref q)] [] := by
    intro  h
    replace h := hk_4 _ h
    refine zV_aload_n (n := 38) C0 0 dX4_soonestLegs_37 rfl rfl ?_
    refine zV_iconst (n := 39) (v := (0 : Int32)) C0 dX4_soonestLegs_38 rfl rfl ?_
    refine zV_aload_n (n := 40) C0 0 dX4_soonestLegs_39 rfl rfl ?_
    refine zV_get (n := 43) (ref := RX4) C0 hinX4_soonestLegs_X4 0 rfl rfl 2 (Nat.le_of_ble_eq_true rfl) mX4_soonestLegs_1 rfl rfl dX4_soonestLegs_40 rfl ?_
    refine zV_getN (n := 46) (ref := RX2) C0 hinX4_soonestLegs_X2 3 rfl rfl 1 (Nat.le_of_ble_eq_true rfl) (fun hN => va_Nw.use rfl (hN _ (List.mem_of_getElem? (i := 4) rfl))) rfl rfl dX4_soonestLegs_43 rfl ?_
    refine zV_iconst (n := 47) (v := (0 : Int32)) C0 dX4_soonestLegs_46 rfl rfl ?_
    refine zV_iconst (n := 48) (v := (0 : Int32)) C0 dX4_soonestLegs_47 rfl rfl ?_
    refine zV_ldc2 (n := 51) (v := (1000000000000 : Int64)) C0 dX4_soonestLegs_48 mX4_soonestLegs_2 rfl ?_
    obtain ⟨r_6, hc_5, h⟩ := ob_of h
    refine zV_callVJ (n := 54) (st := []) (As := [.int (0 : Int32), .int (S.1 16), .int (0 : Int32), .int (0 : Int32), .long (1000000000000 : Int64)]) C0 (k_X4_leastLegs 8 (0 : Int32) (S.1 16) (0 : Int32) (0 : Int32) (1000000000000 : Int64) S _ hc_5) gX4_soonestLegs_X4_leastLegs rfl (hd_X4_leastLegs) rfl ⟨rfl, rfl⟩ ⟨Nat.le_of_ble_eq_true rfl, Nat.le_of_ble_eq_true rfl⟩ 0 rfl rfl rfl (Nat.le_of_ble_eq_true rfl) dX4_soonestLegs_51 rfl ?_
    exact zretJ1 hR h dX4_soonestLegs_54
  clear hk_4
  refine zV_if_eq (tgt := 37) (n := 22) C0 dX4_soonestLegs_19 rfl rfl (fun hb_8 => ?_) (fun hb_8 => ?_)
  · replace h := if_t hb_8 h
    refine zV_sub [1] rfl ?_
    exact Jk_4  h
  · replace h := if_f hb_8 h
    refine zV_aload_n (n := 23) C0 1 dX4_soonestLegs_22 rfl rfl ?_
    refine zV_get (n := 26) (ref := RX4) C0 hinX4_soonestLegs_X4 0 rfl rfl 1 (Nat.le_of_ble_eq_true rfl) mX4_soonestLegs_0 rfl rfl dX4_soonestLegs_23 rfl ?_
    refine zV_getN (n := 29) (ref := RX1) C0 hinX4_soonestLegs_X1 2 rfl rfl 1 (Nat.le_of_ble_eq_true rfl) (fun hN => va_Nw.use rfl (hN _ (List.mem_of_getElem? (i := 2) rfl))) rfl rfl dX4_soonestLegs_26 rfl ?_
    refine zV_iconst (n := 30) (v := (2 : Int32)) C0 dX4_soonestLegs_29 rfl rfl ?_
    refine zV_icmp_ge (tgt := 37) (n := 33) C0 dX4_soonestLegs_30 rfl rfl (fun hb_7 => ?_) (fun hb_7 => ?_)
    · replace h := if_t hb_7 h
      refine zV_sub [1] rfl ?_
      exact Jk_4  h
    · replace h := if_f hb_7 h
      refine zV_ldc2 (n := 36) (v := (-9 : Int64)) C0 dX4_soonestLegs_33 mX4_soonestLegs_3 rfl ?_
      exact zretJ1 hR h dX4_soonestLegs_36
set_option maxRecDepth 20000 in
theorem mX4_soonest_0 : Cond.constantLong RX4 160 (-9 : Int64) ∈ wsX4_soonest := by decide +kernel
set_option maxRecDepth 20000 in
theorem mX4_soonest_1 : Cond.constantLong RX4 162 (1000000000 : Int64) ∈ wsX4_soonest := by decide +kernel
set_option maxRecDepth 20000 in
set_option maxHeartbeats 4000000 in
theorem k_X4_soonest {l : Launch} {D : va_G} {cI cZ : ClassId} {q : Nat} {ad : Nat → Nat} (a1 : Int32)  (S : zS) (r : Int32) (h : f_X4_soonest a1 S = some r) : zI l yX4_soonest wsX4_soonest (zRm 21 638) D (zty cI cZ) zNw (wC cI q ad) [.ref q, .int a1] S (r, S) := by
  refine zI_of (cc := cX4_soonest) (maxL := 4) (ty := .int) (by decide +kernel) rfl (Nat.le_of_ble_eq_true rfl) zNw_ok (fun E hE1 hE2 C0 hR => ?_)
  subst hE1; subst hE2
  replace C0 : zCx E (zRm 21 638) cX4_soonest 4 RX4 wsX4_soonest (zty cI cZ) zNw := C0
  show zV E (wC cI q ad) 4 S 0 [(0, .ref q), (1, .int a1)] []
  delta f_X4_soonest at h
  refine zV_aload_n (n := 1) C0 0 dX4_soonest_0 rfl rfl ?_
  obtain ⟨r_2, hc_1, h⟩ := ob_of h
  refine zV_callVJ (n := 4) (st := []) (As := []) C0 (k_X4_soonestLegs  S _ hc_1) gX4_soonest_X4_soonestLegs rfl (hd_X4_soonestLegs) rfl ⟨rfl, rfl⟩ ⟨Nat.le_of_ble_eq_true rfl, Nat.le_of_ble_eq_true rfl⟩ 0 rfl rfl rfl (Nat.le_of_ble_eq_true rfl) dX4_soonest_1 rfl ?_
  refine zV_lstore_n (n := 5) C0 [(2, .long r_2), (0, .ref q), (1, .int a1)] dX4_soonest_4 rfl rfl (Nat.le_of_ble_eq_true rfl) rfl ?_
  refine zV_lload_n (n := 6) C0 0 dX4_soonest_5 rfl rfl ?_
  refine zV_ldc2 (n := 9) (v := (-9 : Int64)) C0 dX4_soonest_6 mX4_soonest_0 rfl ?_
  refine zV_lcmp (n := 10) C0 dX4_soonest_9  rfl ?_
  refine zV_if_ne (tgt := 16) (n := 13) C0 dX4_soonest_10 rfl rfl (fun hb_6 => ?_) (fun hb_6 => ?_)
  · replace h := if_f hb_6 h
    refine zV_iload_n (n := 17) C0 2 dX4_soonest_16 rfl rfl ?_
    refine zjoin_of h (fun k_4 hk_4 h => ?_)
    have Jk_4 : ∀ (s_3 : Int64), k_4 (s_3) = some r → zV E (wC cI q ad) 4 S 33 [] [.long s_3] := by
      intro s_3 h
      replace h := hk_4 _ h
      refine zV_l2i (n := 34) C0 dX4_soonest_33  rfl ?_
      exact zretI1 hR h rfl dX4_soonest_34
    clear hk_4
    refine zV_if_eq (tgt := 28) (n := 20) C0 dX4_soonest_17 rfl rfl (fun hb_5 => ?_) (fun hb_5 => ?_)
    · replace h := if_t hb_5 h
      refine zV_lload_n (n := 29) C0 0 dX4_soonest_28 rfl rfl ?_
      refine zV_ldc2 (n := 32) (v := (1000000000 : Int64)) C0 dX4_soonest_29 mX4_soonest_1 rfl ?_
      refine zV_ldiv (n := 33) C0 dX4_soonest_32 (by decide) rfl ?_
      refine zV_sub [] rfl ?_
      exact Jk_4 (r_2 / (1000000000 : Int64)) h
    · replace h := if_f hb_5 h
      refine zV_lload_n (n := 21) C0 0 dX4_soonest_20 rfl rfl ?_
      refine zV_ldc2 (n := 24) (v := (1000000000 : Int64)) C0 dX4_soonest_21 mX4_soonest_1 rfl ?_
      refine zV_lrem (n := 25) C0 dX4_soonest_24 (by decide) rfl ?_
      refine zV_goto (tgt := 33) C0 dX4_soonest_25 rfl ?_
      refine zV_sub [] rfl ?_
      exact Jk_4 (zremL r_2 (1000000000 : Int64)) h
  · replace h := if_t hb_6 h
    refine zV_bipush (n := 15) (v := (-9 : Int32)) C0 dX4_soonest_13 rfl rfl ?_
    exact zretI1 hR h rfl dX4_soonest_15
set_option maxRecDepth 20000 in
theorem mX4_judge_0 : Cond.fieldLink RX4 26 "LeggedThrough" "state" "LLeggedThrough$State;" ∈ wsX4_judge := by decide +kernel
set_option maxRecDepth 20000 in
theorem hinX4_judge_X2 : ∀ w ∈ u_ws RX2 TX2 4, w ∈ wsX4_judge := fun w h => List.mem_cons_of_mem _ (List.mem_append_left _ (List.mem_append_right _ h))
set_option maxRecDepth 20000 in
theorem hinX4_judge_X4 : ∀ w ∈ u_ws RX4 TX4 10, w ∈ wsX4_judge := fun w h => List.mem_cons_of_mem _ (List.mem_append_left _ (List.mem_append_left _ (List.mem_append_right _ h)))
set_option maxRecDepth 20000 in
set_option maxHeartbeats 4000000 in
theorem k_X4_judge {l : Launch} {D : va_G} {cI cZ : ClassId} {q : Nat} {ad : Nat → Nat} (a1 : Int32) (a2 : Int32)  (S : zS) (r : Int32) (h : f_X4_judge a1 a2 S = some r) : zI l yX4_judge wsX4_judge (zRm 2 44) D (zty cI cZ) zNw (wC cI q ad) [.ref q, .int a1, .int a2] S (r, S) := by
  refine zI_of (cc := cX4_judge) (maxL := 7) (ty := .int) (by decide +kernel) rfl (Nat.le_of_ble_eq_true rfl) zNw_ok (fun E hE1 hE2 C0 hR => ?_)
  subst hE1; subst hE2
  replace C0 : zCx E (zRm 2 44) cX4_judge 7 RX4 wsX4_judge (zty cI cZ) zNw := C0
  show zV E (wC cI q ad) 7 S 0 [(0, .ref q), (1, .int a1), (2, .int a2)] []
  delta f_X4_judge at h
  refine zV_iload_n (n := 1) C0 1 dX4_judge_0 rfl rfl ?_
  refine zV_iconst (n := 2) (v := (1 : Int32)) C0 dX4_judge_1 rfl rfl ?_
  refine zjoin_of h (fun k_1 hk_1 h => ?_)
  have Jk_1 : k_1 () = some r → zV E (wC cI q ad) 7 S 22 [] [] := by
    intro  h
    replace h := hk_1 _ h
    refine zV_bipush (n := 24) (v := (-2 : Int32)) C0 dX4_judge_22 rfl rfl ?_
    exact zretI1 hR h rfl dX4_judge_24
  clear hk_1
  refine zV_icmp_lt (tgt := 22) (n := 5) C0 dX4_judge_2 rfl rfl (fun hb_24 => ?_) (fun hb_24 => ?_)
  · replace h := if_t hb_24 h
    refine zV_sub [] rfl ?_
    exact Jk_1  h
  · replace h := if_f hb_24 h
    refine zV_iload_n (n := 6) C0 1 dX4_judge_5 rfl rfl ?_
    refine zV_iconst (n := 7) (v := (3 : Int32)) C0 dX4_judge_6 rfl rfl ?_
    refine zV_icmp_gt (tgt := 22) (n := 10) C0 dX4_judge_7 rfl rfl (fun hb_23 => ?_) (fun hb_23 => ?_)
    · replace h := if_t hb_23 h
      refine zV_sub [] rfl ?_
      exact Jk_1  h
    · replace h := if_f hb_23 h
      refine zV_iload_n (n := 11) C0 2 dX4_judge_10 rfl rfl ?_
      refine zV_if_lt (tgt := 22) (n := 14) C0 dX4_judge_11 rfl rfl (fun hb_22 => ?_) (fun hb_22 => ?_)
      · replace h := if_t hb_22 h
        refine zV_sub [] rfl ?_
        exact Jk_1  h
      · replace h := if_f hb_22 h
        refine zV_iload_n (n := 15) C0 2 dX4_judge_14 rfl rfl ?_
        refine zV_iload_n (n := 16) C0 1 dX4_judge_15 rfl rfl ?_
        obtain ⟨r_3, hc_2, h⟩ := ob_of h
        refine zV_callS0 (n := 19) (st := []) (As := [.int a2, .int a1]) C0 (k_X4_legTold a2 a1 _ hc_2) gX4_judge_X4_legTold rfl (hd_X4_legTold) rfl ⟨rfl, rfl⟩ ⟨Nat.le_of_ble_eq_true rfl, Nat.le_of_ble_eq_true rfl⟩ rfl (Nat.le_of_ble_eq_true rfl) dX4_judge_16 rfl ?_
        refine zV_if_eq (tgt := 25) (n := 22) C0 dX4_judge_19 rfl rfl (fun hb_21 => ?_) (fun hb_21 => ?_)
        · replace h := if_t hb_21 h
          refine zV_aload_n (n := 26) C0 0 dX4_judge_25 rfl rfl ?_
          refine zV_get (n := 29) (ref := RX4) C0 hinX4_judge_X4 0 rfl rfl 2 (Nat.le_of_ble_eq_true rfl) mX4_judge_0 rfl rfl dX4_judge_26 rfl ?_
          refine zV_getN (n := 32) (ref := RX2) C0 hinX4_judge_X2 3 rfl rfl 2 (Nat.le_of_ble_eq_true rfl) (fun hN => va_Nw.use rfl (hN _ (List.mem_of_getElem? (i := 5) rfl))) rfl rfl dX4_judge_29 rfl ?_
          refine zV_topi (fun x3_4 ex3_4 => ?_)
          replace h := zlet_of ex3_4 h
          clear ex3_4
          refine zV_istore_n (n := 33) C0 [(3, .int x3_4), (0, .ref q), (1, .int a1), (2, .int a2)] dX4_judge_32 rfl rfl (Nat.le_of_ble_eq_true rfl) rfl ?_
          refine zV_iconst (n := 34) (v := (0 : Int32)) C0 dX4_judge_33 rfl rfl ?_
          refine zV_istore (n := 36) C0 [(4, .int (0 : Int32)), (3, .int x3_4), (0, .ref q), (1, .int a1), (2, .int a2)] dX4_judge_34 rfl (Nat.le_of_ble_eq_true rfl) rfl ?_
          refine zV_sub [2, 3, 4, 1, 0] rfl ?_
          refine zfix_ind (fun e => zV E (wC cI q ad) 7 S 36 [(0, .ref q), (1, .int a1), (2, .int a2), (3, .int e.1), (4, .int e.2)] []) (fun rec_7 hrec_7 e h => ?_) zN (x3_4, (0 : Int32)) h
          obtain ⟨x3_5, x4_6⟩ := e
          have Jrec_7 : ∀ (x3_5 : Int32) (x4_6 : Int32), rec_7 (x3_5, x4_6) = some r → zV E (wC cI q ad) 7 S 36 [(0, .ref q), (1, .int a1), (2, .int a2), (3, .int x3_5), (4, .int x4_6)] [] := fun x3_5 x4_6 h => hrec_7 _ h
          clear hrec_7
          dsimp only [F_X4_judge_36] at h
          show zV E (wC cI q ad) 7 S 36 [(0, .ref q), (1, .int a1), (2, .int a2), (3, .int x3_5), (4, .int x4_6)] []
          refine zV_iload (n := 38) C0 4 dX4_judge_36 rfl rfl ?_
          refine zV_iload_n (n := 39) C0 1 dX4_judge_38 rfl rfl ?_
          refine zV_icmp_ge (tgt := 112) (n := 42) C0 dX4_judge_39 rfl rfl (fun hb_20 => ?_) (fun hb_20 => ?_)
          · replace h := if_t hb_20 h
            refine zV_bipush (n := 114) (v := (-9 : Int32)) C0 dX4_judge_112 rfl rfl ?_
            exact zretI1 hR h rfl dX4_judge_114
          · replace h := if_f hb_20 h
            refine zV_iload_n (n := 43) C0 2 dX4_judge_42 rfl rfl ?_
            refine zV_iload_n (n := 44) C0 1 dX4_judge_43 rfl rfl ?_
            refine zV_iconst (n := 45) (v := (1 : Int32)) C0 dX4_judge_44 rfl rfl ?_
            refine zV_isub (n := 46) C0 dX4_judge_45  rfl ?_
            refine zV_iload (n := 48) C0 4 dX4_judge_46 rfl rfl ?_
            refine zV_isub (n := 49) C0 dX4_judge_48  rfl ?_
            obtain ⟨r_9, hc_8, h⟩ := ob_of h
            refine zV_callS0 (n := 52) (st := []) (As := [.int a2, .int ((a1 - (1 : Int32)) - x4_6)]) C0 (k_X4_legTold a2 ((a1 - (1 : Int32)) - x4_6) _ hc_8) gX4_judge_X4_legTold rfl (hd_X4_legTold) rfl ⟨rfl, rfl⟩ ⟨Nat.le_of_ble_eq_true rfl, Nat.le_of_ble_eq_true rfl⟩ rfl (Nat.le_of_ble_eq_true rfl) dX4_judge_49 rfl ?_
            refine zV_sipush (n := 55) (v := (1000 : Int32)) C0 dX4_judge_52 rfl rfl ?_
            refine zV_irem (n := 56) C0 dX4_judge_55 (by decide) rfl ?_
            refine zV_topi (fun x5_10 ex5_10 => ?_)
            replace h := zlet_of ex5_10 h
            clear ex5_10
            refine zV_istore (n := 58) C0 [(5, .int x5_10), (0, .ref q), (1, .int a1), (2, .int a2), (3, .int x3_5), (4, .int x4_6)] dX4_judge_56 rfl (Nat.le_of_ble_eq_true rfl) rfl ?_
            refine zV_iload (n := 60) C0 0 dX4_judge_58 rfl rfl ?_
            refine zV_bipush (n := 62) (v := (100 : Int32)) C0 dX4_judge_60 rfl rfl ?_
            refine zV_idiv (n := 63) C0 dX4_judge_62 (by decide) rfl ?_
            refine zV_topi (fun x6_11 ex6_11 => ?_)
            replace h := zlet_of ex6_11 h
            clear ex6_11
            refine zV_istore (n := 65) C0 [(6, .int x6_11), (5, .int x5_10), (0, .ref q), (1, .int a1), (2, .int a2), (3, .int x3_5), (4, .int x4_6)] dX4_judge_63 rfl (Nat.le_of_ble_eq_true rfl) rfl ?_
            refine zV_aload_n (n := 66) C0 2 dX4_judge_65 rfl rfl ?_
            refine zV_iload (n := 68) C0 0 dX4_judge_66 rfl rfl ?_
            refine zV_iload (n := 70) C0 1 dX4_judge_68 rfl rfl ?_
            refine zV_bipush (n := 72) (v := (10 : Int32)) C0 dX4_judge_70 rfl rfl ?_
            refine zV_idiv (n := 73) C0 dX4_judge_72 (by decide) rfl ?_
            refine zV_bipush (n := 75) (v := (10 : Int32)) C0 dX4_judge_73 rfl rfl ?_
            refine zV_irem (n := 76) C0 dX4_judge_75 (by decide) rfl ?_
            refine zV_iload (n := 78) C0 1 dX4_judge_76 rfl rfl ?_
            refine zV_bipush (n := 80) (v := (10 : Int32)) C0 dX4_judge_78 rfl rfl ?_
            refine zV_irem (n := 81) C0 dX4_judge_80 (by decide) rfl ?_
            obtain ⟨r_13, hc_12, h⟩ := ob_of h
            refine zV_callVI (n := 84) (st := []) (As := [.int x6_11, .int (zrem (x5_10 / (10 : Int32)) (10 : Int32)), .int (zrem x5_10 (10 : Int32))]) C0 (k_X4_pairRefusal x6_11 (zrem (x5_10 / (10 : Int32)) (10 : Int32)) (zrem x5_10 (10 : Int32)) S _ hc_12) gX4_judge_X4_pairRefusal rfl (hd_X4_pairRefusal) rfl ⟨rfl, rfl⟩ ⟨Nat.le_of_ble_eq_true rfl, Nat.le_of_ble_eq_true rfl⟩ 0 rfl rfl rfl (Nat.le_of_ble_eq_true rfl) dX4_judge_81 rfl ?_
            refine zjoin_of h (fun k_14 hk_14 h => ?_)
            have Jk_14 : k_14 () = some r → zV E (wC cI q ad) 7 S 96 [(4, .int x4_6)] [] := by
              intro  h
              replace h := hk_14 _ h
              refine zV_iload (n := 98) C0 0 dX4_judge_96 rfl rfl ?_
              exact zretI1 hR h rfl dX4_judge_98
            clear hk_14
            refine zV_if_ne (tgt := 96) (n := 87) C0 dX4_judge_84 rfl rfl (fun hb_19 => ?_) (fun hb_19 => ?_)
            · replace h := if_f hb_19 h
              refine zV_sub [6] rfl ?_
              exact Jk_14  h
            · replace h := if_t hb_19 h
              refine zV_iload_n (n := 88) C0 5 dX4_judge_87 rfl rfl ?_
              refine zV_iload (n := 90) C0 0 dX4_judge_88 rfl rfl ?_
              obtain ⟨r_16, hc_15, h⟩ := ob_of h
              refine zV_callS0 (n := 93) (st := []) (As := [.int x3_5, .int x6_11]) C0 (k_X4_isIn x3_5 x6_11 _ hc_15) gX4_judge_X4_isIn rfl (hd_X4_isIn) rfl ⟨rfl, rfl⟩ ⟨Nat.le_of_ble_eq_true rfl, Nat.le_of_ble_eq_true rfl⟩ rfl (Nat.le_of_ble_eq_true rfl) dX4_judge_90 rfl ?_
              refine zV_if_eq (tgt := 99) (n := 96) C0 dX4_judge_93 rfl rfl (fun hb_18 => ?_) (fun hb_18 => ?_)
              · replace h := if_t hb_18 h
                refine zV_iload_n (n := 100) C0 5 dX4_judge_99 rfl rfl ?_
                refine zV_iconst (n := 101) (v := (1 : Int32)) C0 dX4_judge_100 rfl rfl ?_
                refine zV_iload (n := 103) C0 0 dX4_judge_101 rfl rfl ?_
                refine zV_ishl (n := 104) C0 dX4_judge_103  rfl ?_
                refine zV_ior (n := 105) C0 dX4_judge_104  rfl ?_
                refine zV_topi (fun x3_17 ex3_17 => ?_)
                replace h := zlet_of ex3_17 h
                clear ex3_17
                refine zV_istore_n (n := 106) C0 [(3, .int x3_17), (6, .int x6_11), (5, .int x5_10), (0, .ref q), (1, .int a1), (2, .int a2), (4, .int x4_6)] dX4_judge_105 rfl rfl (Nat.le_of_ble_eq_true rfl) rfl ?_
                refine zV_iinc (n := 109) C0 6 (v := (x4_6 + (1 : Int32))) [(4, .int (x4_6 + (1 : Int32))), (3, .int x3_17), (6, .int x6_11), (5, .int x5_10), (0, .ref q), (1, .int a1), (2, .int a2)] dX4_judge_106 rfl rfl rfl (Nat.le_of_ble_eq_true rfl) rfl ?_
                refine zV_goto (tgt := 36) C0 dX4_judge_109 rfl ?_
                refine zV_sub [4, 5, 6, 1, 0] rfl ?_
                exact Jrec_7 x3_17 (x4_6 + (1 : Int32)) h
              · replace h := if_f hb_18 h
                refine zV_sub [6] rfl ?_
                exact Jk_14  h
        · replace h := if_f hb_21 h
          refine zV_sub [] rfl ?_
          exact Jk_1  h
set_option maxRecDepth 20000 in
theorem mX4_worth_0 : Cond.fieldLink RX4 19 "LeggedThrough" "plan" "LLeggedThrough$Plan;" ∈ wsX4_worth := by decide +kernel
set_option maxRecDepth 20000 in
theorem hinX4_worth_X4 : ∀ w ∈ u_ws RX4 TX4 10, w ∈ wsX4_worth := fun w h => List.mem_cons_of_mem _ (List.mem_append_left _ (List.mem_append_left _ (List.mem_append_right _ h)))
set_option maxRecDepth 20000 in
set_option maxHeartbeats 4000000 in
theorem k_X4_worth {l : Launch} {D : va_G} {cI cZ : ClassId} {q : Nat} {ad : Nat → Nat} (a1 : Int32) (a2 : Int32)  (S : zS) (r : Int32) (h : f_X4_worth a1 a2 S = some r) : zI l yX4_worth wsX4_worth (zRm 4 106) D (zty cI cZ) zNw (wC cI q ad) [.ref q, .int a1, .int a2] S (r, S) := by
  refine zI_of (cc := cX4_worth) (maxL := 4) (ty := .int) (by decide +kernel) rfl (Nat.le_of_ble_eq_true rfl) zNw_ok (fun E hE1 hE2 C0 hR => ?_)
  subst hE1; subst hE2
  replace C0 : zCx E (zRm 4 106) cX4_worth 4 RX4 wsX4_worth (zty cI cZ) zNw := C0
  show zV E (wC cI q ad) 4 S 0 [(0, .ref q), (1, .int a1), (2, .int a2)] []
  delta f_X4_worth at h
  refine zV_aload_n (n := 1) C0 0 dX4_worth_0 rfl rfl ?_
  refine zV_iload_n (n := 2) C0 2 dX4_worth_1 rfl rfl ?_
  obtain ⟨r_2, hc_1, h⟩ := ob_of h
  refine zV_callVI (n := 5) (st := []) (As := [.int a2]) C0 (k_X4_leastPair a2 S _ hc_1) gX4_worth_X4_leastPair rfl (hd_X4_leastPair) rfl ⟨rfl, rfl⟩ ⟨Nat.le_of_ble_eq_true rfl, Nat.le_of_ble_eq_true rfl⟩ 0 rfl rfl rfl (Nat.le_of_ble_eq_true rfl) dX4_worth_2 rfl ?_
  refine zV_istore_n (n := 6) C0 [(3, .int r_2), (0, .ref q), (1, .int a1), (2, .int a2)] dX4_worth_5 rfl rfl (Nat.le_of_ble_eq_true rfl) rfl ?_
  refine zV_iload_n (n := 7) C0 0 dX4_worth_6 rfl rfl ?_
  refine zV_bipush (n := 9) (v := (-9 : Int32)) C0 dX4_worth_7 rfl rfl ?_
  refine zjoin_of h (fun k_4 hk_4 h => ?_)
  have Jk_4 : ∀ (s_3 : Int32), k_4 (s_3) = some r → zV E (wC cI q ad) 4 S 33 [] [.int s_3] := by
    intro s_3 h
    replace h := hk_4 _ h
    exact zretI1 hR h rfl dX4_worth_33
  clear hk_4
  refine zV_icmp_ne (tgt := 16) (n := 12) C0 dX4_worth_9 rfl rfl (fun hb_7 => ?_) (fun hb_7 => ?_)
  · replace h := if_f hb_7 h
    refine zV_sipush (n := 19) (v := (200 : Int32)) C0 dX4_worth_16 rfl rfl ?_
    refine zV_iload_n (n := 20) C0 0 dX4_worth_19 rfl rfl ?_
    refine zV_bipush (n := 22) (v := (100 : Int32)) C0 dX4_worth_20 rfl rfl ?_
    refine zV_idiv (n := 23) C0 dX4_worth_22 (by decide) rfl ?_
    refine zV_isub (n := 24) C0 dX4_worth_23  rfl ?_
    refine zV_aload_n (n := 25) C0 1 dX4_worth_24 rfl rfl ?_
    refine zV_get (n := 28) (ref := RX4) C0 hinX4_worth_X4 0 rfl rfl 1 (Nat.le_of_ble_eq_true rfl) mX4_worth_0 rfl rfl dX4_worth_25 rfl ?_
    refine zV_iload_n (n := 29) C0 2 dX4_worth_28 rfl rfl ?_
    obtain ⟨r_6, hc_5, h⟩ := ob_of h
    refine zV_callVI (n := 32) (st := [.int ((200 : Int32) - (r_2 / (100 : Int32)))]) (As := [.int a1]) C0 (k_X1_loadOf a1 S _ hc_5) gX4_worth_X1_loadOf rfl (hd_X1_loadOf) rfl ⟨rfl, rfl⟩ ⟨Nat.le_of_ble_eq_true rfl, Nat.le_of_ble_eq_true rfl⟩ 2 rfl rfl rfl (Nat.le_of_ble_eq_true rfl) dX4_worth_29 rfl ?_
    refine zV_isub (n := 33) C0 dX4_worth_32  rfl ?_
    refine zV_sub [] rfl ?_
    exact Jk_4 (((200 : Int32) - (r_2 / (100 : Int32))) - r_6) h
  · replace h := if_t hb_7 h
    refine zV_iconst (n := 13) (v := (0 : Int32)) C0 dX4_worth_12 rfl rfl ?_
    refine zV_goto (tgt := 33) C0 dX4_worth_13 rfl ?_
    refine zV_sub [] rfl ?_
    exact Jk_4 (0 : Int32) h
set_option maxRecDepth 20000 in
theorem mX4_ordersBehind_0 : Cond.fieldLink RX4 19 "LeggedThrough" "plan" "LLeggedThrough$Plan;" ∈ wsX4_ordersBehind := by decide +kernel
set_option maxRecDepth 20000 in
theorem hinX4_ordersBehind_X1 : ∀ w ∈ u_ws RX1 TX1 5, w ∈ wsX4_ordersBehind := fun w h => List.mem_cons_of_mem _ (List.mem_append_right _ h)
set_option maxRecDepth 20000 in
theorem hinX4_ordersBehind_X4 : ∀ w ∈ u_ws RX4 TX4 10, w ∈ wsX4_ordersBehind := fun w h => List.mem_cons_of_mem _ (List.mem_append_left _ (List.mem_append_right _ h))
set_option maxRecDepth 20000 in
set_option maxHeartbeats 4000000 in
theorem k_X4_ordersBehind {l : Launch} {D : va_G} {cI cZ : ClassId} {q : Nat} {ad : Nat → Nat} (a1 : Int32)  (S : zS) (r : Int32) (h : f_X4_ordersBehind a1 S = some r) : zI l yX4_ordersBehind wsX4_ordersBehind (zRm 1 22) D (zty cI cZ) zNw (wC cI q ad) [.ref q, .int a1] S (r, S) := by
  refine zI_of (cc := cX4_ordersBehind) (maxL := 2) (ty := .int) (by decide +kernel) rfl (Nat.le_of_ble_eq_true rfl) zNw_ok (fun E hE1 hE2 C0 hR => ?_)
  subst hE1; subst hE2
  replace C0 : zCx E (zRm 1 22) cX4_ordersBehind 2 RX4 wsX4_ordersBehind (zty cI cZ) zNw := C0
  show zV E (wC cI q ad) 2 S 0 [(0, .ref q), (1, .int a1)] []
  delta f_X4_ordersBehind at h
  refine zV_iload_n (n := 1) C0 1 dX4_ordersBehind_0 rfl rfl ?_
  obtain ⟨r_2, hc_1, h⟩ := ob_of h
  refine zV_callS0 (n := 4) (st := []) (As := [.int a1]) C0 (k_X4_factorial a1 _ hc_1) gX4_ordersBehind_X4_factorial rfl (hd_X4_factorial) rfl ⟨rfl, rfl⟩ ⟨Nat.le_of_ble_eq_true rfl, Nat.le_of_ble_eq_true rfl⟩ rfl (Nat.le_of_ble_eq_true rfl) dX4_ordersBehind_1 rfl ?_
  refine zV_aload_n (n := 5) C0 0 dX4_ordersBehind_4 rfl rfl ?_
  refine zV_get (n := 8) (ref := RX4) C0 hinX4_ordersBehind_X4 0 rfl rfl 1 (Nat.le_of_ble_eq_true rfl) mX4_ordersBehind_0 rfl rfl dX4_ordersBehind_5 rfl ?_
  refine zV_getN (n := 11) (ref := RX1) C0 hinX4_ordersBehind_X1 2 rfl rfl 1 (Nat.le_of_ble_eq_true rfl) (fun hN => va_Nw.use rfl (hN _ (List.mem_of_getElem? (i := 2) rfl))) rfl rfl dX4_ordersBehind_8 rfl ?_
  refine zV_iconst (n := 12) (v := (1 : Int32)) C0 dX4_ordersBehind_11 rfl rfl ?_
  refine zV_isub (n := 13) C0 dX4_ordersBehind_12  rfl ?_
  refine zV_iload_n (n := 14) C0 1 dX4_ordersBehind_13 rfl rfl ?_
  refine zV_isub (n := 15) C0 dX4_ordersBehind_14  rfl ?_
  obtain ⟨r_4, hc_3, h⟩ := ob_of h
  refine zV_callS0 (n := 18) (st := [.int r_2]) (As := [.int (((S.1 11) - (1 : Int32)) - a1)]) C0 (k_X4_factorial (((S.1 11) - (1 : Int32)) - a1) _ hc_3) gX4_ordersBehind_X4_factorial rfl (hd_X4_factorial) rfl ⟨rfl, rfl⟩ ⟨Nat.le_of_ble_eq_true rfl, Nat.le_of_ble_eq_true rfl⟩ rfl (Nat.le_of_ble_eq_true rfl) dX4_ordersBehind_15 rfl ?_
  refine zV_imul (n := 19) C0 dX4_ordersBehind_18  rfl ?_
  exact zretI1 hR h rfl dX4_ordersBehind_19
set_option maxRecDepth 20000 in
theorem mX4_share_0 : Cond.fieldLink RX4 19 "LeggedThrough" "plan" "LLeggedThrough$Plan;" ∈ wsX4_share := by decide +kernel
set_option maxRecDepth 20000 in
theorem hinX4_share_X1 : ∀ w ∈ u_ws RX1 TX1 5, w ∈ wsX4_share := fun w h => List.mem_cons_of_mem _ (List.mem_append_left _ (List.mem_append_right _ h))
set_option maxRecDepth 20000 in
theorem hinX4_share_X4 : ∀ w ∈ u_ws RX4 TX4 10, w ∈ wsX4_share := fun w h => List.mem_cons_of_mem _ (List.mem_append_left _ (List.mem_append_left _ (List.mem_append_right _ h)))
set_option maxRecDepth 20000 in
set_option maxHeartbeats 4000000 in
theorem k_X4_share {l : Launch} {D : va_G} {cI cZ : ClassId} {q : Nat} {ad : Nat → Nat} (a1 : Int32) (a2 : Int32) (a3 : Int32)  (S : zS) (r : Int32) (h : f_X4_share a1 a2 a3 S = some r) : zI l yX4_share wsX4_share (zRm 5 129) D (zty cI cZ) zNw (wC cI q ad) [.ref q, .int a1, .int a2, .int a3] S (r, S) := by
  refine zI_of (cc := cX4_share) (maxL := 7) (ty := .int) (by decide +kernel) rfl (Nat.le_of_ble_eq_true rfl) zNw_ok (fun E hE1 hE2 C0 hR => ?_)
  subst hE1; subst hE2
  replace C0 : zCx E (zRm 5 129) cX4_share 7 RX4 wsX4_share (zty cI cZ) zNw := C0
  show zV E (wC cI q ad) 7 S 0 [(0, .ref q), (1, .int a1), (2, .int a2), (3, .int a3)] []
  delta f_X4_share at h
  refine zV_aload_n (n := 1) C0 0 dX4_share_0 rfl rfl ?_
  refine zV_get (n := 4) (ref := RX4) C0 hinX4_share_X4 0 rfl rfl 1 (Nat.le_of_ble_eq_true rfl) mX4_share_0 rfl rfl dX4_share_1 rfl ?_
  refine zV_iload_n (n := 5) C0 1 dX4_share_4 rfl rfl ?_
  obtain ⟨r_2, hc_1, h⟩ := ob_of h
  refine zV_callVI (n := 8) (st := []) (As := [.int a1]) C0 (k_X1_hasLegger a1 S _ hc_1) gX4_share_X1_hasLegger rfl (hd_X1_hasLegger) rfl ⟨rfl, rfl⟩ ⟨Nat.le_of_ble_eq_true rfl, Nat.le_of_ble_eq_true rfl⟩ 2 rfl rfl rfl (Nat.le_of_ble_eq_true rfl) dX4_share_5 rfl ?_
  refine zjoin_of h (fun k_3 hk_3 h => ?_)
  have Jk_3 : k_3 () = some r → zV E (wC cI q ad) 7 S 22 [] [] := by
    intro  h
    replace h := hk_3 _ h
    refine zV_iconst (n := 23) (v := (-1 : Int32)) C0 dX4_share_22 rfl rfl ?_
    exact zretI1 hR h rfl dX4_share_23
  clear hk_3
  refine zV_if_eq (tgt := 22) (n := 11) C0 dX4_share_8 rfl rfl (fun hb_32 => ?_) (fun hb_32 => ?_)
  · replace h := if_t hb_32 h
    refine zV_sub [] rfl ?_
    exact Jk_3  h
  · replace h := if_f hb_32 h
    refine zV_aload_n (n := 12) C0 0 dX4_share_11 rfl rfl ?_
    refine zV_get (n := 15) (ref := RX4) C0 hinX4_share_X4 0 rfl rfl 1 (Nat.le_of_ble_eq_true rfl) mX4_share_0 rfl rfl dX4_share_12 rfl ?_
    refine zV_iload_n (n := 16) C0 2 dX4_share_15 rfl rfl ?_
    obtain ⟨r_5, hc_4, h⟩ := ob_of h
    refine zV_callVI (n := 19) (st := []) (As := [.int a2]) C0 (k_X1_hasBoat a2 S _ hc_4) gX4_share_X1_hasBoat rfl (hd_X1_hasBoat) rfl ⟨rfl, rfl⟩ ⟨Nat.le_of_ble_eq_true rfl, Nat.le_of_ble_eq_true rfl⟩ 2 rfl rfl rfl (Nat.le_of_ble_eq_true rfl) dX4_share_16 rfl ?_
    refine zV_if_ne (tgt := 24) (n := 22) C0 dX4_share_19 rfl rfl (fun hb_31 => ?_) (fun hb_31 => ?_)
    · replace h := if_f hb_31 h
      refine zV_iconst (n := 25) (v := (0 : Int32)) C0 dX4_share_24 rfl rfl ?_
      refine zV_istore (n := 27) C0 [(4, .int (0 : Int32)), (0, .ref q), (1, .int a1), (2, .int a2), (3, .int a3)] dX4_share_25 rfl (Nat.le_of_ble_eq_true rfl) rfl ?_
      refine zV_iconst (n := 28) (v := (0 : Int32)) C0 dX4_share_27 rfl rfl ?_
      refine zV_istore (n := 30) C0 [(5, .int (0 : Int32)), (4, .int (0 : Int32)), (0, .ref q), (1, .int a1), (2, .int a2), (3, .int a3)] dX4_share_28 rfl (Nat.le_of_ble_eq_true rfl) rfl ?_
      refine zV_sub [2, 3, 4, 5, 1, 0] rfl ?_
      refine zfix_ind (fun e => zV E (wC cI q ad) 7 S 30 [(0, .ref q), (1, .int a1), (2, .int a2), (3, .int a3), (4, .int e.1), (5, .int e.2)] []) (fun rec_8 hrec_8 e h => ?_) zN ((0 : Int32), (0 : Int32)) h
      obtain ⟨x4_6, x5_7⟩ := e
      have Jrec_8 : ∀ (x4_6 : Int32) (x5_7 : Int32), rec_8 (x4_6, x5_7) = some r → zV E (wC cI q ad) 7 S 30 [(0, .ref q), (1, .int a1), (2, .int a2), (3, .int a3), (4, .int x4_6), (5, .int x5_7)] [] := fun x4_6 x5_7 h => hrec_8 _ h
      clear hrec_8
      dsimp only [F_X4_share_30] at h
      show zV E (wC cI q ad) 7 S 30 [(0, .ref q), (1, .int a1), (2, .int a2), (3, .int a3), (4, .int x4_6), (5, .int x5_7)] []
      refine zV_iload (n := 32) C0 5 dX4_share_30 rfl rfl ?_
      refine zV_aload_n (n := 33) C0 0 dX4_share_32 rfl rfl ?_
      refine zV_get (n := 36) (ref := RX4) C0 hinX4_share_X4 0 rfl rfl 1 (Nat.le_of_ble_eq_true rfl) mX4_share_0 rfl rfl dX4_share_33 rfl ?_
      obtain ⟨r_10, hc_9, h⟩ := ob_of h
      refine zV_callVI (n := 39) (st := [.int x5_7]) (As := []) C0 (k_X1_allLeggers  S _ hc_9) gX4_share_X1_allLeggers rfl (hd_X1_allLeggers) rfl ⟨rfl, rfl⟩ ⟨Nat.le_of_ble_eq_true rfl, Nat.le_of_ble_eq_true rfl⟩ 2 rfl rfl rfl (Nat.le_of_ble_eq_true rfl) dX4_share_36 rfl ?_
      refine zV_icmp_gt (tgt := 95) (n := 42) C0 dX4_share_39 rfl rfl (fun hb_30 => ?_) (fun hb_30 => ?_)
      · replace h := if_t hb_30 h
        refine zV_iload (n := 97) C0 4 dX4_share_95 rfl rfl ?_
        refine zV_aload_n (n := 98) C0 0 dX4_share_97 rfl rfl ?_
        refine zV_get (n := 101) (ref := RX4) C0 hinX4_share_X4 0 rfl rfl 1 (Nat.le_of_ble_eq_true rfl) mX4_share_0 rfl rfl dX4_share_98 rfl ?_
        refine zV_getN (n := 104) (ref := RX1) C0 hinX4_share_X1 2 rfl rfl 1 (Nat.le_of_ble_eq_true rfl) (fun hN => va_Nw.use rfl (hN _ (List.mem_of_getElem? (i := 2) rfl))) rfl rfl dX4_share_101 rfl ?_
        obtain ⟨r_12, hc_11, h⟩ := ob_of h
        refine zV_callS0 (n := 107) (st := [.int x4_6]) (As := [.int (S.1 11)]) C0 (k_X4_factorial (S.1 11) _ hc_11) gX4_share_X4_factorial rfl (hd_X4_factorial) rfl ⟨rfl, rfl⟩ ⟨Nat.le_of_ble_eq_true rfl, Nat.le_of_ble_eq_true rfl⟩ rfl (Nat.le_of_ble_eq_true rfl) dX4_share_104 rfl ?_
        refine zV_iload_n (n := 108) C0 3 dX4_share_107 rfl rfl ?_
        obtain ⟨r_14, hc_13, h⟩ := ob_of h
        refine zV_callS0 (n := 111) (st := []) (As := [.int x4_6, .int r_12, .int a3]) C0 (k_X4_fraction x4_6 r_12 a3 _ hc_13) gX4_share_X4_fraction rfl (hd_X4_fraction) rfl ⟨rfl, rfl⟩ ⟨Nat.le_of_ble_eq_true rfl, Nat.le_of_ble_eq_true rfl⟩ rfl (Nat.le_of_ble_eq_true rfl) dX4_share_108 rfl ?_
        exact zretI1 hR h rfl dX4_share_111
      · replace h := if_f hb_30 h
        refine zV_iload (n := 44) C0 5 dX4_share_42 rfl rfl ?_
        refine zV_iload_n (n := 45) C0 1 dX4_share_44 rfl rfl ?_
        obtain ⟨r_16, hc_15, h⟩ := ob_of h
        refine zV_callS0 (n := 48) (st := []) (As := [.int x5_7, .int a1]) C0 (k_X4_isIn x5_7 a1 _ hc_15) gX4_share_X4_isIn rfl (hd_X4_isIn) rfl ⟨rfl, rfl⟩ ⟨Nat.le_of_ble_eq_true rfl, Nat.le_of_ble_eq_true rfl⟩ rfl (Nat.le_of_ble_eq_true rfl) dX4_share_45 rfl ?_
        refine zjoin_of h (fun k_18 hk_18 h => ?_)
        have Jk_18 : ∀ (x4_17 : Int32), k_18 (x4_17) = some r → zV E (wC cI q ad) 7 S 89 [(0, .ref q), (1, .int a1), (2, .int a2), (3, .int a3), (4, .int x4_17), (5, .int x5_7)] [] := by
          intro x4_17 h
          replace h := hk_18 _ h
          refine zV_iinc (n := 92) C0 5 (v := (x5_7 + (1 : Int32))) [(5, .int (x5_7 + (1 : Int32))), (0, .ref q), (1, .int a1), (2, .int a2), (3, .int a3), (4, .int x4_17)] dX4_share_89 rfl rfl rfl (Nat.le_of_ble_eq_true rfl) rfl ?_
          refine zV_goto (tgt := 30) C0 dX4_share_92 rfl ?_
          refine zV_sub [1, 2, 3, 4, 5, 0] rfl ?_
          exact Jrec_8 x4_17 (x5_7 + (1 : Int32)) h
        clear hk_18
        refine zV_if_ne (tgt := 89) (n := 51) C0 dX4_share_48 rfl rfl (fun hb_29 => ?_) (fun hb_29 => ?_)
        · replace h := if_f hb_29 h
          exact Jk_18 x4_6 h
        · replace h := if_t hb_29 h
          refine zV_aload_n (n := 52) C0 0 dX4_share_51 rfl rfl ?_
          refine zV_iload_n (n := 53) C0 2 dX4_share_52 rfl rfl ?_
          refine zV_iload (n := 55) C0 5 dX4_share_53 rfl rfl ?_
          refine zV_iconst (n := 56) (v := (1 : Int32)) C0 dX4_share_55 rfl rfl ?_
          refine zV_iload_n (n := 57) C0 1 dX4_share_56 rfl rfl ?_
          refine zV_ishl (n := 58) C0 dX4_share_57  rfl ?_
          refine zV_ior (n := 59) C0 dX4_share_58  rfl ?_
          obtain ⟨r_20, hc_19, h⟩ := ob_of h
          refine zV_callVI (n := 62) (st := []) (As := [.int a2, .int (x5_7 ||| (zshl (1 : Int32) a1))]) C0 (k_X4_worth a2 (x5_7 ||| (zshl (1 : Int32) a1)) S _ hc_19) gX4_share_X4_worth rfl (hd_X4_worth) rfl ⟨rfl, rfl⟩ ⟨Nat.le_of_ble_eq_true rfl, Nat.le_of_ble_eq_true rfl⟩ 0 rfl rfl rfl (Nat.le_of_ble_eq_true rfl) dX4_share_59 rfl ?_
          refine zV_aload_n (n := 63) C0 0 dX4_share_62 rfl rfl ?_
          refine zV_iload_n (n := 64) C0 2 dX4_share_63 rfl rfl ?_
          refine zV_iload (n := 66) C0 5 dX4_share_64 rfl rfl ?_
          obtain ⟨r_22, hc_21, h⟩ := ob_of h
          refine zV_callVI (n := 69) (st := [.int r_20]) (As := [.int a2, .int x5_7]) C0 (k_X4_worth a2 x5_7 S _ hc_21) gX4_share_X4_worth rfl (hd_X4_worth) rfl ⟨rfl, rfl⟩ ⟨Nat.le_of_ble_eq_true rfl, Nat.le_of_ble_eq_true rfl⟩ 0 rfl rfl rfl (Nat.le_of_ble_eq_true rfl) dX4_share_66 rfl ?_
          refine zV_isub (n := 70) C0 dX4_share_69  rfl ?_
          refine zV_topi (fun x6_23 ex6_23 => ?_)
          replace h := zlet_of ex6_23 h
          clear ex6_23
          refine zV_istore (n := 72) C0 [(6, .int x6_23), (0, .ref q), (1, .int a1), (2, .int a2), (3, .int a3), (4, .int x4_6), (5, .int x5_7)] dX4_share_70 rfl (Nat.le_of_ble_eq_true rfl) rfl ?_
          refine zV_iload (n := 74) C0 5 dX4_share_72 rfl rfl ?_
          refine zV_iload (n := 76) C0 0 dX4_share_74 rfl rfl ?_
          refine zV_aload_n (n := 77) C0 1 dX4_share_76 rfl rfl ?_
          refine zV_iload (n := 79) C0 6 dX4_share_77 rfl rfl ?_
          obtain ⟨r_25, hc_24, h⟩ := ob_of h
          refine zV_callS0 (n := 82) (st := [.ref q, .int x6_23, .int x4_6]) (As := [.int x5_7]) C0 (k_J6_bitCount_0f7a4 x5_7 _ hc_24) gX4_share_J6_bitCount_0f7a4 rfl (hd_J6_bitCount_0f7a4) rfl ⟨rfl, rfl⟩ ⟨Nat.le_of_ble_eq_true rfl, Nat.le_of_ble_eq_true rfl⟩ rfl (Nat.le_of_ble_eq_true rfl) dX4_share_79 rfl ?_
          obtain ⟨r_27, hc_26, h⟩ := ob_of h
          refine zV_callVI (n := 85) (st := [.int x6_23, .int x4_6]) (As := [.int r_25]) C0 (k_X4_ordersBehind r_25 S _ hc_26) gX4_share_X4_ordersBehind rfl (hd_X4_ordersBehind) rfl ⟨rfl, rfl⟩ ⟨Nat.le_of_ble_eq_true rfl, Nat.le_of_ble_eq_true rfl⟩ 0 rfl rfl rfl (Nat.le_of_ble_eq_true rfl) dX4_share_82 rfl ?_
          refine zV_imul (n := 86) C0 dX4_share_85  rfl ?_
          refine zV_iadd (n := 87) C0 dX4_share_86  rfl ?_
          refine zV_topi (fun x4_28 ex4_28 => ?_)
          replace h := zlet_of ex4_28 h
          clear ex4_28
          refine zV_istore (n := 89) C0 [(4, .int x4_28), (6, .int x6_23), (0, .ref q), (1, .int a1), (2, .int a2), (3, .int a3), (5, .int x5_7)] dX4_share_87 rfl (Nat.le_of_ble_eq_true rfl) rfl ?_
          refine zV_sub [2, 3, 4, 5, 0, 6] rfl ?_
          exact Jk_18 x4_28 h
    · replace h := if_t hb_31 h
      refine zV_sub [] rfl ?_
      exact Jk_3  h
set_option maxRecDepth 20000 in
theorem mX4_see_0 : Cond.fieldLink RX4 83 "LeggedThrough" "seenMany" "I" ∈ wsX4_see := by decide +kernel
set_option maxRecDepth 20000 in
theorem mX4_see_1 : Cond.fieldLink RX4 185 "LeggedThrough" "seenMinutes" "I" ∈ wsX4_see := by decide +kernel
set_option maxRecDepth 20000 in
theorem hinX4_see_X4 : ∀ w ∈ u_ws RX4 TX4 10, w ∈ wsX4_see := fun w h => List.mem_cons_of_mem _ (List.mem_append_right _ h)
set_option maxRecDepth 20000 in
set_option maxHeartbeats 4000000 in
theorem k_X4_see {l : Launch} {D : va_G} {cI cZ : ClassId} {q : Nat} {ad : Nat → Nat} (a1 : Int32) (a2 : Int32)  (S : zS) (r : Int32 × zS) (h : f_X4_see a1 a2 S = some r) : zI l yX4_see wsX4_see (zRm 0 0) D (zty cI cZ) zNw (wC cI q ad) [.ref q, .int a1, .int a2] S r := by
  refine zI_of (cc := cX4_see) (maxL := 3) (ty := .int) (by decide +kernel) rfl (Nat.le_of_ble_eq_true rfl) zNw_ok (fun E hE1 hE2 C0 hR => ?_)
  subst hE1; subst hE2
  replace C0 : zCx E (zRm 0 0) cX4_see 3 RX4 wsX4_see (zty cI cZ) zNw := C0
  show zV E (wC cI q ad) 3 S 0 [(0, .ref q), (1, .int a1), (2, .int a2)] []
  delta f_X4_see at h
  refine zV_iload_n (n := 1) C0 1 dX4_see_0 rfl rfl ?_
  refine zjoin_of h (fun k_1 hk_1 h => ?_)
  have Jk_1 : k_1 () = some r → zV E (wC cI q ad) 3 S 20 [] [] := by
    intro  h
    replace h := hk_1 _ h
    refine zV_bipush (n := 22) (v := (-2 : Int32)) C0 dX4_see_20 rfl rfl ?_
    exact zretI hR h rfl dX4_see_22
  clear hk_1
  refine zV_if_lt (tgt := 20) (n := 4) C0 dX4_see_1 rfl rfl (fun hb_8 => ?_) (fun hb_8 => ?_)
  · replace h := if_t hb_8 h
    refine zV_sub [] rfl ?_
    exact Jk_1  h
  · replace h := if_f hb_8 h
    refine zV_iload_n (n := 5) C0 1 dX4_see_4 rfl rfl ?_
    refine zV_bipush (n := 7) (v := (6 : Int32)) C0 dX4_see_5 rfl rfl ?_
    refine zV_icmp_ge (tgt := 20) (n := 10) C0 dX4_see_7 rfl rfl (fun hb_7 => ?_) (fun hb_7 => ?_)
    · replace h := if_t hb_7 h
      refine zV_sub [] rfl ?_
      exact Jk_1  h
    · replace h := if_f hb_7 h
      refine zV_iload_n (n := 11) C0 2 dX4_see_10 rfl rfl ?_
      refine zV_iconst (n := 12) (v := (1 : Int32)) C0 dX4_see_11 rfl rfl ?_
      refine zV_icmp_lt (tgt := 20) (n := 15) C0 dX4_see_12 rfl rfl (fun hb_6 => ?_) (fun hb_6 => ?_)
      · replace h := if_t hb_6 h
        refine zV_sub [] rfl ?_
        exact Jk_1  h
      · replace h := if_f hb_6 h
        refine zV_iload_n (n := 16) C0 2 dX4_see_15 rfl rfl ?_
        refine zV_iconst (n := 17) (v := (3 : Int32)) C0 dX4_see_16 rfl rfl ?_
        refine zV_icmp_le (tgt := 23) (n := 20) C0 dX4_see_17 rfl rfl (fun hb_5 => ?_) (fun hb_5 => ?_)
        · replace h := if_t hb_5 h
          refine zV_aload_n (n := 24) C0 0 dX4_see_23 rfl rfl ?_
          refine zV_get (n := 27) (ref := RX4) C0 hinX4_see_X4 0 rfl rfl 8 (Nat.le_of_ble_eq_true rfl) mX4_see_0 rfl rfl dX4_see_24 rfl ?_
          refine zV_bipush (n := 29) (v := (6 : Int32)) C0 dX4_see_27 rfl rfl ?_
          refine zV_icmp_lt (tgt := 35) (n := 32) C0 dX4_see_29 rfl rfl (fun hb_4 => ?_) (fun hb_4 => ?_)
          · replace h := if_t hb_4 h
            refine zV_aload_n (n := 36) C0 0 dX4_see_35 rfl rfl ?_
            refine zV_dup (n := 37) C0 dX4_see_36 rfl rfl ?_
            refine zV_get (n := 40) (ref := RX4) C0 hinX4_see_X4 0 rfl rfl 7 (Nat.le_of_ble_eq_true rfl) mX4_see_1 rfl rfl dX4_see_37 rfl ?_
            refine zV_iconst (n := 41) (v := (1 : Int32)) C0 dX4_see_40 rfl rfl ?_
            refine zV_iconst (n := 42) (v := (4 : Int32)) C0 dX4_see_41 rfl rfl ?_
            refine zV_iload_n (n := 43) C0 1 dX4_see_42 rfl rfl ?_
            refine zV_imul (n := 44) C0 dX4_see_43  rfl ?_
            refine zV_iload_n (n := 45) C0 2 dX4_see_44 rfl rfl ?_
            refine zV_iadd (n := 46) C0 dX4_see_45  rfl ?_
            refine zV_ishl (n := 47) C0 dX4_see_46  rfl ?_
            refine zV_ior (n := 48) C0 dX4_see_47  rfl ?_
            refine zV_put (n := 51) (ref := RX4) C0 hinX4_see_X4 0 rfl rfl 7 (Nat.le_of_ble_eq_true rfl) mX4_see_1 rfl tyX4 tyX4_ok nmX4 rfl (tyX4_ok 7 (Nat.le_of_ble_eq_true rfl)) rfl rfl (Nat.le_of_ble_eq_true rfl) (upd S.1 7 ((S.1 7) ||| (zshl (1 : Int32) (((4 : Int32) * a1) + a2))), S.2) (wC_f7 cI q ad S ((S.1 7) ||| (zshl (1 : Int32) (((4 : Int32) * a1) + a2)))) dX4_see_48 rfl ?_
            refine zV_topS (fun S_2 eS_2 => ?_)
            replace h := zlet_of eS_2 h
            clear eS_2
            refine zV_aload_n (n := 52) C0 0 dX4_see_51 rfl rfl ?_
            refine zV_dup (n := 53) C0 dX4_see_52 rfl rfl ?_
            refine zV_get (n := 56) (ref := RX4) C0 hinX4_see_X4 0 rfl rfl 8 (Nat.le_of_ble_eq_true rfl) mX4_see_0 rfl rfl dX4_see_53 rfl ?_
            refine zV_iconst (n := 57) (v := (1 : Int32)) C0 dX4_see_56 rfl rfl ?_
            refine zV_iadd (n := 58) C0 dX4_see_57  rfl ?_
            refine zV_put (n := 61) (ref := RX4) C0 hinX4_see_X4 0 rfl rfl 8 (Nat.le_of_ble_eq_true rfl) mX4_see_0 rfl tyX4 tyX4_ok nmX4 rfl (tyX4_ok 8 (Nat.le_of_ble_eq_true rfl)) rfl rfl (Nat.le_of_ble_eq_true rfl) (upd S_2.1 8 ((S_2.1 8) + (1 : Int32)), S_2.2) (wC_f8 cI q ad S_2 ((S_2.1 8) + (1 : Int32))) dX4_see_58 rfl ?_
            refine zV_topS (fun S_3 eS_3 => ?_)
            replace h := zlet_of eS_3 h
            clear eS_3
            refine zV_aload_n (n := 62) C0 0 dX4_see_61 rfl rfl ?_
            refine zV_get (n := 65) (ref := RX4) C0 hinX4_see_X4 0 rfl rfl 8 (Nat.le_of_ble_eq_true rfl) mX4_see_0 rfl rfl dX4_see_62 rfl ?_
            exact zretI hR h rfl dX4_see_65
          · replace h := if_f hb_4 h
            refine zV_bipush (n := 34) (v := (-4 : Int32)) C0 dX4_see_32 rfl rfl ?_
            exact zretI hR h rfl dX4_see_34
        · replace h := if_f hb_5 h
          refine zV_sub [] rfl ?_
          exact Jk_1  h
set_option maxRecDepth 20000 in
theorem mX4_unsee_0 : Cond.fieldLink RX4 83 "LeggedThrough" "seenMany" "I" ∈ wsX4_unsee := by decide +kernel
set_option maxRecDepth 20000 in
theorem mX4_unsee_1 : Cond.fieldLink RX4 185 "LeggedThrough" "seenMinutes" "I" ∈ wsX4_unsee := by decide +kernel
set_option maxRecDepth 20000 in
theorem hinX4_unsee_X4 : ∀ w ∈ u_ws RX4 TX4 10, w ∈ wsX4_unsee := fun w h => List.mem_cons_of_mem _ (List.mem_append_right _ h)
set_option maxRecDepth 20000 in
set_option maxHeartbeats 4000000 in
theorem k_X4_unsee {l : Launch} {D : va_G} {cI cZ : ClassId} {q : Nat} {ad : Nat → Nat}   (S : zS) (r : Int32 × zS) (h : f_X4_unsee  S = some r) : zI l yX4_unsee wsX4_unsee (zRm 0 0) D (zty cI cZ) zNw (wC cI q ad) [.ref q] S r := by
  refine zI_of (cc := cX4_unsee) (maxL := 2) (ty := .int) (by decide +kernel) rfl (Nat.le_of_ble_eq_true rfl) zNw_ok (fun E hE1 hE2 C0 hR => ?_)
  subst hE1; subst hE2
  replace C0 : zCx E (zRm 0 0) cX4_unsee 2 RX4 wsX4_unsee (zty cI cZ) zNw := C0
  show zV E (wC cI q ad) 2 S 0 [(0, .ref q)] []
  delta f_X4_unsee at h
  refine zV_aload_n (n := 1) C0 0 dX4_unsee_0 rfl rfl ?_
  refine zV_get (n := 4) (ref := RX4) C0 hinX4_unsee_X4 0 rfl rfl 8 (Nat.le_of_ble_eq_true rfl) mX4_unsee_0 rfl rfl dX4_unsee_1 rfl ?_
  refine zV_topi (fun x1_1 ex1_1 => ?_)
  replace h := zlet_of ex1_1 h
  clear ex1_1
  refine zV_istore_n (n := 5) C0 [(1, .int x1_1), (0, .ref q)] dX4_unsee_4 rfl rfl (Nat.le_of_ble_eq_true rfl) rfl ?_
  refine zV_aload_n (n := 6) C0 1 dX4_unsee_5 rfl rfl ?_
  refine zV_iconst (n := 7) (v := (0 : Int32)) C0 dX4_unsee_6 rfl rfl ?_
  refine zV_put (n := 10) (ref := RX4) C0 hinX4_unsee_X4 0 rfl rfl 8 (Nat.le_of_ble_eq_true rfl) mX4_unsee_0 rfl tyX4 tyX4_ok nmX4 rfl (tyX4_ok 8 (Nat.le_of_ble_eq_true rfl)) rfl rfl (Nat.le_of_ble_eq_true rfl) (upd S.1 8 (0 : Int32), S.2) (wC_f8 cI q ad S (0 : Int32)) dX4_unsee_7 rfl ?_
  refine zV_topS (fun S_2 eS_2 => ?_)
  replace h := zlet_of eS_2 h
  clear eS_2
  refine zV_aload_n (n := 11) C0 1 dX4_unsee_10 rfl rfl ?_
  refine zV_iconst (n := 12) (v := (0 : Int32)) C0 dX4_unsee_11 rfl rfl ?_
  refine zV_put (n := 15) (ref := RX4) C0 hinX4_unsee_X4 0 rfl rfl 7 (Nat.le_of_ble_eq_true rfl) mX4_unsee_1 rfl tyX4 tyX4_ok nmX4 rfl (tyX4_ok 7 (Nat.le_of_ble_eq_true rfl)) rfl rfl (Nat.le_of_ble_eq_true rfl) (upd S_2.1 7 (0 : Int32), S_2.2) (wC_f7 cI q ad S_2 (0 : Int32)) dX4_unsee_12 rfl ?_
  refine zV_topS (fun S_3 eS_3 => ?_)
  replace h := zlet_of eS_3 h
  clear eS_3
  refine zV_iload_n (n := 16) C0 0 dX4_unsee_15 rfl rfl ?_
  exact zretI hR h rfl dX4_unsee_16
set_option maxRecDepth 20000 in
theorem mX4_isAsSeen_0 : Cond.fieldLink RX4 185 "LeggedThrough" "seenMinutes" "I" ∈ wsX4_isAsSeen := by decide +kernel
set_option maxRecDepth 20000 in
theorem hinX4_isAsSeen_X4 : ∀ w ∈ u_ws RX4 TX4 10, w ∈ wsX4_isAsSeen := fun w h => List.mem_cons_of_mem _ (List.mem_append_right _ h)
set_option maxRecDepth 20000 in
set_option maxHeartbeats 4000000 in
theorem k_X4_isAsSeen {l : Launch} {D : va_G} {cI cZ : ClassId} {q : Nat} {ad : Nat → Nat} (a1 : Int32)  (S : zS) (r : Int32) (h : f_X4_isAsSeen a1 S = some r) : zI l yX4_isAsSeen wsX4_isAsSeen (zRm 1 21) D (zty cI cZ) zNw (wC cI q ad) [.ref q, .int a1] S (r, S) := by
  refine zI_of (cc := cX4_isAsSeen) (maxL := 6) (ty := .boolean) (by decide +kernel) rfl (Nat.le_of_ble_eq_true rfl) zNw_ok (fun E hE1 hE2 C0 hR => ?_)
  subst hE1; subst hE2
  replace C0 : zCx E (zRm 1 21) cX4_isAsSeen 6 RX4 wsX4_isAsSeen (zty cI cZ) zNw := C0
  show zV E (wC cI q ad) 6 S 0 [(0, .ref q), (1, .int a1)] []
  delta f_X4_isAsSeen at h
  refine zV_iconst (n := 1) (v := (0 : Int32)) C0 dX4_isAsSeen_0 rfl rfl ?_
  refine zV_istore_n (n := 2) C0 [(2, .int (0 : Int32)), (0, .ref q), (1, .int a1)] dX4_isAsSeen_1 rfl rfl (Nat.le_of_ble_eq_true rfl) rfl ?_
  refine zV_iconst (n := 3) (v := (0 : Int32)) C0 dX4_isAsSeen_2 rfl rfl ?_
  refine zV_istore_n (n := 4) C0 [(3, .int (0 : Int32)), (2, .int (0 : Int32)), (0, .ref q), (1, .int a1)] dX4_isAsSeen_3 rfl rfl (Nat.le_of_ble_eq_true rfl) rfl ?_
  refine zV_sub [2, 3, 1, 0] rfl ?_
  refine zfix_ind (fun e => zV E (wC cI q ad) 6 S 4 [(0, .ref q), (1, .int a1), (2, .int e.1), (3, .int e.2)] []) (fun rec_3 hrec_3 e h => ?_) zN ((0 : Int32), (0 : Int32)) h
  obtain ⟨x2_1, x3_2⟩ := e
  have Jrec_3 : ∀ (x2_1 : Int32) (x3_2 : Int32), rec_3 (x2_1, x3_2) = some r → zV E (wC cI q ad) 6 S 4 [(0, .ref q), (1, .int a1), (2, .int x2_1), (3, .int x3_2)] [] := fun x2_1 x3_2 h => hrec_3 _ h
  clear hrec_3
  dsimp only [F_X4_isAsSeen_4] at h
  show zV E (wC cI q ad) 6 S 4 [(0, .ref q), (1, .int a1), (2, .int x2_1), (3, .int x3_2)] []
  refine zV_iload_n (n := 5) C0 3 dX4_isAsSeen_4 rfl rfl ?_
  refine zV_bipush (n := 7) (v := (6 : Int32)) C0 dX4_isAsSeen_5 rfl rfl ?_
  refine zV_icmp_ge (tgt := 60) (n := 10) C0 dX4_isAsSeen_7 rfl rfl (fun hb_12 => ?_) (fun hb_12 => ?_)
  · replace h := if_t hb_12 h
    refine zV_iconst (n := 61) (v := (1 : Int32)) C0 dX4_isAsSeen_60 rfl rfl ?_
    exact zretI1 hR h rfl dX4_isAsSeen_61
  · replace h := if_f hb_12 h
    refine zV_iload_n (n := 11) C0 1 dX4_isAsSeen_10 rfl rfl ?_
    refine zV_iload_n (n := 12) C0 2 dX4_isAsSeen_11 rfl rfl ?_
    obtain ⟨r_5, hc_4, h⟩ := ob_of h
    refine zV_callS0 (n := 15) (st := []) (As := [.int a1, .int x2_1]) C0 (k_X4_groundIn a1 x2_1 _ hc_4) gX4_isAsSeen_X4_groundIn rfl (hd_X4_groundIn) rfl ⟨rfl, rfl⟩ ⟨Nat.le_of_ble_eq_true rfl, Nat.le_of_ble_eq_true rfl⟩ rfl (Nat.le_of_ble_eq_true rfl) dX4_isAsSeen_12 rfl ?_
    refine zV_istore (n := 17) C0 [(4, .int r_5), (0, .ref q), (1, .int a1), (2, .int x2_1), (3, .int x3_2)] dX4_isAsSeen_15 rfl (Nat.le_of_ble_eq_true rfl) rfl ?_
    refine zV_aload_n (n := 18) C0 1 dX4_isAsSeen_17 rfl rfl ?_
    refine zV_get (n := 21) (ref := RX4) C0 hinX4_isAsSeen_X4 0 rfl rfl 7 (Nat.le_of_ble_eq_true rfl) mX4_isAsSeen_0 rfl rfl dX4_isAsSeen_18 rfl ?_
    refine zV_iconst (n := 22) (v := (4 : Int32)) C0 dX4_isAsSeen_21 rfl rfl ?_
    refine zV_iload_n (n := 23) C0 4 dX4_isAsSeen_22 rfl rfl ?_
    refine zV_imul (n := 24) C0 dX4_isAsSeen_23  rfl ?_
    refine zV_iushr (n := 25) C0 dX4_isAsSeen_24  rfl ?_
    refine zV_bipush (n := 27) (v := (15 : Int32)) C0 dX4_isAsSeen_25 rfl rfl ?_
    refine zV_iand (n := 28) C0 dX4_isAsSeen_27  rfl ?_
    refine zV_topi (fun x5_6 ex5_6 => ?_)
    replace h := zlet_of ex5_6 h
    clear ex5_6
    refine zV_istore (n := 30) C0 [(5, .int x5_6), (4, .int r_5), (0, .ref q), (1, .int a1), (2, .int x2_1), (3, .int x3_2)] dX4_isAsSeen_28 rfl (Nat.le_of_ble_eq_true rfl) rfl ?_
    refine zV_iload (n := 32) C0 0 dX4_isAsSeen_30 rfl rfl ?_
    refine zV_iconst (n := 33) (v := (1 : Int32)) C0 dX4_isAsSeen_32 rfl rfl ?_
    refine zV_iload (n := 35) C0 1 dX4_isAsSeen_33 rfl rfl ?_
    obtain ⟨r_8, hc_7, h⟩ := ob_of h
    refine zV_callS0 (n := 38) (st := [.int (1 : Int32), .int x5_6]) (As := [.int r_5]) C0 (k_X4_minutesOver r_5 _ hc_7) gX4_isAsSeen_X4_minutesOver rfl (hd_X4_minutesOver) rfl ⟨rfl, rfl⟩ ⟨Nat.le_of_ble_eq_true rfl, Nat.le_of_ble_eq_true rfl⟩ rfl (Nat.le_of_ble_eq_true rfl) dX4_isAsSeen_35 rfl ?_
    refine zV_ishl (n := 39) C0 dX4_isAsSeen_38  rfl ?_
    refine zV_iconst (n := 40) (v := (-1 : Int32)) C0 dX4_isAsSeen_39 rfl rfl ?_
    refine zV_ixor (n := 41) C0 dX4_isAsSeen_40  rfl ?_
    refine zV_iand (n := 42) C0 dX4_isAsSeen_41  rfl ?_
    refine zV_if_eq (tgt := 47) (n := 45) C0 dX4_isAsSeen_42 rfl rfl (fun hb_11 => ?_) (fun hb_11 => ?_)
    · replace h := if_t hb_11 h
      refine zV_iload_n (n := 48) C0 4 dX4_isAsSeen_47 rfl rfl ?_
      refine zV_iload (n := 50) C0 1 dX4_isAsSeen_48 rfl rfl ?_
      obtain ⟨r_10, hc_9, h⟩ := ob_of h
      refine zV_callS0 (n := 53) (st := []) (As := [.int x2_1, .int r_5]) C0 (k_X4_placeBehind x2_1 r_5 _ hc_9) gX4_isAsSeen_X4_placeBehind rfl (hd_X4_placeBehind) rfl ⟨rfl, rfl⟩ ⟨Nat.le_of_ble_eq_true rfl, Nat.le_of_ble_eq_true rfl⟩ rfl (Nat.le_of_ble_eq_true rfl) dX4_isAsSeen_50 rfl ?_
      refine zV_istore_n (n := 54) C0 [(2, .int r_10), (5, .int x5_6), (4, .int r_5), (0, .ref q), (1, .int a1), (3, .int x3_2)] dX4_isAsSeen_53 rfl rfl (Nat.le_of_ble_eq_true rfl) rfl ?_
      refine zV_iinc (n := 57) C0 5 (v := (x3_2 + (1 : Int32))) [(3, .int (x3_2 + (1 : Int32))), (2, .int r_10), (5, .int x5_6), (4, .int r_5), (0, .ref q), (1, .int a1)] dX4_isAsSeen_54 rfl rfl rfl (Nat.le_of_ble_eq_true rfl) rfl ?_
      refine zV_goto (tgt := 4) C0 dX4_isAsSeen_57 rfl ?_
      refine zV_sub [4, 5, 1, 0] rfl ?_
      exact Jrec_3 r_10 (x3_2 + (1 : Int32)) h
    · replace h := if_f hb_11 h
      refine zV_iconst (n := 46) (v := (0 : Int32)) C0 dX4_isAsSeen_45 rfl rfl ?_
      exact zretI1 hR h rfl dX4_isAsSeen_46
set_option maxRecDepth 20000 in
set_option maxHeartbeats 4000000 in
theorem k_X4_lives {l : Launch} {D : va_G} {cI cZ : ClassId} {q : Nat} {ad : Nat → Nat} (a1 : Int32)  (S : zS) (r : Int32) (h : f_X4_lives a1 S = some r) : zI l yX4_lives wsX4_lives (zRm 2 46) D (zty cI cZ) zNw (wC cI q ad) [.ref q, .int a1] S (r, S) := by
  refine zI_of (cc := cX4_lives) (maxL := 5) (ty := .int) (by decide +kernel) rfl (Nat.le_of_ble_eq_true rfl) zNw_ok (fun E hE1 hE2 C0 hR => ?_)
  subst hE1; subst hE2
  replace C0 : zCx E (zRm 2 46) cX4_lives 5 RX4 wsX4_lives (zty cI cZ) zNw := C0
  show zV E (wC cI q ad) 5 S 0 [(0, .ref q), (1, .int a1)] []
  delta f_X4_lives at h
  refine zV_iload_n (n := 1) C0 1 dX4_lives_0 rfl rfl ?_
  refine zV_iconst (n := 2) (v := (-1 : Int32)) C0 dX4_lives_1 rfl rfl ?_
  refine zjoin_of h (fun k_1 hk_1 h => ?_)
  have Jk_1 : k_1 () = some r → zV E (wC cI q ad) 5 S 15 [(0, .ref q), (1, .int a1)] [] := by
    intro  h
    replace h := hk_1 _ h
    refine zV_iconst (n := 16) (v := (0 : Int32)) C0 dX4_lives_15 rfl rfl ?_
    refine zV_istore_n (n := 17) C0 [(2, .int (0 : Int32)), (0, .ref q), (1, .int a1)] dX4_lives_16 rfl rfl (Nat.le_of_ble_eq_true rfl) rfl ?_
    refine zV_iconst (n := 18) (v := (0 : Int32)) C0 dX4_lives_17 rfl rfl ?_
    refine zV_istore_n (n := 19) C0 [(3, .int (0 : Int32)), (2, .int (0 : Int32)), (0, .ref q), (1, .int a1)] dX4_lives_18 rfl rfl (Nat.le_of_ble_eq_true rfl) rfl ?_
    refine zV_iconst (n := 20) (v := (0 : Int32)) C0 dX4_lives_19 rfl rfl ?_
    refine zV_istore (n := 22) C0 [(4, .int (0 : Int32)), (3, .int (0 : Int32)), (2, .int (0 : Int32)), (0, .ref q), (1, .int a1)] dX4_lives_20 rfl (Nat.le_of_ble_eq_true rfl) rfl ?_
    refine zV_sub [3, 4, 2, 1, 0] rfl ?_
    refine zfix_ind (fun e => zV E (wC cI q ad) 5 S 22 [(0, .ref q), (1, .int a1), (2, .int e.1), (3, .int e.2.1), (4, .int e.2.2)] []) (fun rec_5 hrec_5 e h => ?_) zN ((0 : Int32), (0 : Int32), (0 : Int32)) h
    obtain ⟨x2_2, x3_3, x4_4⟩ := e
    have Jrec_5 : ∀ (x2_2 : Int32) (x3_3 : Int32) (x4_4 : Int32), rec_5 (x2_2, x3_3, x4_4) = some r → zV E (wC cI q ad) 5 S 22 [(0, .ref q), (1, .int a1), (2, .int x2_2), (3, .int x3_3), (4, .int x4_4)] [] := fun x2_2 x3_3 x4_4 h => hrec_5 _ h
    clear hrec_5
    dsimp only [F_X4_lives_22] at h
    show zV E (wC cI q ad) 5 S 22 [(0, .ref q), (1, .int a1), (2, .int x2_2), (3, .int x3_3), (4, .int x4_4)] []
    refine zV_iload (n := 24) C0 4 dX4_lives_22 rfl rfl ?_
    refine zV_sipush (n := 27) (v := (256 : Int32)) C0 dX4_lives_24 rfl rfl ?_
    refine zV_icmp_ge (tgt := 67) (n := 30) C0 dX4_lives_27 rfl rfl (fun hb_21 => ?_) (fun hb_21 => ?_)
    · replace h := if_t hb_21 h
      refine zV_iload_n (n := 68) C0 1 dX4_lives_67 rfl rfl ?_
      refine zjoin_of h (fun k_7 hk_7 h => ?_)
      have Jk_7 : ∀ (s_6 : Int32), k_7 (s_6) = some r → zV E (wC cI q ad) 5 S 76 [] [.int s_6] := by
        intro s_6 h
        replace h := hk_7 _ h
        exact zretI1 hR h rfl dX4_lives_76
      clear hk_7
      refine zV_if_ge (tgt := 75) (n := 71) C0 dX4_lives_68 rfl rfl (fun hb_8 => ?_) (fun hb_8 => ?_)
      · replace h := if_t hb_8 h
        refine zV_iload_n (n := 76) C0 3 dX4_lives_75 rfl rfl ?_
        refine zV_sub [] rfl ?_
        exact Jk_7 x3_3 h
      · replace h := if_f hb_8 h
        refine zV_iload_n (n := 72) C0 2 dX4_lives_71 rfl rfl ?_
        refine zV_goto (tgt := 76) C0 dX4_lives_72 rfl ?_
        refine zV_sub [] rfl ?_
        exact Jk_7 x2_2 h
    · replace h := if_f hb_21 h
      refine zV_aload_n (n := 31) C0 0 dX4_lives_30 rfl rfl ?_
      refine zV_iload (n := 33) C0 4 dX4_lives_31 rfl rfl ?_
      obtain ⟨r_10, hc_9, h⟩ := ob_of h
      refine zV_callVI (n := 36) (st := []) (As := [.int x4_4]) C0 (k_X4_isAsSeen x4_4 S _ hc_9) gX4_lives_X4_isAsSeen rfl (hd_X4_isAsSeen) rfl ⟨rfl, rfl⟩ ⟨Nat.le_of_ble_eq_true rfl, Nat.le_of_ble_eq_true rfl⟩ 0 rfl rfl rfl (Nat.le_of_ble_eq_true rfl) dX4_lives_33 rfl ?_
      refine zjoin_of h (fun k_13 hk_13 h => ?_)
      have Jk_13 : ∀ (x2_11 : Int32) (x3_12 : Int32), k_13 (x2_11, x3_12) = some r → zV E (wC cI q ad) 5 S 61 [(0, .ref q), (1, .int a1), (2, .int x2_11), (3, .int x3_12), (4, .int x4_4)] [] := by
        intro x2_11 x3_12 h
        replace h := hk_13 _ h
        dsimp only at h
        refine zV_iinc (n := 64) C0 4 (v := (x4_4 + (1 : Int32))) [(4, .int (x4_4 + (1 : Int32))), (0, .ref q), (1, .int a1), (2, .int x2_11), (3, .int x3_12)] dX4_lives_61 rfl rfl rfl (Nat.le_of_ble_eq_true rfl) rfl ?_
        refine zV_goto (tgt := 22) C0 dX4_lives_64 rfl ?_
        refine zV_sub [1, 2, 3, 4, 0] rfl ?_
        exact Jrec_5 x2_11 x3_12 (x4_4 + (1 : Int32)) h
      clear hk_13
      refine zV_if_eq (tgt := 61) (n := 39) C0 dX4_lives_36 rfl rfl (fun hb_20 => ?_) (fun hb_20 => ?_)
      · replace h := if_t hb_20 h
        exact Jk_13 x2_2 x3_3 h
      · replace h := if_f hb_20 h
        refine zV_iinc (n := 42) C0 2 (v := (x2_2 + (1 : Int32))) [(2, .int (x2_2 + (1 : Int32))), (0, .ref q), (1, .int a1), (3, .int x3_3), (4, .int x4_4)] dX4_lives_39 rfl rfl rfl (Nat.le_of_ble_eq_true rfl) rfl ?_
        refine zV_iload_n (n := 43) C0 3 dX4_lives_42 rfl rfl ?_
        refine zV_iload_n (n := 44) C0 2 dX4_lives_43 rfl rfl ?_
        refine zjoin_of h (fun k_15 hk_15 h => ?_)
        have Jk_15 : ∀ (s_14 : Int32), k_15 (s_14) = some r → zV E (wC cI q ad) 5 S 59 [(0, .ref q), (1, .int a1), (2, .int (x2_2 + (1 : Int32))), (4, .int x4_4)] [.int s_14, .int x3_3] := by
          intro s_14 h
          replace h := hk_15 _ h
          refine zV_ior (n := 60) C0 dX4_lives_59  rfl ?_
          refine zV_topi (fun x3_16 ex3_16 => ?_)
          replace h := zlet_of ex3_16 h
          clear ex3_16
          refine zV_istore_n (n := 61) C0 [(3, .int x3_16), (0, .ref q), (1, .int a1), (2, .int (x2_2 + (1 : Int32))), (4, .int x4_4)] dX4_lives_60 rfl rfl (Nat.le_of_ble_eq_true rfl) rfl ?_
          refine zV_sub [1, 2, 3, 0, 4] rfl ?_
          exact Jk_13 (x2_2 + (1 : Int32)) x3_16 h
        clear hk_15
        refine zV_if_ge (tgt := 51) (n := 47) C0 dX4_lives_44 rfl rfl (fun hb_19 => ?_) (fun hb_19 => ?_)
        · replace h := if_t hb_19 h
          refine zV_iconst (n := 52) (v := (1 : Int32)) C0 dX4_lives_51 rfl rfl ?_
          refine zV_iload (n := 54) C0 4 dX4_lives_52 rfl rfl ?_
          refine zV_iload_n (n := 55) C0 2 dX4_lives_54 rfl rfl ?_
          obtain ⟨r_18, hc_17, h⟩ := ob_of h
          refine zV_callS0 (n := 58) (st := [.int (1 : Int32), .int x3_3]) (As := [.int x4_4, .int a1]) C0 (k_X4_groundIn x4_4 a1 _ hc_17) gX4_lives_X4_groundIn rfl (hd_X4_groundIn) rfl ⟨rfl, rfl⟩ ⟨Nat.le_of_ble_eq_true rfl, Nat.le_of_ble_eq_true rfl⟩ rfl (Nat.le_of_ble_eq_true rfl) dX4_lives_55 rfl ?_
          refine zV_ishl (n := 59) C0 dX4_lives_58  rfl ?_
          refine zV_sub [1, 2, 0, 4] rfl ?_
          exact Jk_15 (zshl (1 : Int32) r_18) h
        · replace h := if_f hb_19 h
          refine zV_iconst (n := 48) (v := (0 : Int32)) C0 dX4_lives_47 rfl rfl ?_
          refine zV_goto (tgt := 59) C0 dX4_lives_48 rfl ?_
          refine zV_sub [1, 2, 0, 4] rfl ?_
          exact Jk_15 (0 : Int32) h
  clear hk_1
  refine zV_icmp_eq (tgt := 15) (n := 5) C0 dX4_lives_2 rfl rfl (fun hb_25 => ?_) (fun hb_25 => ?_)
  · replace h := if_t hb_25 h
    exact Jk_1  h
  · replace h := if_f hb_25 h
    refine zV_iload_n (n := 6) C0 1 dX4_lives_5 rfl rfl ?_
    obtain ⟨r_23, hc_22, h⟩ := ob_of h
    refine zV_callS0 (n := 9) (st := []) (As := [.int a1]) C0 (k_X4_isPlace a1 _ hc_22) gX4_lives_X4_isPlace rfl (hd_X4_isPlace) rfl ⟨rfl, rfl⟩ ⟨Nat.le_of_ble_eq_true rfl, Nat.le_of_ble_eq_true rfl⟩ rfl (Nat.le_of_ble_eq_true rfl) dX4_lives_6 rfl ?_
    refine zV_if_ne (tgt := 15) (n := 12) C0 dX4_lives_9 rfl rfl (fun hb_24 => ?_) (fun hb_24 => ?_)
    · replace h := if_f hb_24 h
      exact Jk_1  h
    · replace h := if_t hb_24 h
      refine zV_bipush (n := 14) (v := (-2 : Int32)) C0 dX4_lives_12 rfl rfl ?_
      exact zretI1 hR h rfl dX4_lives_14
set_option maxRecDepth 20000 in
theorem mX4_rests_0 : Cond.fieldLink RX4 19 "LeggedThrough" "plan" "LLeggedThrough$Plan;" ∈ wsX4_rests := by decide +kernel
set_option maxRecDepth 20000 in
theorem hinX4_rests_X4 : ∀ w ∈ u_ws RX4 TX4 10, w ∈ wsX4_rests := fun w h => List.mem_cons_of_mem _ (List.mem_append_left _ (List.mem_append_right _ h))
set_option maxRecDepth 20000 in
set_option maxHeartbeats 4000000 in
theorem k_X4_rests {l : Launch} {D : va_G} {cI cZ : ClassId} {q : Nat} {ad : Nat → Nat} (a1 : Int32) (a2 : Int32) (a3 : Int32)  (S : zS) (r : Int32) (h : f_X4_rests a1 a2 a3 S = some r) : zI l yX4_rests wsX4_rests (zRm 2 45) D (zty cI cZ) zNw (wC cI q ad) [.ref q, .int a1, .int a2, .int a3] S (r, S) := by
  refine zI_of (cc := cX4_rests) (maxL := 8) (ty := .int) (by decide +kernel) rfl (Nat.le_of_ble_eq_true rfl) zNw_ok (fun E hE1 hE2 C0 hR => ?_)
  subst hE1; subst hE2
  replace C0 : zCx E (zRm 2 45) cX4_rests 8 RX4 wsX4_rests (zty cI cZ) zNw := C0
  show zV E (wC cI q ad) 8 S 0 [(0, .ref q), (1, .int a1), (2, .int a2), (3, .int a3)] []
  delta f_X4_rests at h
  refine zV_aload_n (n := 1) C0 0 dX4_rests_0 rfl rfl ?_
  refine zV_get (n := 4) (ref := RX4) C0 hinX4_rests_X4 0 rfl rfl 1 (Nat.le_of_ble_eq_true rfl) mX4_rests_0 rfl rfl dX4_rests_1 rfl ?_
  refine zV_iload_n (n := 5) C0 1 dX4_rests_4 rfl rfl ?_
  obtain ⟨r_2, hc_1, h⟩ := ob_of h
  refine zV_callVI (n := 8) (st := []) (As := [.int a1]) C0 (k_X1_hasBoat a1 S _ hc_1) gX4_rests_X1_hasBoat rfl (hd_X1_hasBoat) rfl ⟨rfl, rfl⟩ ⟨Nat.le_of_ble_eq_true rfl, Nat.le_of_ble_eq_true rfl⟩ 2 rfl rfl rfl (Nat.le_of_ble_eq_true rfl) dX4_rests_5 rfl ?_
  refine zjoin_of h (fun k_3 hk_3 h => ?_)
  have Jk_3 : k_3 () = some r → zV E (wC cI q ad) 8 S 22 [] [] := by
    intro  h
    replace h := hk_3 _ h
    refine zV_iconst (n := 23) (v := (-1 : Int32)) C0 dX4_rests_22 rfl rfl ?_
    exact zretI1 hR h rfl dX4_rests_23
  clear hk_3
  refine zV_if_eq (tgt := 22) (n := 11) C0 dX4_rests_8 rfl rfl (fun hb_41 => ?_) (fun hb_41 => ?_)
  · replace h := if_t hb_41 h
    refine zV_sub [] rfl ?_
    exact Jk_3  h
  · replace h := if_f hb_41 h
    refine zV_aload_n (n := 12) C0 0 dX4_rests_11 rfl rfl ?_
    refine zV_get (n := 15) (ref := RX4) C0 hinX4_rests_X4 0 rfl rfl 1 (Nat.le_of_ble_eq_true rfl) mX4_rests_0 rfl rfl dX4_rests_12 rfl ?_
    refine zV_iload_n (n := 16) C0 2 dX4_rests_15 rfl rfl ?_
    obtain ⟨r_5, hc_4, h⟩ := ob_of h
    refine zV_callVI (n := 19) (st := []) (As := [.int a2]) C0 (k_X1_hasBoat a2 S _ hc_4) gX4_rests_X1_hasBoat rfl (hd_X1_hasBoat) rfl ⟨rfl, rfl⟩ ⟨Nat.le_of_ble_eq_true rfl, Nat.le_of_ble_eq_true rfl⟩ 2 rfl rfl rfl (Nat.le_of_ble_eq_true rfl) dX4_rests_16 rfl ?_
    refine zV_if_ne (tgt := 24) (n := 22) C0 dX4_rests_19 rfl rfl (fun hb_40 => ?_) (fun hb_40 => ?_)
    · replace h := if_f hb_40 h
      refine zV_iload_n (n := 25) C0 1 dX4_rests_24 rfl rfl ?_
      refine zV_iload_n (n := 26) C0 2 dX4_rests_25 rfl rfl ?_
      refine zjoin_of h (fun k_6 hk_6 h => ?_)
      have Jk_6 : k_6 () = some r → zV E (wC cI q ad) 8 S 38 [] [] := by
        intro  h
        replace h := hk_6 _ h
        refine zV_bipush (n := 40) (v := (-2 : Int32)) C0 dX4_rests_38 rfl rfl ?_
        exact zretI1 hR h rfl dX4_rests_40
      clear hk_6
      refine zV_icmp_eq (tgt := 38) (n := 29) C0 dX4_rests_26 rfl rfl (fun hb_39 => ?_) (fun hb_39 => ?_)
      · replace h := if_t hb_39 h
        refine zV_sub [] rfl ?_
        exact Jk_6  h
      · replace h := if_f hb_39 h
        refine zV_iload_n (n := 30) C0 3 dX4_rests_29 rfl rfl ?_
        refine zjoin_of h (fun k_7 hk_7 h => ?_)
        have Jk_7 : k_7 () = some r → zV E (wC cI q ad) 8 S 41 [(0, .ref q), (1, .int a1), (2, .int a2), (3, .int a3)] [] := by
          intro  h
          replace h := hk_7 _ h
          refine zV_iconst (n := 42) (v := (0 : Int32)) C0 dX4_rests_41 rfl rfl ?_
          refine zV_istore (n := 44) C0 [(4, .int (0 : Int32)), (0, .ref q), (1, .int a1), (2, .int a2), (3, .int a3)] dX4_rests_42 rfl (Nat.le_of_ble_eq_true rfl) rfl ?_
          refine zV_bipush (n := 46) (v := (-9 : Int32)) C0 dX4_rests_44 rfl rfl ?_
          refine zV_istore (n := 48) C0 [(5, .int (-9 : Int32)), (4, .int (0 : Int32)), (0, .ref q), (1, .int a1), (2, .int a2), (3, .int a3)] dX4_rests_46 rfl (Nat.le_of_ble_eq_true rfl) rfl ?_
          refine zV_iconst (n := 49) (v := (0 : Int32)) C0 dX4_rests_48 rfl rfl ?_
          refine zV_istore (n := 51) C0 [(6, .int (0 : Int32)), (5, .int (-9 : Int32)), (4, .int (0 : Int32)), (0, .ref q), (1, .int a1), (2, .int a2), (3, .int a3)] dX4_rests_49 rfl (Nat.le_of_ble_eq_true rfl) rfl ?_
          refine zV_sub [3, 4, 5, 6, 2, 1, 0] rfl ?_
          refine zfix_ind (fun e => zV E (wC cI q ad) 8 S 51 [(0, .ref q), (1, .int a1), (2, .int a2), (3, .int a3), (4, .int e.1), (5, .int e.2.1), (6, .int e.2.2)] []) (fun rec_11 hrec_11 e h => ?_) zN ((0 : Int32), (-9 : Int32), (0 : Int32)) h
          obtain ⟨x4_8, x5_9, x6_10⟩ := e
          have Jrec_11 : ∀ (x4_8 : Int32) (x5_9 : Int32) (x6_10 : Int32), rec_11 (x4_8, x5_9, x6_10) = some r → zV E (wC cI q ad) 8 S 51 [(0, .ref q), (1, .int a1), (2, .int a2), (3, .int a3), (4, .int x4_8), (5, .int x5_9), (6, .int x6_10)] [] := fun x4_8 x5_9 x6_10 h => hrec_11 _ h
          clear hrec_11
          dsimp only [F_X4_rests_51] at h
          show zV E (wC cI q ad) 8 S 51 [(0, .ref q), (1, .int a1), (2, .int a2), (3, .int a3), (4, .int x4_8), (5, .int x5_9), (6, .int x6_10)] []
          refine zV_iload (n := 53) C0 6 dX4_rests_51 rfl rfl ?_
          refine zV_iconst (n := 54) (v := (3 : Int32)) C0 dX4_rests_53 rfl rfl ?_
          refine zV_icmp_gt (tgt := 137) (n := 57) C0 dX4_rests_54 rfl rfl (fun hb_36 => ?_) (fun hb_36 => ?_)
          · replace h := if_t hb_36 h
            refine zV_iload_n (n := 138) C0 3 dX4_rests_137 rfl rfl ?_
            refine zjoin_of h (fun k_13 hk_13 h => ?_)
            have Jk_13 : ∀ (s_12 : Int32), k_13 (s_12) = some r → zV E (wC cI q ad) 8 S 148 [] [.int s_12] := by
              intro s_12 h
              replace h := hk_13 _ h
              exact zretI1 hR h rfl dX4_rests_148
            clear hk_13
            refine zV_if_ne (tgt := 146) (n := 141) C0 dX4_rests_138 rfl rfl (fun hb_14 => ?_) (fun hb_14 => ?_)
            · replace h := if_f hb_14 h
              refine zV_iload (n := 148) C0 5 dX4_rests_146 rfl rfl ?_
              refine zV_sub [] rfl ?_
              exact Jk_13 x5_9 h
            · replace h := if_t hb_14 h
              refine zV_iload (n := 143) C0 4 dX4_rests_141 rfl rfl ?_
              refine zV_goto (tgt := 148) C0 dX4_rests_143 rfl ?_
              refine zV_sub [] rfl ?_
              exact Jk_13 x4_8 h
          · replace h := if_f hb_36 h
            refine zV_iconst (n := 58) (v := (0 : Int32)) C0 dX4_rests_57 rfl rfl ?_
            refine zV_istore (n := 60) C0 [(7, .int (0 : Int32)), (0, .ref q), (1, .int a1), (2, .int a2), (3, .int a3), (4, .int x4_8), (5, .int x5_9), (6, .int x6_10)] dX4_rests_58 rfl (Nat.le_of_ble_eq_true rfl) rfl ?_
            refine zV_sub [1, 2, 3, 4, 5, 6, 7, 0] rfl ?_
            refine zfix_ind (fun e => zV E (wC cI q ad) 8 S 60 [(0, .ref q), (1, .int a1), (2, .int a2), (3, .int a3), (4, .int e.1), (5, .int e.2.1), (6, .int x6_10), (7, .int e.2.2)] []) (fun rec_18 hrec_18 e h => ?_) zN (x4_8, x5_9, (0 : Int32)) h
            obtain ⟨x4_15, x5_16, x7_17⟩ := e
            have Jrec_18 : ∀ (x4_15 : Int32) (x5_16 : Int32) (x7_17 : Int32), rec_18 (x4_15, x5_16, x7_17) = some r → zV E (wC cI q ad) 8 S 60 [(0, .ref q), (1, .int a1), (2, .int a2), (3, .int a3), (4, .int x4_15), (5, .int x5_16), (6, .int x6_10), (7, .int x7_17)] [] := fun x4_15 x5_16 x7_17 h => hrec_18 _ h
            clear hrec_18
            dsimp only [F_X4_rests_60] at h
            show zV E (wC cI q ad) 8 S 60 [(0, .ref q), (1, .int a1), (2, .int a2), (3, .int a3), (4, .int x4_15), (5, .int x5_16), (6, .int x6_10), (7, .int x7_17)] []
            refine zV_iload (n := 62) C0 7 dX4_rests_60 rfl rfl ?_
            refine zV_iconst (n := 63) (v := (3 : Int32)) C0 dX4_rests_62 rfl rfl ?_
            refine zV_icmp_gt (tgt := 131) (n := 66) C0 dX4_rests_63 rfl rfl (fun hb_35 => ?_) (fun hb_35 => ?_)
            · replace h := if_t hb_35 h
              refine zV_iinc (n := 134) C0 6 (v := (x6_10 + (1 : Int32))) [(6, .int (x6_10 + (1 : Int32))), (0, .ref q), (1, .int a1), (2, .int a2), (3, .int a3), (4, .int x4_15), (5, .int x5_16), (7, .int x7_17)] dX4_rests_131 rfl rfl rfl (Nat.le_of_ble_eq_true rfl) rfl ?_
              refine zV_goto (tgt := 51) C0 dX4_rests_134 rfl ?_
              refine zV_sub [1, 2, 3, 4, 5, 6, 0] rfl ?_
              exact Jrec_11 x4_15 x5_16 (x6_10 + (1 : Int32)) h
            · replace h := if_f hb_35 h
              refine zV_aload_n (n := 67) C0 0 dX4_rests_66 rfl rfl ?_
              refine zV_get (n := 70) (ref := RX4) C0 hinX4_rests_X4 0 rfl rfl 1 (Nat.le_of_ble_eq_true rfl) mX4_rests_0 rfl rfl dX4_rests_67 rfl ?_
              refine zV_iload_n (n := 71) C0 1 dX4_rests_70 rfl rfl ?_
              obtain ⟨r_20, hc_19, h⟩ := ob_of h
              refine zV_callVI (n := 74) (st := []) (As := [.int a1]) C0 (k_X1_loadOf a1 S _ hc_19) gX4_rests_X1_loadOf rfl (hd_X1_loadOf) rfl ⟨rfl, rfl⟩ ⟨Nat.le_of_ble_eq_true rfl, Nat.le_of_ble_eq_true rfl⟩ 2 rfl rfl rfl (Nat.le_of_ble_eq_true rfl) dX4_rests_71 rfl ?_
              refine zV_iload (n := 76) C0 6 dX4_rests_74 rfl rfl ?_
              refine zV_iload (n := 78) C0 7 dX4_rests_76 rfl rfl ?_
              obtain ⟨r_22, hc_21, h⟩ := ob_of h
              refine zV_callS0 (n := 81) (st := []) (As := [.int r_20, .int x6_10, .int x7_17]) C0 (k_X4_staysWith r_20 x6_10 x7_17 _ hc_21) gX4_rests_X4_staysWith rfl (hd_X4_staysWith) rfl ⟨rfl, rfl⟩ ⟨Nat.le_of_ble_eq_true rfl, Nat.le_of_ble_eq_true rfl⟩ rfl (Nat.le_of_ble_eq_true rfl) dX4_rests_78 rfl ?_
              refine zjoin_of h (fun k_25 hk_25 h => ?_)
              have Jk_25 : ∀ (x4_23 : Int32) (x5_24 : Int32), k_25 (x4_23, x5_24) = some r → zV E (wC cI q ad) 8 S 125 [(0, .ref q), (1, .int a1), (2, .int a2), (3, .int a3), (4, .int x4_23), (5, .int x5_24), (6, .int x6_10), (7, .int x7_17)] [] := by
                intro x4_23 x5_24 h
                replace h := hk_25 _ h
                dsimp only at h
                refine zV_iinc (n := 128) C0 7 (v := (x7_17 + (1 : Int32))) [(7, .int (x7_17 + (1 : Int32))), (0, .ref q), (1, .int a1), (2, .int a2), (3, .int a3), (4, .int x4_23), (5, .int x5_24), (6, .int x6_10)] dX4_rests_125 rfl rfl rfl (Nat.le_of_ble_eq_true rfl) rfl ?_
                refine zV_goto (tgt := 60) C0 dX4_rests_128 rfl ?_
                refine zV_sub [1, 2, 3, 4, 5, 6, 7, 0] rfl ?_
                exact Jrec_18 x4_23 x5_24 (x7_17 + (1 : Int32)) h
              clear hk_25
              refine zV_if_eq (tgt := 125) (n := 84) C0 dX4_rests_81 rfl rfl (fun hb_34 => ?_) (fun hb_34 => ?_)
              · replace h := if_t hb_34 h
                exact Jk_25 x4_15 x5_16 h
              · replace h := if_f hb_34 h
                refine zV_aload_n (n := 85) C0 0 dX4_rests_84 rfl rfl ?_
                refine zV_get (n := 88) (ref := RX4) C0 hinX4_rests_X4 0 rfl rfl 1 (Nat.le_of_ble_eq_true rfl) mX4_rests_0 rfl rfl dX4_rests_85 rfl ?_
                refine zV_iload_n (n := 89) C0 2 dX4_rests_88 rfl rfl ?_
                obtain ⟨r_27, hc_26, h⟩ := ob_of h
                refine zV_callVI (n := 92) (st := []) (As := [.int a2]) C0 (k_X1_loadOf a2 S _ hc_26) gX4_rests_X1_loadOf rfl (hd_X1_loadOf) rfl ⟨rfl, rfl⟩ ⟨Nat.le_of_ble_eq_true rfl, Nat.le_of_ble_eq_true rfl⟩ 2 rfl rfl rfl (Nat.le_of_ble_eq_true rfl) dX4_rests_89 rfl ?_
                refine zV_iload (n := 94) C0 7 dX4_rests_92 rfl rfl ?_
                refine zV_iload (n := 96) C0 6 dX4_rests_94 rfl rfl ?_
                obtain ⟨r_29, hc_28, h⟩ := ob_of h
                refine zV_callS0 (n := 99) (st := []) (As := [.int r_27, .int x7_17, .int x6_10]) C0 (k_X4_staysWith r_27 x7_17 x6_10 _ hc_28) gX4_rests_X4_staysWith rfl (hd_X4_staysWith) rfl ⟨rfl, rfl⟩ ⟨Nat.le_of_ble_eq_true rfl, Nat.le_of_ble_eq_true rfl⟩ rfl (Nat.le_of_ble_eq_true rfl) dX4_rests_96 rfl ?_
                refine zV_if_eq (tgt := 125) (n := 102) C0 dX4_rests_99 rfl rfl (fun hb_33 => ?_) (fun hb_33 => ?_)
                · replace h := if_t hb_33 h
                  exact Jk_25 x4_15 x5_16 h
                · replace h := if_f hb_33 h
                  refine zV_iload (n := 104) C0 4 dX4_rests_102 rfl rfl ?_
                  refine zjoin_of h (fun k_31 hk_31 h => ?_)
                  have Jk_31 : ∀ (s_30 : Int32), k_31 (s_30) = some r → zV E (wC cI q ad) 8 S 120 [(0, .ref q), (1, .int a1), (2, .int a2), (3, .int a3), (4, .int x4_15), (6, .int x6_10), (7, .int x7_17)] [.int s_30] := by
                    intro s_30 h
                    replace h := hk_31 _ h
                    refine zV_istore (n := 122) C0 [(5, .int s_30), (0, .ref q), (1, .int a1), (2, .int a2), (3, .int a3), (4, .int x4_15), (6, .int x6_10), (7, .int x7_17)] dX4_rests_120 rfl (Nat.le_of_ble_eq_true rfl) rfl ?_
                    refine zV_iinc (n := 125) C0 5 (v := (x4_15 + (1 : Int32))) [(4, .int (x4_15 + (1 : Int32))), (5, .int s_30), (0, .ref q), (1, .int a1), (2, .int a2), (3, .int a3), (6, .int x6_10), (7, .int x7_17)] dX4_rests_122 rfl rfl rfl (Nat.le_of_ble_eq_true rfl) rfl ?_
                    refine zV_sub [2, 3, 4, 5, 0, 1, 6, 7] rfl ?_
                    exact Jk_25 (x4_15 + (1 : Int32)) s_30 h
                  clear hk_31
                  refine zV_if_ne (tgt := 118) (n := 107) C0 dX4_rests_104 rfl rfl (fun hb_32 => ?_) (fun hb_32 => ?_)
                  · replace h := if_f hb_32 h
                    refine zV_iload (n := 120) C0 5 dX4_rests_118 rfl rfl ?_
                    refine zV_sub [0, 1, 2, 3, 4, 6, 7] rfl ?_
                    exact Jk_31 x5_16 h
                  · replace h := if_t hb_32 h
                    refine zV_bipush (n := 109) (v := (10 : Int32)) C0 dX4_rests_107 rfl rfl ?_
                    refine zV_iload (n := 111) C0 6 dX4_rests_109 rfl rfl ?_
                    refine zV_imul (n := 112) C0 dX4_rests_111  rfl ?_
                    refine zV_iload (n := 114) C0 7 dX4_rests_112 rfl rfl ?_
                    refine zV_iadd (n := 115) C0 dX4_rests_114  rfl ?_
                    refine zV_goto (tgt := 120) C0 dX4_rests_115 rfl ?_
                    refine zV_sub [0, 1, 2, 3, 4, 6, 7] rfl ?_
                    exact Jk_31 (((10 : Int32) * x6_10) + x7_17) h
        clear hk_7
        refine zV_if_eq (tgt := 41) (n := 33) C0 dX4_rests_30 rfl rfl (fun hb_38 => ?_) (fun hb_38 => ?_)
        · replace h := if_t hb_38 h
          exact Jk_7  h
        · replace h := if_f hb_38 h
          refine zV_iload_n (n := 34) C0 3 dX4_rests_33 rfl rfl ?_
          refine zV_iconst (n := 35) (v := (1 : Int32)) C0 dX4_rests_34 rfl rfl ?_
          refine zV_icmp_eq (tgt := 41) (n := 38) C0 dX4_rests_35 rfl rfl (fun hb_37 => ?_) (fun hb_37 => ?_)
          · replace h := if_t hb_37 h
            exact Jk_7  h
          · replace h := if_f hb_37 h
            refine zV_sub [] rfl ?_
            exact Jk_6  h
    · replace h := if_t hb_40 h
      refine zV_sub [] rfl ?_
      exact Jk_3  h
set_option maxRecDepth 20000 in
theorem mX4_waysInTime_0 : Cond.fieldLink RX4 19 "LeggedThrough" "plan" "LLeggedThrough$Plan;" ∈ wsX4_waysInTime := by decide +kernel
set_option maxRecDepth 20000 in
theorem mX4_waysInTime_1 : Cond.fieldLink RX4 26 "LeggedThrough" "state" "LLeggedThrough$State;" ∈ wsX4_waysInTime := by decide +kernel
set_option maxRecDepth 20000 in
theorem hinX4_waysInTime_X1 : ∀ w ∈ u_ws RX1 TX1 5, w ∈ wsX4_waysInTime := fun w h => List.mem_cons_of_mem _ (List.mem_append_left _ (List.mem_append_right _ h))
set_option maxRecDepth 20000 in
theorem hinX4_waysInTime_X2 : ∀ w ∈ u_ws RX2 TX2 4, w ∈ wsX4_waysInTime := fun w h => List.mem_cons_of_mem _ (List.mem_append_right _ h)
set_option maxRecDepth 20000 in
theorem hinX4_waysInTime_X4 : ∀ w ∈ u_ws RX4 TX4 10, w ∈ wsX4_waysInTime := fun w h => List.mem_cons_of_mem _ (List.mem_append_left _ (List.mem_append_left _ (List.mem_append_right _ h)))
set_option maxRecDepth 20000 in
set_option maxHeartbeats 4000000 in
theorem k_X4_waysInTime {l : Launch} {D : va_G} {cI cZ : ClassId} {q : Nat} {ad : Nat → Nat} (a1 : Int32) (a2 : Int32) (a3 : Int32) (a4 : Int32)  (S : zS) (r : Int32) (h : f_X4_waysInTime a1 a2 a3 a4 S = some r) : zI l yX4_waysInTime wsX4_waysInTime (zRm 2 49) D (zty cI cZ) zNw (wC cI q ad) [.ref q, .int a1, .int a2, .int a3, .int a4] S (r, S) := by
  refine zI_of (cc := cX4_waysInTime) (maxL := 12) (ty := .int) (by decide +kernel) rfl (Nat.le_of_ble_eq_true rfl) zNw_ok (fun E hE1 hE2 C0 hR => ?_)
  subst hE1; subst hE2
  replace C0 : zCx E (zRm 2 49) cX4_waysInTime 12 RX4 wsX4_waysInTime (zty cI cZ) zNw := C0
  show zV E (wC cI q ad) 12 S 0 [(0, .ref q), (1, .int a1), (2, .int a2), (3, .int a3), (4, .int a4)] []
  delta f_X4_waysInTime at h
  refine zV_iconst (n := 1) (v := (1 : Int32)) C0 dX4_waysInTime_0 rfl rfl ?_
  refine zV_istore (n := 3) C0 [(5, .int (1 : Int32)), (0, .ref q), (1, .int a1), (2, .int a2), (3, .int a3), (4, .int a4)] dX4_waysInTime_1 rfl (Nat.le_of_ble_eq_true rfl) rfl ?_
  refine zV_iconst (n := 4) (v := (0 : Int32)) C0 dX4_waysInTime_3 rfl rfl ?_
  refine zV_istore (n := 6) C0 [(6, .int (0 : Int32)), (5, .int (1 : Int32)), (0, .ref q), (1, .int a1), (2, .int a2), (3, .int a3), (4, .int a4)] dX4_waysInTime_4 rfl (Nat.le_of_ble_eq_true rfl) rfl ?_
  refine zV_iconst (n := 7) (v := (0 : Int32)) C0 dX4_waysInTime_6 rfl rfl ?_
  refine zV_istore (n := 9) C0 [(7, .int (0 : Int32)), (6, .int (0 : Int32)), (5, .int (1 : Int32)), (0, .ref q), (1, .int a1), (2, .int a2), (3, .int a3), (4, .int a4)] dX4_waysInTime_7 rfl (Nat.le_of_ble_eq_true rfl) rfl ?_
  refine zV_iconst (n := 10) (v := (0 : Int32)) C0 dX4_waysInTime_9 rfl rfl ?_
  refine zV_istore (n := 12) C0 [(8, .int (0 : Int32)), (7, .int (0 : Int32)), (6, .int (0 : Int32)), (5, .int (1 : Int32)), (0, .ref q), (1, .int a1), (2, .int a2), (3, .int a3), (4, .int a4)] dX4_waysInTime_10 rfl (Nat.le_of_ble_eq_true rfl) rfl ?_
  refine zV_sub [4, 5, 6, 7, 8, 3, 2, 1, 0] rfl ?_
  refine zfix_ind (fun e => zV E (wC cI q ad) 12 S 12 [(0, .ref q), (1, .int a1), (2, .int a2), (3, .int a3), (4, .int a4), (5, .int e.1), (6, .int e.2.1), (7, .int e.2.2.1), (8, .int e.2.2.2)] []) (fun rec_5 hrec_5 e h => ?_) zN ((1 : Int32), (0 : Int32), (0 : Int32), (0 : Int32)) h
  obtain ⟨x5_1, x6_2, x7_3, x8_4⟩ := e
  have Jrec_5 : ∀ (x5_1 : Int32) (x6_2 : Int32) (x7_3 : Int32) (x8_4 : Int32), rec_5 (x5_1, x6_2, x7_3, x8_4) = some r → zV E (wC cI q ad) 12 S 12 [(0, .ref q), (1, .int a1), (2, .int a2), (3, .int a3), (4, .int a4), (5, .int x5_1), (6, .int x6_2), (7, .int x7_3), (8, .int x8_4)] [] := fun x5_1 x6_2 x7_3 x8_4 h => hrec_5 _ h
  clear hrec_5
  dsimp only [F_X4_waysInTime_12] at h
  show zV E (wC cI q ad) 12 S 12 [(0, .ref q), (1, .int a1), (2, .int a2), (3, .int a3), (4, .int a4), (5, .int x5_1), (6, .int x6_2), (7, .int x7_3), (8, .int x8_4)] []
  refine zV_iload (n := 14) C0 8 dX4_waysInTime_12 rfl rfl ?_
  refine zV_aload_n (n := 15) C0 0 dX4_waysInTime_14 rfl rfl ?_
  refine zV_get (n := 18) (ref := RX4) C0 hinX4_waysInTime_X4 0 rfl rfl 1 (Nat.le_of_ble_eq_true rfl) mX4_waysInTime_0 rfl rfl dX4_waysInTime_15 rfl ?_
  refine zV_getN (n := 21) (ref := RX1) C0 hinX4_waysInTime_X1 2 rfl rfl 0 (Nat.le_of_ble_eq_true rfl) (fun hN => va_Nw.use rfl (hN _ (List.mem_of_getElem? (i := 1) rfl))) rfl rfl dX4_waysInTime_18 rfl ?_
  refine zV_icmp_ge (tgt := 123) (n := 24) C0 dX4_waysInTime_21 rfl rfl (fun hb_28 => ?_) (fun hb_28 => ?_)
  · replace h := if_t hb_28 h
    refine zV_iload (n := 125) C0 6 dX4_waysInTime_123 rfl rfl ?_
    refine zV_iload_n (n := 126) C0 3 dX4_waysInTime_125 rfl rfl ?_
    refine zjoin_of h (fun k_7 hk_7 h => ?_)
    have Jk_7 : ∀ (s_6 : Int32), k_7 (s_6) = some r → zV E (wC cI q ad) 12 S 135 [] [.int s_6] := by
      intro s_6 h
      replace h := hk_7 _ h
      exact zretI1 hR h rfl dX4_waysInTime_135
    clear hk_7
    refine zV_icmp_gt (tgt := 134) (n := 129) C0 dX4_waysInTime_126 rfl rfl (fun hb_8 => ?_) (fun hb_8 => ?_)
    · replace h := if_t hb_8 h
      refine zV_iconst (n := 135) (v := (0 : Int32)) C0 dX4_waysInTime_134 rfl rfl ?_
      refine zV_sub [] rfl ?_
      exact Jk_7 (0 : Int32) h
    · replace h := if_f hb_8 h
      refine zV_iload (n := 131) C0 5 dX4_waysInTime_129 rfl rfl ?_
      refine zV_goto (tgt := 135) C0 dX4_waysInTime_131 rfl ?_
      refine zV_sub [] rfl ?_
      exact Jk_7 x5_1 h
  · replace h := if_f hb_28 h
    refine zV_aload_n (n := 25) C0 0 dX4_waysInTime_24 rfl rfl ?_
    refine zV_get (n := 28) (ref := RX4) C0 hinX4_waysInTime_X4 0 rfl rfl 2 (Nat.le_of_ble_eq_true rfl) mX4_waysInTime_1 rfl rfl dX4_waysInTime_25 rfl ?_
    refine zV_iload_n (n := 29) C0 1 dX4_waysInTime_28 rfl rfl ?_
    refine zV_iload (n := 31) C0 7 dX4_waysInTime_29 rfl rfl ?_
    obtain ⟨r_10, hc_9, h⟩ := ob_of h
    refine zV_callVI (n := 34) (st := []) (As := [.int a1, .int x7_3]) C0 (k_X2_groundAt a1 x7_3 S _ hc_9) gX4_waysInTime_X2_groundAt rfl (hd_X2_groundAt) rfl ⟨rfl, rfl⟩ ⟨Nat.le_of_ble_eq_true rfl, Nat.le_of_ble_eq_true rfl⟩ 3 rfl rfl rfl (Nat.le_of_ble_eq_true rfl) dX4_waysInTime_31 rfl ?_
    refine zV_istore (n := 36) C0 [(9, .int r_10), (0, .ref q), (1, .int a1), (2, .int a2), (3, .int a3), (4, .int a4), (5, .int x5_1), (6, .int x6_2), (7, .int x7_3), (8, .int x8_4)] dX4_waysInTime_34 rfl (Nat.le_of_ble_eq_true rfl) rfl ?_
    refine zV_iload (n := 38) C0 0 dX4_waysInTime_36 rfl rfl ?_
    refine zV_iconst (n := 39) (v := (2 : Int32)) C0 dX4_waysInTime_38 rfl rfl ?_
    refine zjoin_of h (fun k_12 hk_12 h => ?_)
    have Jk_12 : ∀ (s_11 : Int32), k_12 (s_11) = some r → zV E (wC cI q ad) 12 S 49 [(0, .ref q), (1, .int a1), (2, .int a2), (3, .int a3), (4, .int a4), (5, .int x5_1), (6, .int x6_2), (7, .int x7_3), (8, .int x8_4), (9, .int r_10)] [.int s_11] := by
      intro s_11 h
      replace h := hk_12 _ h
      refine zV_istore (n := 51) C0 [(10, .int s_11), (0, .ref q), (1, .int a1), (2, .int a2), (3, .int a3), (4, .int a4), (5, .int x5_1), (6, .int x6_2), (7, .int x7_3), (8, .int x8_4), (9, .int r_10)] dX4_waysInTime_49 rfl (Nat.le_of_ble_eq_true rfl) rfl ?_
      refine zV_iload_n (n := 52) C0 3 dX4_waysInTime_51 rfl rfl ?_
      refine zV_iload (n := 54) C0 9 dX4_waysInTime_52 rfl rfl ?_
      obtain ⟨r_14, hc_13, h⟩ := ob_of h
      refine zV_callS0 (n := 57) (st := []) (As := [.int a2, .int x8_4]) C0 (k_X4_isIn a2 x8_4 _ hc_13) gX4_waysInTime_X4_isIn rfl (hd_X4_isIn) rfl ⟨rfl, rfl⟩ ⟨Nat.le_of_ble_eq_true rfl, Nat.le_of_ble_eq_true rfl⟩ rfl (Nat.le_of_ble_eq_true rfl) dX4_waysInTime_54 rfl ?_
      refine zV_istore (n := 59) C0 [(11, .int r_14), (10, .int s_11), (0, .ref q), (1, .int a1), (2, .int a2), (3, .int a3), (4, .int a4), (5, .int x5_1), (6, .int x6_2), (7, .int x7_3), (8, .int x8_4), (9, .int r_10)] dX4_waysInTime_57 rfl (Nat.le_of_ble_eq_true rfl) rfl ?_
      refine zV_iload (n := 61) C0 7 dX4_waysInTime_59 rfl rfl ?_
      refine zV_iload (n := 63) C0 0 dX4_waysInTime_61 rfl rfl ?_
      refine zjoin_of h (fun k_16 hk_16 h => ?_)
      have Jk_16 : ∀ (s_15 : Int32), k_16 (s_15) = some r → zV E (wC cI q ad) 12 S 76 [(0, .ref q), (1, .int a1), (2, .int a2), (3, .int a3), (4, .int a4), (6, .int x6_2), (7, .int x7_3), (8, .int x8_4), (9, .int r_10), (11, .int r_14)] [.int s_15, .int x5_1] := by
        intro s_15 h
        replace h := hk_16 _ h
        refine zV_imul (n := 77) C0 dX4_waysInTime_76  rfl ?_
        refine zV_topi (fun x5_17 ex5_17 => ?_)
        replace h := zlet_of ex5_17 h
        clear ex5_17
        refine zV_istore (n := 79) C0 [(5, .int x5_17), (0, .ref q), (1, .int a1), (2, .int a2), (3, .int a3), (4, .int a4), (6, .int x6_2), (7, .int x7_3), (8, .int x8_4), (9, .int r_10), (11, .int r_14)] dX4_waysInTime_77 rfl (Nat.le_of_ble_eq_true rfl) rfl ?_
        refine zV_iload (n := 81) C0 6 dX4_waysInTime_79 rfl rfl ?_
        refine zV_aload_n (n := 82) C0 1 dX4_waysInTime_81 rfl rfl ?_
        refine zV_iload_n (n := 83) C0 2 dX4_waysInTime_82 rfl rfl ?_
        refine zV_iload (n := 85) C0 9 dX4_waysInTime_83 rfl rfl ?_
        refine zV_iload (n := 87) C0 8 dX4_waysInTime_85 rfl rfl ?_
        refine zV_aload_n (n := 88) C0 1 dX4_waysInTime_87 rfl rfl ?_
        refine zV_get (n := 91) (ref := RX4) C0 hinX4_waysInTime_X4 0 rfl rfl 2 (Nat.le_of_ble_eq_true rfl) mX4_waysInTime_1 rfl rfl dX4_waysInTime_88 rfl ?_
        refine zV_getN (n := 94) (ref := RX2) C0 hinX4_waysInTime_X2 3 rfl rfl 1 (Nat.le_of_ble_eq_true rfl) (fun hN => va_Nw.use rfl (hN _ (List.mem_of_getElem? (i := 4) rfl))) rfl rfl dX4_waysInTime_91 rfl ?_
        obtain ⟨r_19, hc_18, h⟩ := ob_of h
        refine zV_callVI (n := 97) (st := [.int x6_2]) (As := [.int a1, .int r_10, .int x8_4, .int (S.1 16)]) C0 (k_X4_stepMinutes a1 r_10 x8_4 (S.1 16) S _ hc_18) gX4_waysInTime_X4_stepMinutes rfl (hd_X4_stepMinutes) rfl ⟨rfl, rfl⟩ ⟨Nat.le_of_ble_eq_true rfl, Nat.le_of_ble_eq_true rfl⟩ 0 rfl rfl rfl (Nat.le_of_ble_eq_true rfl) dX4_waysInTime_94 rfl ?_
        refine zV_iadd (n := 98) C0 dX4_waysInTime_97  rfl ?_
        refine zV_topi (fun x6_20 ex6_20 => ?_)
        replace h := zlet_of ex6_20 h
        clear ex6_20
        refine zV_istore (n := 100) C0 [(6, .int x6_20), (5, .int x5_17), (0, .ref q), (1, .int a1), (2, .int a2), (3, .int a3), (4, .int a4), (7, .int x7_3), (8, .int x8_4), (9, .int r_10), (11, .int r_14)] dX4_waysInTime_98 rfl (Nat.le_of_ble_eq_true rfl) rfl ?_
        refine zV_iload (n := 102) C0 7 dX4_waysInTime_100 rfl rfl ?_
        refine zV_iload (n := 104) C0 10 dX4_waysInTime_102 rfl rfl ?_
        refine zjoin_of h (fun k_22 hk_22 h => ?_)
        have Jk_22 : ∀ (s_21 : Int32), k_22 (s_21) = some r → zV E (wC cI q ad) 12 S 112 [(0, .ref q), (1, .int a1), (2, .int a2), (3, .int a3), (4, .int a4), (5, .int x5_17), (6, .int x6_20), (8, .int x8_4)] [.int s_21, .int x7_3] := by
          intro s_21 h
          replace h := hk_22 _ h
          obtain ⟨r_24, hc_23, h⟩ := ob_of h
          refine zV_callS0 (n := 115) (st := []) (As := [.int x7_3, .int s_21]) C0 (k_X4_placeBehind x7_3 s_21 _ hc_23) gX4_waysInTime_X4_placeBehind rfl (hd_X4_placeBehind) rfl ⟨rfl, rfl⟩ ⟨Nat.le_of_ble_eq_true rfl, Nat.le_of_ble_eq_true rfl⟩ rfl (Nat.le_of_ble_eq_true rfl) dX4_waysInTime_112 rfl ?_
          refine zV_istore (n := 117) C0 [(7, .int r_24), (0, .ref q), (1, .int a1), (2, .int a2), (3, .int a3), (4, .int a4), (5, .int x5_17), (6, .int x6_20), (8, .int x8_4)] dX4_waysInTime_115 rfl (Nat.le_of_ble_eq_true rfl) rfl ?_
          refine zV_iinc (n := 120) C0 8 (v := (x8_4 + (1 : Int32))) [(8, .int (x8_4 + (1 : Int32))), (7, .int r_24), (0, .ref q), (1, .int a1), (2, .int a2), (3, .int a3), (4, .int a4), (5, .int x5_17), (6, .int x6_20)] dX4_waysInTime_117 rfl rfl rfl (Nat.le_of_ble_eq_true rfl) rfl ?_
          refine zV_goto (tgt := 12) C0 dX4_waysInTime_120 rfl ?_
          refine zV_sub [2, 3, 4, 5, 6, 7, 8, 1, 0] rfl ?_
          exact Jrec_5 x5_17 x6_20 r_24 (x8_4 + (1 : Int32)) h
        clear hk_22
        refine zV_if_eq (tgt := 111) (n := 107) C0 dX4_waysInTime_104 rfl rfl (fun hb_25 => ?_) (fun hb_25 => ?_)
        · replace h := if_t hb_25 h
          refine zV_iconst (n := 112) (v := (0 : Int32)) C0 dX4_waysInTime_111 rfl rfl ?_
          refine zV_sub [2, 3, 4, 5, 6, 1, 0, 8] rfl ?_
          exact Jk_22 (0 : Int32) h
        · replace h := if_f hb_25 h
          refine zV_iconst (n := 108) (v := (2 : Int32)) C0 dX4_waysInTime_107 rfl rfl ?_
          refine zV_goto (tgt := 112) C0 dX4_waysInTime_108 rfl ?_
          refine zV_sub [2, 3, 4, 5, 6, 1, 0, 8] rfl ?_
          exact Jk_22 (2 : Int32) h
      clear hk_16
      refine zV_if_eq (tgt := 71) (n := 66) C0 dX4_waysInTime_63 rfl rfl (fun hb_26 => ?_) (fun hb_26 => ?_)
      · replace h := if_t hb_26 h
        refine zV_bipush (n := 73) (v := (10 : Int32)) C0 dX4_waysInTime_71 rfl rfl ?_
        refine zV_iload (n := 75) C0 1 dX4_waysInTime_73 rfl rfl ?_
        refine zV_isub (n := 76) C0 dX4_waysInTime_75  rfl ?_
        refine zV_sub [2, 3, 4, 5, 6, 8, 9, 10, 11, 0] rfl ?_
        exact Jk_16 ((10 : Int32) - s_11) h
      · replace h := if_f hb_26 h
        refine zV_iload (n := 68) C0 1 dX4_waysInTime_66 rfl rfl ?_
        refine zV_goto (tgt := 76) C0 dX4_waysInTime_68 rfl ?_
        refine zV_sub [2, 3, 4, 5, 6, 8, 9, 10, 11, 0] rfl ?_
        exact Jk_16 s_11 h
    clear hk_12
    refine zV_icmp_ne (tgt := 47) (n := 42) C0 dX4_waysInTime_39 rfl rfl (fun hb_27 => ?_) (fun hb_27 => ?_)
    · replace h := if_f hb_27 h
      refine zV_iload (n := 49) C0 5 dX4_waysInTime_47 rfl rfl ?_
      refine zV_sub [1, 2, 3, 4, 5, 6, 7, 8, 9, 0] rfl ?_
      exact Jk_12 a4 h
    · replace h := if_t hb_27 h
      refine zV_bipush (n := 44) (v := (10 : Int32)) C0 dX4_waysInTime_42 rfl rfl ?_
      refine zV_goto (tgt := 49) C0 dX4_waysInTime_44 rfl ?_
      refine zV_sub [1, 2, 3, 4, 5, 6, 7, 8, 9, 0] rfl ?_
      exact Jk_12 (10 : Int32) h
set_option maxRecDepth 20000 in
theorem mX4_chance_0 : Cond.fieldLink RX4 19 "LeggedThrough" "plan" "LLeggedThrough$Plan;" ∈ wsX4_chance := by decide +kernel
set_option maxRecDepth 20000 in
theorem hinX4_chance_X1 : ∀ w ∈ u_ws RX1 TX1 5, w ∈ wsX4_chance := fun w h => List.mem_cons_of_mem _ (List.mem_append_left _ (List.mem_append_right _ h))
set_option maxRecDepth 20000 in
theorem hinX4_chance_X4 : ∀ w ∈ u_ws RX4 TX4 10, w ∈ wsX4_chance := fun w h => List.mem_cons_of_mem _ (List.mem_append_left _ (List.mem_append_left _ (List.mem_append_right _ h)))
set_option maxRecDepth 20000 in
set_option maxHeartbeats 4000000 in
theorem k_X4_chance {l : Launch} {D : va_G} {cI cZ : ClassId} {q : Nat} {ad : Nat → Nat} (a1 : Int32) (a2 : Int32) (a3 : Int32) (a4 : Int32)  (S : zS) (r : Int32) (h : f_X4_chance a1 a2 a3 a4 S = some r) : zI l yX4_chance wsX4_chance (zRm 3 80) D (zty cI cZ) zNw (wC cI q ad) [.ref q, .int a1, .int a2, .int a3, .int a4] S (r, S) := by
  refine zI_of (cc := cX4_chance) (maxL := 8) (ty := .int) (by decide +kernel) rfl (Nat.le_of_ble_eq_true rfl) zNw_ok (fun E hE1 hE2 C0 hR => ?_)
  subst hE1; subst hE2
  replace C0 : zCx E (zRm 3 80) cX4_chance 8 RX4 wsX4_chance (zty cI cZ) zNw := C0
  show zV E (wC cI q ad) 8 S 0 [(0, .ref q), (1, .int a1), (2, .int a2), (3, .int a3), (4, .int a4)] []
  delta f_X4_chance at h
  refine zV_aload_n (n := 1) C0 0 dX4_chance_0 rfl rfl ?_
  refine zV_get (n := 4) (ref := RX4) C0 hinX4_chance_X4 0 rfl rfl 1 (Nat.le_of_ble_eq_true rfl) mX4_chance_0 rfl rfl dX4_chance_1 rfl ?_
  refine zV_iload_n (n := 5) C0 1 dX4_chance_4 rfl rfl ?_
  obtain ⟨r_2, hc_1, h⟩ := ob_of h
  refine zV_callVI (n := 8) (st := []) (As := [.int a1]) C0 (k_X1_hasLegger a1 S _ hc_1) gX4_chance_X1_hasLegger rfl (hd_X1_hasLegger) rfl ⟨rfl, rfl⟩ ⟨Nat.le_of_ble_eq_true rfl, Nat.le_of_ble_eq_true rfl⟩ 2 rfl rfl rfl (Nat.le_of_ble_eq_true rfl) dX4_chance_5 rfl ?_
  refine zV_if_ne (tgt := 13) (n := 11) C0 dX4_chance_8 rfl rfl (fun hb_22 => ?_) (fun hb_22 => ?_)
  · replace h := if_f hb_22 h
    refine zV_iload_n (n := 14) C0 2 dX4_chance_13 rfl rfl ?_
    refine zjoin_of h (fun k_3 hk_3 h => ?_)
    have Jk_3 : k_3 () = some r → zV E (wC cI q ad) 8 S 33 [] [] := by
      intro  h
      replace h := hk_3 _ h
      refine zV_bipush (n := 35) (v := (-2 : Int32)) C0 dX4_chance_33 rfl rfl ?_
      exact zretI1 hR h rfl dX4_chance_35
    clear hk_3
    refine zV_if_lt (tgt := 33) (n := 17) C0 dX4_chance_14 rfl rfl (fun hb_21 => ?_) (fun hb_21 => ?_)
    · replace h := if_t hb_21 h
      refine zV_sub [] rfl ?_
      exact Jk_3  h
    · replace h := if_f hb_21 h
      refine zV_iload_n (n := 18) C0 2 dX4_chance_17 rfl rfl ?_
      refine zV_bipush (n := 20) (v := (60 : Int32)) C0 dX4_chance_18 rfl rfl ?_
      refine zV_icmp_gt (tgt := 33) (n := 23) C0 dX4_chance_20 rfl rfl (fun hb_20 => ?_) (fun hb_20 => ?_)
      · replace h := if_t hb_20 h
        refine zV_sub [] rfl ?_
        exact Jk_3  h
      · replace h := if_f hb_20 h
        refine zV_iload_n (n := 24) C0 3 dX4_chance_23 rfl rfl ?_
        refine zV_if_lt (tgt := 33) (n := 27) C0 dX4_chance_24 rfl rfl (fun hb_19 => ?_) (fun hb_19 => ?_)
        · replace h := if_t hb_19 h
          refine zV_sub [] rfl ?_
          exact Jk_3  h
        · replace h := if_f hb_19 h
          refine zV_iload_n (n := 28) C0 3 dX4_chance_27 rfl rfl ?_
          refine zV_bipush (n := 30) (v := (10 : Int32)) C0 dX4_chance_28 rfl rfl ?_
          refine zV_icmp_le (tgt := 36) (n := 33) C0 dX4_chance_30 rfl rfl (fun hb_18 => ?_) (fun hb_18 => ?_)
          · replace h := if_t hb_18 h
            refine zV_iconst (n := 37) (v := (1 : Int32)) C0 dX4_chance_36 rfl rfl ?_
            refine zV_istore (n := 39) C0 [(5, .int (1 : Int32)), (0, .ref q), (1, .int a1), (2, .int a2), (3, .int a3), (4, .int a4)] dX4_chance_37 rfl (Nat.le_of_ble_eq_true rfl) rfl ?_
            refine zV_iconst (n := 40) (v := (0 : Int32)) C0 dX4_chance_39 rfl rfl ?_
            refine zV_istore (n := 42) C0 [(6, .int (0 : Int32)), (5, .int (1 : Int32)), (0, .ref q), (1, .int a1), (2, .int a2), (3, .int a3), (4, .int a4)] dX4_chance_40 rfl (Nat.le_of_ble_eq_true rfl) rfl ?_
            refine zV_sub [2, 3, 4, 5, 6, 1, 0] rfl ?_
            refine zfix_ind (fun e => zV E (wC cI q ad) 8 S 42 [(0, .ref q), (1, .int a1), (2, .int a2), (3, .int a3), (4, .int a4), (5, .int e.1), (6, .int e.2)] []) (fun rec_6 hrec_6 e h => ?_) zN ((1 : Int32), (0 : Int32)) h
            obtain ⟨x5_4, x6_5⟩ := e
            have Jrec_6 : ∀ (x5_4 : Int32) (x6_5 : Int32), rec_6 (x5_4, x6_5) = some r → zV E (wC cI q ad) 8 S 42 [(0, .ref q), (1, .int a1), (2, .int a2), (3, .int a3), (4, .int a4), (5, .int x5_4), (6, .int x6_5)] [] := fun x5_4 x6_5 h => hrec_6 _ h
            clear hrec_6
            dsimp only [F_X4_chance_42] at h
            show zV E (wC cI q ad) 8 S 42 [(0, .ref q), (1, .int a1), (2, .int a2), (3, .int a3), (4, .int a4), (5, .int x5_4), (6, .int x6_5)] []
            refine zV_iload (n := 44) C0 6 dX4_chance_42 rfl rfl ?_
            refine zV_aload_n (n := 45) C0 0 dX4_chance_44 rfl rfl ?_
            refine zV_get (n := 48) (ref := RX4) C0 hinX4_chance_X4 0 rfl rfl 1 (Nat.le_of_ble_eq_true rfl) mX4_chance_0 rfl rfl dX4_chance_45 rfl ?_
            refine zV_getN (n := 51) (ref := RX1) C0 hinX4_chance_X1 2 rfl rfl 0 (Nat.le_of_ble_eq_true rfl) (fun hN => va_Nw.use rfl (hN _ (List.mem_of_getElem? (i := 1) rfl))) rfl rfl dX4_chance_48 rfl ?_
            refine zV_icmp_ge (tgt := 67) (n := 54) C0 dX4_chance_51 rfl rfl (fun hb_17 => ?_) (fun hb_17 => ?_)
            · replace h := if_t hb_17 h
              refine zV_iconst (n := 68) (v := (0 : Int32)) C0 dX4_chance_67 rfl rfl ?_
              refine zV_istore (n := 70) C0 [(6, .int (0 : Int32)), (0, .ref q), (1, .int a1), (2, .int a2), (3, .int a3), (4, .int a4), (5, .int x5_4)] dX4_chance_68 rfl (Nat.le_of_ble_eq_true rfl) rfl ?_
              refine zV_iconst (n := 71) (v := (0 : Int32)) C0 dX4_chance_70 rfl rfl ?_
              refine zV_istore (n := 73) C0 [(7, .int (0 : Int32)), (6, .int (0 : Int32)), (0, .ref q), (1, .int a1), (2, .int a2), (3, .int a3), (4, .int a4), (5, .int x5_4)] dX4_chance_71 rfl (Nat.le_of_ble_eq_true rfl) rfl ?_
              refine zV_sub [2, 3, 4, 5, 6, 7, 1, 0] rfl ?_
              refine zfix_ind (fun e => zV E (wC cI q ad) 8 S 73 [(0, .ref q), (1, .int a1), (2, .int a2), (3, .int a3), (4, .int a4), (5, .int x5_4), (6, .int e.1), (7, .int e.2)] []) (fun rec_9 hrec_9 e h => ?_) zN ((0 : Int32), (0 : Int32)) h
              obtain ⟨x6_7, x7_8⟩ := e
              have Jrec_9 : ∀ (x6_7 : Int32) (x7_8 : Int32), rec_9 (x6_7, x7_8) = some r → zV E (wC cI q ad) 8 S 73 [(0, .ref q), (1, .int a1), (2, .int a2), (3, .int a3), (4, .int a4), (5, .int x5_4), (6, .int x6_7), (7, .int x7_8)] [] := fun x6_7 x7_8 h => hrec_9 _ h
              clear hrec_9
              dsimp only [F_X4_chance_73] at h
              show zV E (wC cI q ad) 8 S 73 [(0, .ref q), (1, .int a1), (2, .int a2), (3, .int a3), (4, .int a4), (5, .int x5_4), (6, .int x6_7), (7, .int x7_8)] []
              refine zV_iload (n := 75) C0 7 dX4_chance_73 rfl rfl ?_
              refine zV_iconst (n := 76) (v := (1 : Int32)) C0 dX4_chance_75 rfl rfl ?_
              refine zV_aload_n (n := 77) C0 0 dX4_chance_76 rfl rfl ?_
              refine zV_get (n := 80) (ref := RX4) C0 hinX4_chance_X4 0 rfl rfl 1 (Nat.le_of_ble_eq_true rfl) mX4_chance_0 rfl rfl dX4_chance_77 rfl ?_
              refine zV_getN (n := 83) (ref := RX1) C0 hinX4_chance_X1 2 rfl rfl 0 (Nat.le_of_ble_eq_true rfl) (fun hN => va_Nw.use rfl (hN _ (List.mem_of_getElem? (i := 1) rfl))) rfl rfl dX4_chance_80 rfl ?_
              refine zV_ishl (n := 84) C0 dX4_chance_83  rfl ?_
              refine zV_icmp_ge (tgt := 107) (n := 87) C0 dX4_chance_84 rfl rfl (fun hb_15 => ?_) (fun hb_15 => ?_)
              · replace h := if_t hb_15 h
                refine zV_iload (n := 109) C0 6 dX4_chance_107 rfl rfl ?_
                refine zV_iload (n := 111) C0 5 dX4_chance_109 rfl rfl ?_
                refine zV_iload (n := 113) C0 4 dX4_chance_111 rfl rfl ?_
                obtain ⟨r_11, hc_10, h⟩ := ob_of h
                refine zV_callS0 (n := 116) (st := []) (As := [.int x6_7, .int x5_4, .int a4]) C0 (k_X4_fraction x6_7 x5_4 a4 _ hc_10) gX4_chance_X4_fraction rfl (hd_X4_fraction) rfl ⟨rfl, rfl⟩ ⟨Nat.le_of_ble_eq_true rfl, Nat.le_of_ble_eq_true rfl⟩ rfl (Nat.le_of_ble_eq_true rfl) dX4_chance_113 rfl ?_
                exact zretI1 hR h rfl dX4_chance_116
              · replace h := if_f hb_15 h
                refine zV_iload (n := 89) C0 6 dX4_chance_87 rfl rfl ?_
                refine zV_aload_n (n := 90) C0 0 dX4_chance_89 rfl rfl ?_
                refine zV_iload_n (n := 91) C0 1 dX4_chance_90 rfl rfl ?_
                refine zV_iload (n := 93) C0 7 dX4_chance_91 rfl rfl ?_
                refine zV_iload_n (n := 94) C0 2 dX4_chance_93 rfl rfl ?_
                refine zV_iload_n (n := 95) C0 3 dX4_chance_94 rfl rfl ?_
                obtain ⟨r_13, hc_12, h⟩ := ob_of h
                refine zV_callVI (n := 98) (st := [.int x6_7]) (As := [.int a1, .int x7_8, .int a2, .int a3]) C0 (k_X4_waysInTime a1 x7_8 a2 a3 S _ hc_12) gX4_chance_X4_waysInTime rfl (hd_X4_waysInTime) rfl ⟨rfl, rfl⟩ ⟨Nat.le_of_ble_eq_true rfl, Nat.le_of_ble_eq_true rfl⟩ 0 rfl rfl rfl (Nat.le_of_ble_eq_true rfl) dX4_chance_95 rfl ?_
                refine zV_iadd (n := 99) C0 dX4_chance_98  rfl ?_
                refine zV_topi (fun x6_14 ex6_14 => ?_)
                replace h := zlet_of ex6_14 h
                clear ex6_14
                refine zV_istore (n := 101) C0 [(6, .int x6_14), (0, .ref q), (1, .int a1), (2, .int a2), (3, .int a3), (4, .int a4), (5, .int x5_4), (7, .int x7_8)] dX4_chance_99 rfl (Nat.le_of_ble_eq_true rfl) rfl ?_
                refine zV_iinc (n := 104) C0 7 (v := (x7_8 + (1 : Int32))) [(7, .int (x7_8 + (1 : Int32))), (6, .int x6_14), (0, .ref q), (1, .int a1), (2, .int a2), (3, .int a3), (4, .int a4), (5, .int x5_4)] dX4_chance_101 rfl rfl rfl (Nat.le_of_ble_eq_true rfl) rfl ?_
                refine zV_goto (tgt := 73) C0 dX4_chance_104 rfl ?_
                refine zV_sub [2, 3, 4, 5, 6, 7, 1, 0] rfl ?_
                exact Jrec_9 x6_14 (x7_8 + (1 : Int32)) h
            · replace h := if_f hb_17 h
              refine zV_iload (n := 56) C0 5 dX4_chance_54 rfl rfl ?_
              refine zV_bipush (n := 58) (v := (10 : Int32)) C0 dX4_chance_56 rfl rfl ?_
              refine zV_imul (n := 59) C0 dX4_chance_58  rfl ?_
              refine zV_topi (fun x5_16 ex5_16 => ?_)
              replace h := zlet_of ex5_16 h
              clear ex5_16
              refine zV_istore (n := 61) C0 [(5, .int x5_16), (0, .ref q), (1, .int a1), (2, .int a2), (3, .int a3), (4, .int a4), (6, .int x6_5)] dX4_chance_59 rfl (Nat.le_of_ble_eq_true rfl) rfl ?_
              refine zV_iinc (n := 64) C0 6 (v := (x6_5 + (1 : Int32))) [(6, .int (x6_5 + (1 : Int32))), (5, .int x5_16), (0, .ref q), (1, .int a1), (2, .int a2), (3, .int a3), (4, .int a4)] dX4_chance_61 rfl rfl rfl (Nat.le_of_ble_eq_true rfl) rfl ?_
              refine zV_goto (tgt := 42) C0 dX4_chance_64 rfl ?_
              refine zV_sub [2, 3, 4, 5, 6, 1, 0] rfl ?_
              exact Jrec_6 x5_16 (x6_5 + (1 : Int32)) h
          · replace h := if_f hb_18 h
            refine zV_sub [] rfl ?_
            exact Jk_3  h
  · replace h := if_t hb_22 h
    refine zV_iconst (n := 12) (v := (-1 : Int32)) C0 dX4_chance_11 rfl rfl ?_
    exact zretI1 hR h rfl dX4_chance_12
set_option maxRecDepth 20000 in
theorem mX4_seed_0 : Cond.fieldLink RX4 202 "LeggedThrough" "theSeed" "J" ∈ wsX4_seed := by decide +kernel
set_option maxRecDepth 20000 in
theorem hinX4_seed_X4 : ∀ w ∈ u_ws RX4 TX4 10, w ∈ wsX4_seed := fun w h => List.mem_cons_of_mem _ (List.mem_append_right _ h)
set_option maxRecDepth 20000 in
set_option maxHeartbeats 4000000 in
theorem k_X4_seed {l : Launch} {D : va_G} {cI cZ : ClassId} {q : Nat} {ad : Nat → Nat} (b1 : Int64)  (S : zS) (r : Int64 × zS) (h : f_X4_seed b1 S = some r) : zJ l yX4_seed wsX4_seed (zRm 0 0) D (zty cI cZ) zNw (wC cI q ad) [.ref q, .long b1] S r := by
  refine zJ_of (cc := cX4_seed) (maxL := 5)  (by decide +kernel) rfl (Nat.le_of_ble_eq_true rfl) zNw_ok (fun E hE1 hE2 C0 hR => ?_)
  subst hE1; subst hE2
  replace C0 : zCx E (zRm 0 0) cX4_seed 5 RX4 wsX4_seed (zty cI cZ) zNw := C0
  show zV E (wC cI q ad) 5 S 0 [(0, .ref q), (1, .long b1)] []
  delta f_X4_seed at h
  refine zV_aload_n (n := 1) C0 0 dX4_seed_0 rfl rfl ?_
  refine zV_get (n := 4) (ref := RX4) C0 hinX4_seed_X4 0 rfl rfl 9 (Nat.le_of_ble_eq_true rfl) mX4_seed_0 rfl rfl dX4_seed_1 rfl ?_
  refine zV_topl (fun x3_1 ex3_1 => ?_)
  replace h := zlet_of ex3_1 h
  clear ex3_1
  refine zV_lstore_n (n := 5) C0 [(3, .long x3_1), (0, .ref q), (1, .long b1)] dX4_seed_4 rfl rfl (Nat.le_of_ble_eq_true rfl) rfl ?_
  refine zV_aload_n (n := 6) C0 1 dX4_seed_5 rfl rfl ?_
  refine zV_lload_n (n := 7) C0 2 dX4_seed_6 rfl rfl ?_
  refine zV_put (n := 10) (ref := RX4) C0 hinX4_seed_X4 0 rfl rfl 9 (Nat.le_of_ble_eq_true rfl) mX4_seed_0 rfl tyX4 tyX4_ok nmX4 rfl (tyX4_ok 9 (Nat.le_of_ble_eq_true rfl)) rfl rfl (Nat.le_of_ble_eq_true rfl) (S.1, b1, S.2.2) (wC_f100 cI q ad S b1) dX4_seed_7 rfl ?_
  refine zV_topS (fun S_2 eS_2 => ?_)
  replace h := zlet_of eS_2 h
  clear eS_2
  refine zV_lload_n (n := 11) C0 0 dX4_seed_10 rfl rfl ?_
  exact zretJ hR h dX4_seed_11
set_option maxRecDepth 20000 in
theorem mX4_legAll_0 : Cond.fieldLink RX4 26 "LeggedThrough" "state" "LLeggedThrough$State;" ∈ wsX4_legAll := by decide +kernel
set_option maxRecDepth 20000 in
theorem mX4_legAll_1 : Cond.constantLong RX4 160 (-9 : Int64) ∈ wsX4_legAll := by decide +kernel
set_option maxRecDepth 20000 in
theorem mX4_legAll_2 : Cond.constantLong RX4 162 (1000000000 : Int64) ∈ wsX4_legAll := by decide +kernel
set_option maxRecDepth 20000 in
theorem mX4_legAll_3 : Cond.fieldLink RX4 19 "LeggedThrough" "plan" "LLeggedThrough$Plan;" ∈ wsX4_legAll := by decide +kernel
set_option maxRecDepth 20000 in
theorem hinX4_legAll_X1 : ∀ w ∈ u_ws RX1 TX1 5, w ∈ wsX4_legAll := fun w h => List.mem_cons_of_mem _ (List.mem_append_right _ h)
set_option maxRecDepth 20000 in
theorem hinX4_legAll_X2 : ∀ w ∈ u_ws RX2 TX2 4, w ∈ wsX4_legAll := fun w h => List.mem_cons_of_mem _ (List.mem_append_left _ (List.mem_append_right _ h))
set_option maxRecDepth 20000 in
theorem hinX4_legAll_X4 : ∀ w ∈ u_ws RX4 TX4 10, w ∈ wsX4_legAll := fun w h => List.mem_cons_of_mem _ (List.mem_append_left _ (List.mem_append_left _ (List.mem_append_right _ h)))
set_option maxRecDepth 20000 in
set_option maxHeartbeats 4000000 in
theorem k_X4_legAll {l : Launch} {D : va_G} {cI cZ : ClassId} {q : Nat} {ad : Nat → Nat}   (S : zS) (r : zS) (h : f_X4_legAll  S = some r) : zU l yX4_legAll wsX4_legAll (zRm 21 638) D (zty cI cZ) zNw (wC cI q ad) [.ref q] S r := by
  refine zU_of (cc := cX4_legAll) (maxL := 5)  (by decide +kernel) rfl (Nat.le_of_ble_eq_true rfl) zNw_ok (fun E hE1 hE2 C0 hR => ?_)
  subst hE1; subst hE2
  replace C0 : zCx E (zRm 21 638) cX4_legAll 5 RX4 wsX4_legAll (zty cI cZ) zNw := C0
  show zV E (wC cI q ad) 5 S 0 [(0, .ref q)] []
  delta f_X4_legAll at h
  refine zV_aload_n (n := 1) C0 0 dX4_legAll_0 rfl rfl ?_
  refine zV_get (n := 4) (ref := RX4) C0 hinX4_legAll_X4 0 rfl rfl 2 (Nat.le_of_ble_eq_true rfl) mX4_legAll_0 rfl rfl dX4_legAll_1 rfl ?_
  refine zV_iconst (n := 5) (v := (0 : Int32)) C0 dX4_legAll_4 rfl rfl ?_
  refine zV_putN (n := 8) (ref := RX2) C0 hinX4_legAll_X2 3 rfl rfl 2 (Nat.le_of_ble_eq_true rfl) (fun hN => va_Nw.use rfl (hN _ (List.mem_of_getElem? (i := 5) rfl))) rfl tyX2 tyX2_ok nmX2 rfl (tyX2_ok 2 (Nat.le_of_ble_eq_true rfl)) rfl rfl (Nat.le_of_ble_eq_true rfl) (upd S.1 17 (0 : Int32), S.2) (wC_f17 cI q ad S (0 : Int32)) dX4_legAll_5 rfl ?_
  refine zV_topS (fun S_1 eS_1 => ?_)
  replace h := zlet_of eS_1 h
  clear eS_1
  refine zV_aload_n (n := 9) C0 0 dX4_legAll_8 rfl rfl ?_
  obtain ⟨r_3, hc_2, h⟩ := ob_of h
  refine zV_callVJ (n := 12) (st := []) (As := []) C0 (k_X4_soonestLegs  S_1 _ hc_2) gX4_legAll_X4_soonestLegs rfl (hd_X4_soonestLegs) rfl ⟨rfl, rfl⟩ ⟨Nat.le_of_ble_eq_true rfl, Nat.le_of_ble_eq_true rfl⟩ 0 rfl rfl rfl (Nat.le_of_ble_eq_true rfl) dX4_legAll_9 rfl ?_
  refine zV_lstore_n (n := 13) C0 [(1, .long r_3), (0, .ref q)] dX4_legAll_12 rfl rfl (Nat.le_of_ble_eq_true rfl) rfl ?_
  refine zV_lload_n (n := 14) C0 0 dX4_legAll_13 rfl rfl ?_
  refine zV_ldc2 (n := 17) (v := (-9 : Int64)) C0 dX4_legAll_14 mX4_legAll_1 rfl ?_
  refine zV_lcmp (n := 18) C0 dX4_legAll_17  rfl ?_
  refine zV_if_ne (tgt := 22) (n := 21) C0 dX4_legAll_18 rfl rfl (fun hb_15 => ?_) (fun hb_15 => ?_)
  · replace h := if_f hb_15 h
    refine zV_lload_n (n := 23) C0 0 dX4_legAll_22 rfl rfl ?_
    refine zV_ldc2 (n := 26) (v := (1000000000 : Int64)) C0 dX4_legAll_23 mX4_legAll_2 rfl ?_
    refine zV_lrem (n := 27) C0 dX4_legAll_26 (by decide) rfl ?_
    refine zV_l2i (n := 28) C0 dX4_legAll_27  rfl ?_
    refine zV_topi (fun x3_4 ex3_4 => ?_)
    replace h := zlet_of ex3_4 h
    clear ex3_4
    refine zV_istore_n (n := 29) C0 [(3, .int x3_4), (1, .long r_3), (0, .ref q)] dX4_legAll_28 rfl rfl (Nat.le_of_ble_eq_true rfl) rfl ?_
    refine zV_iconst (n := 30) (v := (0 : Int32)) C0 dX4_legAll_29 rfl rfl ?_
    refine zV_istore (n := 32) C0 [(4, .int (0 : Int32)), (3, .int x3_4), (1, .long r_3), (0, .ref q)] dX4_legAll_30 rfl (Nat.le_of_ble_eq_true rfl) rfl ?_
    refine zV_sub [3, 2, 1, 0] rfl ?_
    refine zfix_ind (fun e => zV E (wC cI q ad) 5 e.2.2 32 [(0, .ref q), (1, .long r_3), (3, .int e.1), (4, .int e.2.1)] []) (fun rec_8 hrec_8 e h => ?_) zN (x3_4, (0 : Int32), S_1) h
    obtain ⟨x3_5, x4_6, S_7⟩ := e
    have Jrec_8 : ∀ (x3_5 : Int32) (x4_6 : Int32) (S_7 : zS), rec_8 (x3_5, x4_6, S_7) = some r → zV E (wC cI q ad) 5 S_7 32 [(0, .ref q), (1, .long r_3), (3, .int x3_5), (4, .int x4_6)] [] := fun x3_5 x4_6 S_7 h => hrec_8 _ h
    clear hrec_8
    dsimp only [F_X4_legAll_32] at h
    show zV E (wC cI q ad) 5 S_7 32 [(0, .ref q), (1, .long r_3), (3, .int x3_5), (4, .int x4_6)] []
    refine zV_iload (n := 34) C0 3 dX4_legAll_32 rfl rfl ?_
    refine zV_aload_n (n := 35) C0 0 dX4_legAll_34 rfl rfl ?_
    refine zV_get (n := 38) (ref := RX4) C0 hinX4_legAll_X4 0 rfl rfl 1 (Nat.le_of_ble_eq_true rfl) mX4_legAll_3 rfl rfl dX4_legAll_35 rfl ?_
    refine zV_getN (n := 41) (ref := RX1) C0 hinX4_legAll_X1 2 rfl rfl 2 (Nat.le_of_ble_eq_true rfl) (fun hN => va_Nw.use rfl (hN _ (List.mem_of_getElem? (i := 3) rfl))) rfl rfl dX4_legAll_38 rfl ?_
    refine zV_icmp_ge (tgt := 84) (n := 44) C0 dX4_legAll_41 rfl rfl (fun hb_14 => ?_) (fun hb_14 => ?_)
    · replace h := if_t hb_14 h
      refine zV_aload_n (n := 85) C0 0 dX4_legAll_84 rfl rfl ?_
      refine zV_get (n := 88) (ref := RX4) C0 hinX4_legAll_X4 0 rfl rfl 2 (Nat.le_of_ble_eq_true rfl) mX4_legAll_0 rfl rfl dX4_legAll_85 rfl ?_
      refine zV_dup (n := 89) C0 dX4_legAll_88 rfl rfl ?_
      refine zV_getN (n := 92) (ref := RX2) C0 hinX4_legAll_X2 3 rfl rfl 3 (Nat.le_of_ble_eq_true rfl) (fun hN => va_Nw.use rfl (hN _ (List.mem_of_getElem? (i := 6) rfl))) rfl rfl dX4_legAll_89 rfl ?_
      refine zV_lload_n (n := 93) C0 1 dX4_legAll_92 rfl rfl ?_
      refine zV_ldc2 (n := 96) (v := (1000000000 : Int64)) C0 dX4_legAll_93 mX4_legAll_2 rfl ?_
      refine zV_ldiv (n := 97) C0 dX4_legAll_96 (by decide) rfl ?_
      refine zV_l2i (n := 98) C0 dX4_legAll_97  rfl ?_
      refine zV_iadd (n := 99) C0 dX4_legAll_98  rfl ?_
      refine zV_putN (n := 102) (ref := RX2) C0 hinX4_legAll_X2 3 rfl rfl 3 (Nat.le_of_ble_eq_true rfl) (fun hN => va_Nw.use rfl (hN _ (List.mem_of_getElem? (i := 6) rfl))) rfl tyX2 tyX2_ok nmX2 rfl (tyX2_ok 3 (Nat.le_of_ble_eq_true rfl)) rfl rfl (Nat.le_of_ble_eq_true rfl) (upd S_7.1 18 ((S_7.1 18) + ((r_3 / (1000000000 : Int64))).toInt32), S_7.2) (wC_f18 cI q ad S_7 ((S_7.1 18) + ((r_3 / (1000000000 : Int64))).toInt32)) dX4_legAll_99 rfl ?_
      refine zV_topS (fun S_9 eS_9 => ?_)
      replace h := zlet_of eS_9 h
      clear eS_9
      exact zretU hR h dX4_legAll_102
    · replace h := if_f hb_14 h
      refine zV_aload_n (n := 45) C0 0 dX4_legAll_44 rfl rfl ?_
      refine zV_get (n := 48) (ref := RX4) C0 hinX4_legAll_X4 0 rfl rfl 2 (Nat.le_of_ble_eq_true rfl) mX4_legAll_0 rfl rfl dX4_legAll_45 rfl ?_
      refine zV_aload_n (n := 49) C0 0 dX4_legAll_48 rfl rfl ?_
      refine zV_get (n := 52) (ref := RX4) C0 hinX4_legAll_X4 0 rfl rfl 2 (Nat.le_of_ble_eq_true rfl) mX4_legAll_0 rfl rfl dX4_legAll_49 rfl ?_
      refine zV_getN (n := 55) (ref := RX2) C0 hinX4_legAll_X2 3 rfl rfl 1 (Nat.le_of_ble_eq_true rfl) (fun hN => va_Nw.use rfl (hN _ (List.mem_of_getElem? (i := 4) rfl))) rfl rfl dX4_legAll_52 rfl ?_
      refine zV_iload_n (n := 56) C0 2 dX4_legAll_55 rfl rfl ?_
      refine zV_bipush (n := 58) (v := (10 : Int32)) C0 dX4_legAll_56 rfl rfl ?_
      refine zV_idiv (n := 59) C0 dX4_legAll_58 (by decide) rfl ?_
      refine zV_bipush (n := 61) (v := (10 : Int32)) C0 dX4_legAll_59 rfl rfl ?_
      refine zV_irem (n := 62) C0 dX4_legAll_61 (by decide) rfl ?_
      refine zV_iload_n (n := 63) C0 2 dX4_legAll_62 rfl rfl ?_
      refine zV_bipush (n := 65) (v := (10 : Int32)) C0 dX4_legAll_63 rfl rfl ?_
      refine zV_irem (n := 66) C0 dX4_legAll_65 (by decide) rfl ?_
      obtain ⟨r_11, hc_10, h⟩ := ob_of h
      refine zV_callS0 (n := 69) (st := [.ref (ad 2)]) (As := [.int (S_7.1 16), .int (zrem (x3_5 / (10 : Int32)) (10 : Int32)), .int (zrem x3_5 (10 : Int32))]) C0 (k_X4_tireBoth (S_7.1 16) (zrem (x3_5 / (10 : Int32)) (10 : Int32)) (zrem x3_5 (10 : Int32)) _ hc_10) gX4_legAll_X4_tireBoth rfl (hd_X4_tireBoth) rfl ⟨rfl, rfl⟩ ⟨Nat.le_of_ble_eq_true rfl, Nat.le_of_ble_eq_true rfl⟩ rfl (Nat.le_of_ble_eq_true rfl) dX4_legAll_66 rfl ?_
      refine zV_putN (n := 72) (ref := RX2) C0 hinX4_legAll_X2 3 rfl rfl 1 (Nat.le_of_ble_eq_true rfl) (fun hN => va_Nw.use rfl (hN _ (List.mem_of_getElem? (i := 4) rfl))) rfl tyX2 tyX2_ok nmX2 rfl (tyX2_ok 1 (Nat.le_of_ble_eq_true rfl)) rfl rfl (Nat.le_of_ble_eq_true rfl) (upd S_7.1 16 r_11, S_7.2) (wC_f16 cI q ad S_7 r_11) dX4_legAll_69 rfl ?_
      refine zV_topS (fun S_12 eS_12 => ?_)
      replace h := zlet_of eS_12 h
      clear eS_12
      refine zV_iload_n (n := 73) C0 2 dX4_legAll_72 rfl rfl ?_
      refine zV_sipush (n := 76) (v := (1000 : Int32)) C0 dX4_legAll_73 rfl rfl ?_
      refine zV_idiv (n := 77) C0 dX4_legAll_76 (by decide) rfl ?_
      refine zV_topi (fun x3_13 ex3_13 => ?_)
      replace h := zlet_of ex3_13 h
      clear ex3_13
      refine zV_istore_n (n := 78) C0 [(3, .int x3_13), (0, .ref q), (1, .long r_3), (4, .int x4_6)] dX4_legAll_77 rfl rfl (Nat.le_of_ble_eq_true rfl) rfl ?_
      refine zV_iinc (n := 81) C0 3 (v := (x4_6 + (1 : Int32))) [(4, .int (x4_6 + (1 : Int32))), (3, .int x3_13), (0, .ref q), (1, .long r_3)] dX4_legAll_78 rfl rfl rfl (Nat.le_of_ble_eq_true rfl) rfl ?_
      refine zV_goto (tgt := 32) C0 dX4_legAll_81 rfl ?_
      refine zV_sub [2, 3, 1, 0] rfl ?_
      exact Jrec_8 x3_13 (x4_6 + (1 : Int32)) S_12 h
  · replace h := if_t hb_15 h
    exact zretU hR h dX4_legAll_21
set_option maxRecDepth 20000 in
theorem mX4_days_0 : Cond.fieldLink RX4 26 "LeggedThrough" "state" "LLeggedThrough$State;" ∈ wsX4_days := by decide +kernel
set_option maxRecDepth 20000 in
theorem mX4_days_1 : Cond.fieldLink RX4 41 "LeggedThrough" "aside" "[I" ∈ wsX4_days := by decide +kernel
set_option maxRecDepth 20000 in
theorem mX4_days_2 : Cond.fieldLink RX4 202 "LeggedThrough" "theSeed" "J" ∈ wsX4_days := by decide +kernel
set_option maxRecDepth 20000 in
theorem mX4_days_3 : Cond.constantLong RX4 210 (6364136223846793005 : Int64) ∈ wsX4_days := by decide +kernel
set_option maxRecDepth 20000 in
theorem mX4_days_4 : Cond.constantLong RX4 212 (1442695040888963407 : Int64) ∈ wsX4_days := by decide +kernel
set_option maxRecDepth 20000 in
theorem mX4_days_5 : Cond.constantLong RX4 214 (20 : Int64) ∈ wsX4_days := by decide +kernel
set_option maxRecDepth 20000 in
theorem mX4_days_6 : Cond.fieldLink RX4 19 "LeggedThrough" "plan" "LLeggedThrough$Plan;" ∈ wsX4_days := by decide +kernel
set_option maxRecDepth 20000 in
theorem hinX4_days_X2 : ∀ w ∈ u_ws RX2 TX2 4, w ∈ wsX4_days := fun w h => List.mem_cons_of_mem _ (List.mem_append_left _ (List.mem_append_right _ h))
set_option maxRecDepth 20000 in
theorem hinX4_days_X4 : ∀ w ∈ u_ws RX4 TX4 10, w ∈ wsX4_days := fun w h => List.mem_cons_of_mem _ (List.mem_append_left _ (List.mem_append_left _ (List.mem_append_right _ h)))
set_option maxRecDepth 20000 in
set_option maxHeartbeats 4000000 in
theorem k_X4_days {l : Launch} {D : va_G} {cI cZ : ClassId} {q : Nat} {ad : Nat → Nat} (a1 : Int32)  (S : zS) (r : Int32 × zS) (h : f_X4_days a1 S = some r) : zI l yX4_days wsX4_days (zRm 22 662) D (zty cI cZ) zNw (wC cI q ad) [.ref q, .int a1] S r := by
  refine zI_of (cc := cX4_days) (maxL := 7) (ty := .int) (by decide +kernel) rfl (Nat.le_of_ble_eq_true rfl) zNw_ok (fun E hE1 hE2 C0 hR => ?_)
  subst hE1; subst hE2
  replace C0 : zCx E (zRm 22 662) cX4_days 7 RX4 wsX4_days (zty cI cZ) zNw := C0
  show zV E (wC cI q ad) 7 S 0 [(0, .ref q), (1, .int a1)] []
  delta f_X4_days at h
  refine zV_iload_n (n := 1) C0 1 dX4_days_0 rfl rfl ?_
  refine zV_iconst (n := 2) (v := (1 : Int32)) C0 dX4_days_1 rfl rfl ?_
  refine zjoin_of h (fun k_1 hk_1 h => ?_)
  have Jk_1 : k_1 () = some r → zV E (wC cI q ad) 7 S 11 [] [] := by
    intro  h
    replace h := hk_1 _ h
    refine zV_bipush (n := 13) (v := (-2 : Int32)) C0 dX4_days_11 rfl rfl ?_
    exact zretI hR h rfl dX4_days_13
  clear hk_1
  refine zV_icmp_lt (tgt := 11) (n := 5) C0 dX4_days_2 rfl rfl (fun hb_29 => ?_) (fun hb_29 => ?_)
  · replace h := if_t hb_29 h
    refine zV_sub [] rfl ?_
    exact Jk_1  h
  · replace h := if_f hb_29 h
    refine zV_iload_n (n := 6) C0 1 dX4_days_5 rfl rfl ?_
    refine zV_bipush (n := 8) (v := (30 : Int32)) C0 dX4_days_6 rfl rfl ?_
    refine zV_icmp_le (tgt := 14) (n := 11) C0 dX4_days_8 rfl rfl (fun hb_28 => ?_) (fun hb_28 => ?_)
    · replace h := if_t hb_28 h
      refine zV_aload_n (n := 15) C0 0 dX4_days_14 rfl rfl ?_
      refine zV_get (n := 18) (ref := RX4) C0 hinX4_days_X4 0 rfl rfl 2 (Nat.le_of_ble_eq_true rfl) mX4_days_0 rfl rfl dX4_days_15 rfl ?_
      refine zV_aload_n (n := 19) C0 0 dX4_days_18 rfl rfl ?_
      refine zV_get (n := 22) (ref := RX4) C0 hinX4_days_X4 0 rfl rfl 5 (Nat.le_of_ble_eq_true rfl) mX4_days_1 rfl rfl dX4_days_19 rfl ?_
      refine zV_iconst (n := 23) (v := (0 : Int32)) C0 dX4_days_22 rfl rfl ?_
      obtain ⟨S_3, hc_2, h⟩ := ob_of h
      refine zV_callVU (n := 26) (st := []) (As := [.ref (ad 5), .int (0 : Int32)]) C0 (k_X2_storeIn 5 (0 : Int32) (by decide) S _ hc_2) gX4_days_X2_storeIn rfl (hd_X2_storeIn) rfl ⟨rfl, rfl⟩ ⟨Nat.le_of_ble_eq_true rfl, Nat.le_of_ble_eq_true rfl⟩ 3 rfl rfl rfl (Nat.le_of_ble_eq_true rfl) dX4_days_23 rfl ?_
      refine zV_aload_n (n := 27) C0 0 dX4_days_26 rfl rfl ?_
      refine zV_get (n := 30) (ref := RX4) C0 hinX4_days_X4 0 rfl rfl 2 (Nat.le_of_ble_eq_true rfl) mX4_days_0 rfl rfl dX4_days_27 rfl ?_
      refine zV_getN (n := 33) (ref := RX2) C0 hinX4_days_X2 3 rfl rfl 3 (Nat.le_of_ble_eq_true rfl) (fun hN => va_Nw.use rfl (hN _ (List.mem_of_getElem? (i := 6) rfl))) rfl rfl dX4_days_30 rfl ?_
      refine zV_topi (fun x2_4 ex2_4 => ?_)
      replace h := zlet_of ex2_4 h
      clear ex2_4
      refine zV_istore_n (n := 34) C0 [(2, .int x2_4), (0, .ref q), (1, .int a1)] dX4_days_33 rfl rfl (Nat.le_of_ble_eq_true rfl) rfl ?_
      refine zV_iconst (n := 35) (v := (0 : Int32)) C0 dX4_days_34 rfl rfl ?_
      refine zV_istore_n (n := 36) C0 [(3, .int (0 : Int32)), (2, .int x2_4), (0, .ref q), (1, .int a1)] dX4_days_35 rfl rfl (Nat.le_of_ble_eq_true rfl) rfl ?_
      refine zV_sub [2, 3, 1, 0] rfl ?_
      refine zfix_ind (fun e => zV E (wC cI q ad) 7 e.2 36 [(0, .ref q), (1, .int a1), (2, .int x2_4), (3, .int e.1)] []) (fun rec_7 hrec_7 e h => ?_) zN ((0 : Int32), S_3) h
      obtain ⟨x3_5, S_6⟩ := e
      have Jrec_7 : ∀ (x3_5 : Int32) (S_6 : zS), rec_7 (x3_5, S_6) = some r → zV E (wC cI q ad) 7 S_6 36 [(0, .ref q), (1, .int a1), (2, .int x2_4), (3, .int x3_5)] [] := fun x3_5 S_6 h => hrec_7 _ h
      clear hrec_7
      dsimp only [F_X4_days_36] at h
      show zV E (wC cI q ad) 7 S_6 36 [(0, .ref q), (1, .int a1), (2, .int x2_4), (3, .int x3_5)] []
      refine zV_iload_n (n := 37) C0 3 dX4_days_36 rfl rfl ?_
      refine zV_iload_n (n := 38) C0 1 dX4_days_37 rfl rfl ?_
      refine zV_icmp_ge (tgt := 128) (n := 41) C0 dX4_days_38 rfl rfl (fun hb_27 => ?_) (fun hb_27 => ?_)
      · replace h := if_t hb_27 h
        refine zV_aload_n (n := 129) C0 0 dX4_days_128 rfl rfl ?_
        refine zV_get (n := 132) (ref := RX4) C0 hinX4_days_X4 0 rfl rfl 2 (Nat.le_of_ble_eq_true rfl) mX4_days_0 rfl rfl dX4_days_129 rfl ?_
        refine zV_getN (n := 135) (ref := RX2) C0 hinX4_days_X2 3 rfl rfl 3 (Nat.le_of_ble_eq_true rfl) (fun hN => va_Nw.use rfl (hN _ (List.mem_of_getElem? (i := 6) rfl))) rfl rfl dX4_days_132 rfl ?_
        refine zV_iload_n (n := 136) C0 2 dX4_days_135 rfl rfl ?_
        refine zV_isub (n := 137) C0 dX4_days_136  rfl ?_
        refine zV_topi (fun x3_8 ex3_8 => ?_)
        replace h := zlet_of ex3_8 h
        clear ex3_8
        refine zV_istore_n (n := 138) C0 [(3, .int x3_8), (0, .ref q), (1, .int a1), (2, .int x2_4)] dX4_days_137 rfl rfl (Nat.le_of_ble_eq_true rfl) rfl ?_
        refine zV_aload_n (n := 139) C0 1 dX4_days_138 rfl rfl ?_
        refine zV_get (n := 142) (ref := RX4) C0 hinX4_days_X4 0 rfl rfl 2 (Nat.le_of_ble_eq_true rfl) mX4_days_0 rfl rfl dX4_days_139 rfl ?_
        refine zV_aload_n (n := 143) C0 1 dX4_days_142 rfl rfl ?_
        refine zV_get (n := 146) (ref := RX4) C0 hinX4_days_X4 0 rfl rfl 5 (Nat.le_of_ble_eq_true rfl) mX4_days_1 rfl rfl dX4_days_143 rfl ?_
        refine zV_iconst (n := 147) (v := (0 : Int32)) C0 dX4_days_146 rfl rfl ?_
        obtain ⟨S_10, hc_9, h⟩ := ob_of h
        refine zV_callVU (n := 150) (st := []) (As := [.ref (ad 5), .int (0 : Int32)]) C0 (k_X2_fetchFrom 5 (0 : Int32) (by decide) S_6 _ hc_9) gX4_days_X2_fetchFrom rfl (hd_X2_fetchFrom) rfl ⟨rfl, rfl⟩ ⟨Nat.le_of_ble_eq_true rfl, Nat.le_of_ble_eq_true rfl⟩ 3 rfl rfl rfl (Nat.le_of_ble_eq_true rfl) dX4_days_147 rfl ?_
        refine zV_iload_n (n := 151) C0 0 dX4_days_150 rfl rfl ?_
        exact zretI hR h rfl dX4_days_151
      · replace h := if_f hb_27 h
        refine zV_aload_n (n := 42) C0 0 dX4_days_41 rfl rfl ?_
        refine zV_aload_n (n := 43) C0 0 dX4_days_42 rfl rfl ?_
        refine zV_get (n := 46) (ref := RX4) C0 hinX4_days_X4 0 rfl rfl 9 (Nat.le_of_ble_eq_true rfl) mX4_days_2 rfl rfl dX4_days_43 rfl ?_
        refine zV_ldc2 (n := 49) (v := (6364136223846793005 : Int64)) C0 dX4_days_46 mX4_days_3 rfl ?_
        refine zV_lmul (n := 50) C0 dX4_days_49  rfl ?_
        refine zV_ldc2 (n := 53) (v := (1442695040888963407 : Int64)) C0 dX4_days_50 mX4_days_4 rfl ?_
        refine zV_ladd (n := 54) C0 dX4_days_53  rfl ?_
        refine zV_put (n := 57) (ref := RX4) C0 hinX4_days_X4 0 rfl rfl 9 (Nat.le_of_ble_eq_true rfl) mX4_days_2 rfl tyX4 tyX4_ok nmX4 rfl (tyX4_ok 9 (Nat.le_of_ble_eq_true rfl)) rfl rfl (Nat.le_of_ble_eq_true rfl) (S_6.1, ((S_6.2.1 * (6364136223846793005 : Int64)) + (1442695040888963407 : Int64)), S_6.2.2) (wC_f100 cI q ad S_6 ((S_6.2.1 * (6364136223846793005 : Int64)) + (1442695040888963407 : Int64))) dX4_days_54 rfl ?_
        refine zV_topS (fun S_11 eS_11 => ?_)
        replace h := zlet_of eS_11 h
        clear eS_11
        refine zV_aload_n (n := 58) C0 0 dX4_days_57 rfl rfl ?_
        refine zV_get (n := 61) (ref := RX4) C0 hinX4_days_X4 0 rfl rfl 9 (Nat.le_of_ble_eq_true rfl) mX4_days_2 rfl rfl dX4_days_58 rfl ?_
        refine zV_bipush (n := 63) (v := (33 : Int32)) C0 dX4_days_61 rfl rfl ?_
        refine zV_lushr (n := 64) C0 dX4_days_63  rfl ?_
        refine zV_ldc2 (n := 67) (v := (20 : Int64)) C0 dX4_days_64 mX4_days_5 rfl ?_
        refine zV_lrem (n := 68) C0 dX4_days_67 (by decide) rfl ?_
        refine zV_l2i (n := 69) C0 dX4_days_68  rfl ?_
        refine zV_topi (fun x4_12 ex4_12 => ?_)
        replace h := zlet_of ex4_12 h
        clear ex4_12
        refine zV_istore (n := 71) C0 [(4, .int x4_12), (0, .ref q), (1, .int a1), (2, .int x2_4), (3, .int x3_5)] dX4_days_69 rfl (Nat.le_of_ble_eq_true rfl) rfl ?_
        refine zV_iload (n := 73) C0 0 dX4_days_71 rfl rfl ?_
        refine zV_iconst (n := 74) (v := (4 : Int32)) C0 dX4_days_73 rfl rfl ?_
        refine zV_idiv (n := 75) C0 dX4_days_74 (by decide) rfl ?_
        refine zV_topi (fun x5_13 ex5_13 => ?_)
        replace h := zlet_of ex5_13 h
        clear ex5_13
        refine zV_istore (n := 77) C0 [(5, .int x5_13), (4, .int x4_12), (0, .ref q), (1, .int a1), (2, .int x2_4), (3, .int x3_5)] dX4_days_75 rfl (Nat.le_of_ble_eq_true rfl) rfl ?_
        refine zV_iload (n := 79) C0 1 dX4_days_77 rfl rfl ?_
        refine zV_iconst (n := 80) (v := (4 : Int32)) C0 dX4_days_79 rfl rfl ?_
        refine zV_irem (n := 81) C0 dX4_days_80 (by decide) rfl ?_
        refine zV_topi (fun x6_14 ex6_14 => ?_)
        replace h := zlet_of ex6_14 h
        clear ex6_14
        refine zV_istore (n := 83) C0 [(6, .int x6_14), (5, .int x5_13), (4, .int x4_12), (0, .ref q), (1, .int a1), (2, .int x2_4), (3, .int x3_5)] dX4_days_81 rfl (Nat.le_of_ble_eq_true rfl) rfl ?_
        refine zV_iload (n := 85) C0 1 dX4_days_83 rfl rfl ?_
        obtain ⟨r_16, hc_15, h⟩ := ob_of h
        refine zV_callS0 (n := 88) (st := []) (As := [.int x5_13]) C0 (k_X4_isPlace x5_13 _ hc_15) gX4_days_X4_isPlace rfl (hd_X4_isPlace) rfl ⟨rfl, rfl⟩ ⟨Nat.le_of_ble_eq_true rfl, Nat.le_of_ble_eq_true rfl⟩ rfl (Nat.le_of_ble_eq_true rfl) dX4_days_85 rfl ?_
        refine zjoin_of h (fun k_18 hk_18 h => ?_)
        have Jk_18 : ∀ (S_17 : zS), k_18 (S_17) = some r → zV E (wC cI q ad) 7 S_17 122 [(0, .ref q), (1, .int a1), (2, .int x2_4), (3, .int x3_5)] [] := by
          intro S_17 h
          replace h := hk_18 _ h
          refine zV_iinc (n := 125) C0 3 (v := (x3_5 + (1 : Int32))) [(3, .int (x3_5 + (1 : Int32))), (0, .ref q), (1, .int a1), (2, .int x2_4)] dX4_days_122 rfl rfl rfl (Nat.le_of_ble_eq_true rfl) rfl ?_
          refine zV_goto (tgt := 36) C0 dX4_days_125 rfl ?_
          refine zV_sub [1, 2, 3, 0] rfl ?_
          exact Jrec_7 (x3_5 + (1 : Int32)) S_17 h
        clear hk_18
        refine zV_if_ne (tgt := 98) (n := 91) C0 dX4_days_88 rfl rfl (fun hb_26 => ?_) (fun hb_26 => ?_)
        · replace h := if_f hb_26 h
          refine zV_aload_n (n := 99) C0 3 dX4_days_98 rfl rfl ?_
          refine zV_get (n := 102) (ref := RX4) C0 hinX4_days_X4 0 rfl rfl 1 (Nat.le_of_ble_eq_true rfl) mX4_days_6 rfl rfl dX4_days_99 rfl ?_
          refine zV_iload (n := 104) C0 0 dX4_days_102 rfl rfl ?_
          obtain ⟨r_20, hc_19, h⟩ := ob_of h
          refine zV_callVI (n := 107) (st := []) (As := [.int x6_14]) C0 (k_X1_hasLegger x6_14 S_11 _ hc_19) gX4_days_X1_hasLegger rfl (hd_X1_hasLegger) rfl ⟨rfl, rfl⟩ ⟨Nat.le_of_ble_eq_true rfl, Nat.le_of_ble_eq_true rfl⟩ 2 rfl rfl rfl (Nat.le_of_ble_eq_true rfl) dX4_days_104 rfl ?_
          refine zV_if_eq (tgt := 122) (n := 110) C0 dX4_days_107 rfl rfl (fun hb_23 => ?_) (fun hb_23 => ?_)
          · replace h := if_t hb_23 h
            refine zV_sub [3, 4, 5, 6] rfl ?_
            exact Jk_18 S_11 h
          · replace h := if_f hb_23 h
            refine zV_aload_n (n := 111) C0 3 dX4_days_110 rfl rfl ?_
            refine zV_get (n := 114) (ref := RX4) C0 hinX4_days_X4 0 rfl rfl 2 (Nat.le_of_ble_eq_true rfl) mX4_days_0 rfl rfl dX4_days_111 rfl ?_
            refine zV_iload (n := 116) C0 0 dX4_days_114 rfl rfl ?_
            refine zV_iload (n := 118) C0 1 dX4_days_116 rfl rfl ?_
            refine zV_iconst (n := 119) (v := (2 : Int32)) C0 dX4_days_118 rfl rfl ?_
            obtain ⟨S_22, hc_21, h⟩ := ob_of h
            refine zV_callVU (n := 122) (st := []) (As := [.int x6_14, .int x5_13, .int (2 : Int32)]) C0 (k_X2_cover x6_14 x5_13 (2 : Int32) S_11 _ hc_21) gX4_days_X2_cover rfl (hd_X2_cover) rfl ⟨rfl, rfl⟩ ⟨Nat.le_of_ble_eq_true rfl, Nat.le_of_ble_eq_true rfl⟩ 3 rfl rfl rfl (Nat.le_of_ble_eq_true rfl) dX4_days_119 rfl ?_
            refine zV_sub [3, 4, 5, 6] rfl ?_
            exact Jk_18 S_22 h
        · replace h := if_t hb_26 h
          refine zV_aload_n (n := 92) C0 3 dX4_days_91 rfl rfl ?_
          obtain ⟨S_25, hc_24, h⟩ := ob_of h
          refine zV_callVU (n := 95) (st := []) (As := []) C0 (k_X4_legAll  S_11 _ hc_24) gX4_days_X4_legAll rfl (hd_X4_legAll) rfl ⟨rfl, rfl⟩ ⟨Nat.le_of_ble_eq_true rfl, Nat.le_of_ble_eq_true rfl⟩ 0 rfl rfl rfl (Nat.le_of_ble_eq_true rfl) dX4_days_92 rfl ?_
          refine zV_goto (tgt := 122) C0 dX4_days_95 rfl ?_
          refine zV_sub [3, 4, 5, 6] rfl ?_
          exact Jk_18 S_25 h
    · replace h := if_f hb_28 h
      refine zV_sub [] rfl ?_
      exact Jk_1  h
set_option maxRecDepth 20000 in
theorem mX4_keep_0 : Cond.fieldLink RX4 26 "LeggedThrough" "state" "LLeggedThrough$State;" ∈ wsX4_keep := by decide +kernel
set_option maxRecDepth 20000 in
theorem mX4_keep_1 : Cond.fieldLink RX4 37 "LeggedThrough" "slots" "[I" ∈ wsX4_keep := by decide +kernel
set_option maxRecDepth 20000 in
theorem mX4_keep_2 : Cond.fieldLink RX4 62 "LeggedThrough" "slotsKept" "I" ∈ wsX4_keep := by decide +kernel
set_option maxRecDepth 20000 in
theorem hinX4_keep_X2 : ∀ w ∈ u_ws RX2 TX2 4, w ∈ wsX4_keep := fun w h => List.mem_cons_of_mem _ (List.mem_append_right _ h)
set_option maxRecDepth 20000 in
theorem hinX4_keep_X4 : ∀ w ∈ u_ws RX4 TX4 10, w ∈ wsX4_keep := fun w h => List.mem_cons_of_mem _ (List.mem_append_left _ (List.mem_append_right _ h))
set_option maxRecDepth 20000 in
set_option maxHeartbeats 4000000 in
theorem k_X4_keep {l : Launch} {D : va_G} {cI cZ : ClassId} {q : Nat} {ad : Nat → Nat} (a1 : Int32)  (S : zS) (r : Int32 × zS) (h : f_X4_keep a1 S = some r) : zI l yX4_keep wsX4_keep (zRm 1 23) D (zty cI cZ) zNw (wC cI q ad) [.ref q, .int a1] S r := by
  refine zI_of (cc := cX4_keep) (maxL := 2) (ty := .int) (by decide +kernel) rfl (Nat.le_of_ble_eq_true rfl) zNw_ok (fun E hE1 hE2 C0 hR => ?_)
  subst hE1; subst hE2
  replace C0 : zCx E (zRm 1 23) cX4_keep 2 RX4 wsX4_keep (zty cI cZ) zNw := C0
  show zV E (wC cI q ad) 2 S 0 [(0, .ref q), (1, .int a1)] []
  delta f_X4_keep at h
  refine zV_iload_n (n := 1) C0 1 dX4_keep_0 rfl rfl ?_
  refine zjoin_of h (fun k_1 hk_1 h => ?_)
  have Jk_1 : k_1 () = some r → zV E (wC cI q ad) 2 S 9 [] [] := by
    intro  h
    replace h := hk_1 _ h
    refine zV_iconst (n := 10) (v := (-1 : Int32)) C0 dX4_keep_9 rfl rfl ?_
    exact zretI hR h rfl dX4_keep_10
  clear hk_1
  refine zV_if_lt (tgt := 9) (n := 4) C0 dX4_keep_1 rfl rfl (fun hb_6 => ?_) (fun hb_6 => ?_)
  · replace h := if_t hb_6 h
    refine zV_sub [] rfl ?_
    exact Jk_1  h
  · replace h := if_f hb_6 h
    refine zV_iload_n (n := 5) C0 1 dX4_keep_4 rfl rfl ?_
    refine zV_iconst (n := 6) (v := (2 : Int32)) C0 dX4_keep_5 rfl rfl ?_
    refine zV_icmp_lt (tgt := 11) (n := 9) C0 dX4_keep_6 rfl rfl (fun hb_5 => ?_) (fun hb_5 => ?_)
    · replace h := if_t hb_5 h
      refine zV_aload_n (n := 12) C0 0 dX4_keep_11 rfl rfl ?_
      refine zV_get (n := 15) (ref := RX4) C0 hinX4_keep_X4 0 rfl rfl 2 (Nat.le_of_ble_eq_true rfl) mX4_keep_0 rfl rfl dX4_keep_12 rfl ?_
      refine zV_aload_n (n := 16) C0 0 dX4_keep_15 rfl rfl ?_
      refine zV_get (n := 19) (ref := RX4) C0 hinX4_keep_X4 0 rfl rfl 4 (Nat.le_of_ble_eq_true rfl) mX4_keep_1 rfl rfl dX4_keep_16 rfl ?_
      refine zV_iload_n (n := 20) C0 1 dX4_keep_19 rfl rfl ?_
      obtain ⟨S_3, hc_2, h⟩ := ob_of h
      refine zV_callVU (n := 23) (st := []) (As := [.ref (ad 4), .int a1]) C0 (k_X2_storeIn 4 a1 (by decide) S _ hc_2) gX4_keep_X2_storeIn rfl (hd_X2_storeIn) rfl ⟨rfl, rfl⟩ ⟨Nat.le_of_ble_eq_true rfl, Nat.le_of_ble_eq_true rfl⟩ 3 rfl rfl rfl (Nat.le_of_ble_eq_true rfl) dX4_keep_20 rfl ?_
      refine zV_aload_n (n := 24) C0 0 dX4_keep_23 rfl rfl ?_
      refine zV_dup (n := 25) C0 dX4_keep_24 rfl rfl ?_
      refine zV_get (n := 28) (ref := RX4) C0 hinX4_keep_X4 0 rfl rfl 6 (Nat.le_of_ble_eq_true rfl) mX4_keep_2 rfl rfl dX4_keep_25 rfl ?_
      refine zV_iconst (n := 29) (v := (1 : Int32)) C0 dX4_keep_28 rfl rfl ?_
      refine zV_iload_n (n := 30) C0 1 dX4_keep_29 rfl rfl ?_
      refine zV_ishl (n := 31) C0 dX4_keep_30  rfl ?_
      refine zV_ior (n := 32) C0 dX4_keep_31  rfl ?_
      refine zV_put (n := 35) (ref := RX4) C0 hinX4_keep_X4 0 rfl rfl 6 (Nat.le_of_ble_eq_true rfl) mX4_keep_2 rfl tyX4 tyX4_ok nmX4 rfl (tyX4_ok 6 (Nat.le_of_ble_eq_true rfl)) rfl rfl (Nat.le_of_ble_eq_true rfl) (upd S_3.1 6 ((S_3.1 6) ||| (zshl (1 : Int32) a1)), S_3.2) (wC_f6 cI q ad S_3 ((S_3.1 6) ||| (zshl (1 : Int32) a1))) dX4_keep_32 rfl ?_
      refine zV_topS (fun S_4 eS_4 => ?_)
      replace h := zlet_of eS_4 h
      clear eS_4
      refine zV_aload_n (n := 36) C0 0 dX4_keep_35 rfl rfl ?_
      refine zV_get (n := 39) (ref := RX4) C0 hinX4_keep_X4 0 rfl rfl 2 (Nat.le_of_ble_eq_true rfl) mX4_keep_0 rfl rfl dX4_keep_36 rfl ?_
      refine zV_getN (n := 42) (ref := RX2) C0 hinX4_keep_X2 3 rfl rfl 3 (Nat.le_of_ble_eq_true rfl) (fun hN => va_Nw.use rfl (hN _ (List.mem_of_getElem? (i := 6) rfl))) rfl rfl dX4_keep_39 rfl ?_
      exact zretI hR h rfl dX4_keep_42
    · replace h := if_f hb_5 h
      refine zV_sub [] rfl ?_
      exact Jk_1  h
set_option maxRecDepth 20000 in
theorem mX4_again_0 : Cond.fieldLink RX4 62 "LeggedThrough" "slotsKept" "I" ∈ wsX4_again := by decide +kernel
set_option maxRecDepth 20000 in
theorem mX4_again_1 : Cond.fieldLink RX4 26 "LeggedThrough" "state" "LLeggedThrough$State;" ∈ wsX4_again := by decide +kernel
set_option maxRecDepth 20000 in
theorem mX4_again_2 : Cond.fieldLink RX4 37 "LeggedThrough" "slots" "[I" ∈ wsX4_again := by decide +kernel
set_option maxRecDepth 20000 in
theorem mX4_again_3 : Cond.fieldLink RX4 33 "LeggedThrough" "acts" "LLeggedThrough$Acts;" ∈ wsX4_again := by decide +kernel
set_option maxRecDepth 20000 in
theorem hinX4_again_X2 : ∀ w ∈ u_ws RX2 TX2 4, w ∈ wsX4_again := fun w h => List.mem_cons_of_mem _ (List.mem_append_left _ (List.mem_append_right _ h))
set_option maxRecDepth 20000 in
theorem hinX4_again_X4 : ∀ w ∈ u_ws RX4 TX4 10, w ∈ wsX4_again := fun w h => List.mem_cons_of_mem _ (List.mem_append_left _ (List.mem_append_left _ (List.mem_append_right _ h)))
set_option maxRecDepth 20000 in
set_option maxHeartbeats 4000000 in
theorem k_X4_again {l : Launch} {D : va_G} {cI cZ : ClassId} {q : Nat} {ad : Nat → Nat} (a1 : Int32)  (S : zS) (r : Int32 × zS) (h : f_X4_again a1 S = some r) : zI l yX4_again wsX4_again (zRm 1 23) D (zty cI cZ) zNw (wC cI q ad) [.ref q, .int a1] S r := by
  refine zI_of (cc := cX4_again) (maxL := 2) (ty := .int) (by decide +kernel) rfl (Nat.le_of_ble_eq_true rfl) zNw_ok (fun E hE1 hE2 C0 hR => ?_)
  subst hE1; subst hE2
  replace C0 : zCx E (zRm 1 23) cX4_again 2 RX4 wsX4_again (zty cI cZ) zNw := C0
  show zV E (wC cI q ad) 2 S 0 [(0, .ref q), (1, .int a1)] []
  delta f_X4_again at h
  refine zV_iload_n (n := 1) C0 1 dX4_again_0 rfl rfl ?_
  refine zjoin_of h (fun k_1 hk_1 h => ?_)
  have Jk_1 : k_1 () = some r → zV E (wC cI q ad) 2 S 9 [] [] := by
    intro  h
    replace h := hk_1 _ h
    refine zV_iconst (n := 10) (v := (-1 : Int32)) C0 dX4_again_9 rfl rfl ?_
    exact zretI hR h rfl dX4_again_10
  clear hk_1
  refine zV_if_lt (tgt := 9) (n := 4) C0 dX4_again_1 rfl rfl (fun hb_10 => ?_) (fun hb_10 => ?_)
  · replace h := if_t hb_10 h
    refine zV_sub [] rfl ?_
    exact Jk_1  h
  · replace h := if_f hb_10 h
    refine zV_iload_n (n := 5) C0 1 dX4_again_4 rfl rfl ?_
    refine zV_iconst (n := 6) (v := (2 : Int32)) C0 dX4_again_5 rfl rfl ?_
    refine zV_icmp_lt (tgt := 11) (n := 9) C0 dX4_again_6 rfl rfl (fun hb_9 => ?_) (fun hb_9 => ?_)
    · replace h := if_t hb_9 h
      refine zV_aload_n (n := 12) C0 0 dX4_again_11 rfl rfl ?_
      refine zV_get (n := 15) (ref := RX4) C0 hinX4_again_X4 0 rfl rfl 6 (Nat.le_of_ble_eq_true rfl) mX4_again_0 rfl rfl dX4_again_12 rfl ?_
      refine zV_iload_n (n := 16) C0 1 dX4_again_15 rfl rfl ?_
      obtain ⟨r_3, hc_2, h⟩ := ob_of h
      refine zV_callS0 (n := 19) (st := []) (As := [.int (S.1 6), .int a1]) C0 (k_X4_isIn (S.1 6) a1 _ hc_2) gX4_again_X4_isIn rfl (hd_X4_isIn) rfl ⟨rfl, rfl⟩ ⟨Nat.le_of_ble_eq_true rfl, Nat.le_of_ble_eq_true rfl⟩ rfl (Nat.le_of_ble_eq_true rfl) dX4_again_16 rfl ?_
      refine zV_if_ne (tgt := 25) (n := 22) C0 dX4_again_19 rfl rfl (fun hb_8 => ?_) (fun hb_8 => ?_)
      · replace h := if_f hb_8 h
        refine zV_aload_n (n := 26) C0 0 dX4_again_25 rfl rfl ?_
        refine zV_get (n := 29) (ref := RX4) C0 hinX4_again_X4 0 rfl rfl 2 (Nat.le_of_ble_eq_true rfl) mX4_again_1 rfl rfl dX4_again_26 rfl ?_
        refine zV_aload_n (n := 30) C0 0 dX4_again_29 rfl rfl ?_
        refine zV_get (n := 33) (ref := RX4) C0 hinX4_again_X4 0 rfl rfl 4 (Nat.le_of_ble_eq_true rfl) mX4_again_2 rfl rfl dX4_again_30 rfl ?_
        refine zV_iload_n (n := 34) C0 1 dX4_again_33 rfl rfl ?_
        obtain ⟨S_5, hc_4, h⟩ := ob_of h
        refine zV_callVU (n := 37) (st := []) (As := [.ref (ad 4), .int a1]) C0 (k_X2_fetchFrom 4 a1 (by decide) S _ hc_4) gX4_again_X2_fetchFrom rfl (hd_X2_fetchFrom) rfl ⟨rfl, rfl⟩ ⟨Nat.le_of_ble_eq_true rfl, Nat.le_of_ble_eq_true rfl⟩ 3 rfl rfl rfl (Nat.le_of_ble_eq_true rfl) dX4_again_34 rfl ?_
        refine zV_aload_n (n := 38) C0 0 dX4_again_37 rfl rfl ?_
        refine zV_get (n := 41) (ref := RX4) C0 hinX4_again_X4 0 rfl rfl 3 (Nat.le_of_ble_eq_true rfl) mX4_again_3 rfl rfl dX4_again_38 rfl ?_
        obtain ⟨S_7, hc_6, h⟩ := ob_of h
        refine zV_callVU (n := 44) (st := []) (As := []) C0 (k_X0_forgetAll  S_5 _ hc_6) gX4_again_X0_forgetAll rfl (hd_X0_forgetAll) rfl ⟨rfl, rfl⟩ ⟨Nat.le_of_ble_eq_true rfl, Nat.le_of_ble_eq_true rfl⟩ 4 rfl rfl rfl (Nat.le_of_ble_eq_true rfl) dX4_again_41 rfl ?_
        refine zV_aload_n (n := 45) C0 0 dX4_again_44 rfl rfl ?_
        refine zV_get (n := 48) (ref := RX4) C0 hinX4_again_X4 0 rfl rfl 2 (Nat.le_of_ble_eq_true rfl) mX4_again_1 rfl rfl dX4_again_45 rfl ?_
        refine zV_getN (n := 51) (ref := RX2) C0 hinX4_again_X2 3 rfl rfl 3 (Nat.le_of_ble_eq_true rfl) (fun hN => va_Nw.use rfl (hN _ (List.mem_of_getElem? (i := 6) rfl))) rfl rfl dX4_again_48 rfl ?_
        exact zretI hR h rfl dX4_again_51
      · replace h := if_t hb_8 h
        refine zV_bipush (n := 24) (v := (-3 : Int32)) C0 dX4_again_22 rfl rfl ?_
        exact zretI hR h rfl dX4_again_24
    · replace h := if_f hb_9 h
      refine zV_sub [] rfl ?_
      exact Jk_1  h
